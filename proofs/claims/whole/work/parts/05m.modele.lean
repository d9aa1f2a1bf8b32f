def f_X11_way_b85 (x5 : Int32) (x7 : Int32) (x9 : Int32) (wide : Int32) (tall : Int32) (groups : Int32) (top : Nat → Int32) (rolled : Nat → Int32) (kind : Nat → Int32) (mark : Nat → Int32) (onward : Nat → Int32) (rec : (Int32) → Option (Int32)) (x8 : Int32) : Option (Int32) :=
  (f_X11_rollOf x7 x8 wide tall groups top rolled kind mark).bind fun r_2 => if r_2 = (-9) then (rec (x8 + 1)) else ((f_X11_rollOf x7 x8 wide tall groups top rolled kind mark).bind fun r_4 => (nx_rd onward 600 r_4).bind fun _ => (nx_rd onward 600 x7).bind fun _ => if (onward r_4.toNatClampNeg) = ((onward x7.toNatClampNeg) - 1) then (some x8) else (rec (x8 + 1)))
def f_X11_way_l85 (x5 : Int32) (x7 : Int32) (x9 : Int32) (wide : Int32) (tall : Int32) (groups : Int32) (top : Nat → Int32) (rolled : Nat → Int32) (kind : Nat → Int32) (mark : Nat → Int32) (onward : Nat → Int32) : Nat → (Int32) → Option (Int32) := nx_lp (fun rec z => f_X11_way_b85 x5 x7 x9 wide tall groups top rolled kind mark onward rec z)
def f_X11_way_b75 (N : Nat) (x5 : Int32) (wide : Int32) (tall : Int32) (groups : Int32) (top : Nat → Int32) (rolled : Nat → Int32) (kind : Nat → Int32) (mark : Nat → Int32) (onward : Nat → Int32) (rec : (Int32 × Int32 × Int32) → Option (Int32)) (x7 : Int32) (x8 : Int32) (x9 : Int32) : Option (Int32) :=
  if x5 < x9 then (some x8) else ((f_X11_way_l85 x5 x7 x9 wide tall groups top rolled kind mark onward N 0).bind fun z_9 => (f_X11_rollOf x7 z_9 wide tall groups top rolled kind mark).bind fun r_12 => rec (r_12, z_9, (x9 + 1)))
def f_X11_way_l75 (N : Nat) (x5 : Int32) (wide : Int32) (tall : Int32) (groups : Int32) (top : Nat → Int32) (rolled : Nat → Int32) (kind : Nat → Int32) (mark : Nat → Int32) (onward : Nat → Int32) : Nat → (Int32 × Int32 × Int32) → Option (Int32) := nx_lp (fun rec z => f_X11_way_b75 N x5 wide tall groups top rolled kind mark onward rec z.1 z.2.1 z.2.2)
def f_X11_way (N : Nat) (x1 : Int32) (x2 : Int32) (x3 : Int32) (x4 : Int32) (x5 : Int32) (wide : Int32) (tall : Int32) (groups : Int32) (top : Nat → Int32) (rolled : Nat → Int32) (kind : Nat → Int32) (mark : Nat → Int32) (onward : Nat → Int32) : Option (Int32 × ((Nat → Int32))) :=
  (f_X11_mayGo x1 x2 x3 x4 wide tall).bind fun r_14 => if 0 ≤ r_14 then ((f_X11_layOnward N x3 x4 wide tall groups top rolled kind mark onward).bind fun k_16 => (nx_rd k_16 600 ((24 * x1) + x2)).bind fun _ => if (k_16 ((24 * x1) + x2).toNatClampNeg) = 100000000 then (some ((-9), k_16)) else ((nx_rd k_16 600 ((24 * x1) + x2)).bind fun _ => (f_X11_in ((x5 : Int32).toInt64) 0 ((((k_16 ((24 * x1) + x2).toNatClampNeg) - 1) : Int32).toInt64)).bind fun r_22 => if r_22 = 0 then (some ((-9), k_16)) else ((f_X11_way_l75 N x5 wide tall groups top rolled kind mark k_16 N (((24 * x1) + x2), 0, 0)).bind fun z_23 => some (z_23, k_16)))) else (some (r_14, onward))
set_option maxHeartbeats 4000000 in
set_option maxRecDepth 100000 in
theorem c_X11_way (l : Launch) (N : Nat) (E : nx_E) (sz : Nat) (a : Nat → Nat) (wide : Int32) (tall : Int32) (groups : Int32) (tours : Int32) (tourLength : Int32) (rowMany : Int32) (cameBy : Int32) (top : Nat → Int32) (east : Nat → Int32) (south : Nat → Int32) (rolled : Nat → Int32) (off : Nat → Int32) (kind : Nat → Int32) (mark : Nat → Int32) (rolls : Nat → Int32) (many : Nat → Int64) (onward : Nat → Int32) (at_ : Nat → Int32) (goes : Nat → Int32) (firstTour : Nat → Int32) (rowWay : Nat → Int32) (rowSeen : Nat → Int32) (prints : Nat → Int32) (homeward : Nat → Int32) (x1 : Int32) (x2 : Int32) (x3 : Int32) (x4 : Int32) (x5 : Int32) (hI : nx_inj a 18) (o : Int32 × ((Nat → Int32))) (h : f_X11_way N x1 x2 x3 x4 x5 wide tall groups top rolled kind mark onward = some o) : Met l yX11_way (.code yX11_way cX11_way 10 (some .int) :: nx_T) (nx_rm 4 99) (va_Pc [.ref (a 0), .int x1, .int x2, .int x3, .int x4, .int x5] (nx_P E (nx_A a 18 sz) sz (mW E a wide tall groups tours tourLength rowMany cameBy top east south rolled off kind mark rolls many onward at_ goes firstTour rowWay rowSeen prints homeward))) (va_Qi (fun v u => (v, u) = o) (fun u t => va_P E.1 vwCl (mW E a wide tall groups tours tourLength rowMany cameBy top east south rolled off kind mark rolls many u at_ goes firstTour rowWay rowSeen prints homeward) t.heap) (nx_A a 18 sz)) 0 0 (nx_A a 18 sz) := by
  refine nx_enI (fun v u => (v, u) = o) (fun (u : (Nat → Int32)) => (mW E a wide tall groups tours tourLength rowMany cameBy top east south rolled off kind mark rolls many u at_ goes firstTour rowWay rowSeen prints homeward)) (by decide) (Nat.le_of_ble_eq_true rfl) ?_
  intro p e s m below meth c Q X kr hsz hP ls hl
  subst hsz
  generalize hargs : (List.toArray [.ref (a 0), .int x1, .int x2, .int x3, .int x4, .int x5] : Array Value) = args at X kr ⊢
  clear hargs
  obtain ⟨⟨hx, hb, hml, hown, hts⟩, hK, hSt, hNz⟩ := id X
  have hS : va_S (nx_A a 18 s.heap.size) s.heap s.heap [] := va_S.rf
  have hl : lv_has ls 10 [(0, .ref (a 0)), (1, .int x1), (2, .int x2), (3, .int x3), (4, .int x4), (5, .int x5)] := hl
  have L85 : ∀ (x5 : Int32) (x7 : Int32) (x9 : Int32) (onward : Nat → Int32) (n : Nat) (x8 : Int32) (z : (Int32)), f_X11_way_l85 x5 x7 x9 wide tall groups top rolled kind mark onward n x8 = some z → ∀ (H : Heap) (locs : List Loc) (ls : Array Slot), va_P E.1 vwCl (mW E a wide tall groups tours tourLength rowMany cameBy top east south rolled off kind mark rolls many onward at_ goes firstTour rowWay rowSeen prints homeward) H → va_S (nx_A a 18 s.heap.size) s.heap H locs → lv_has ls 10 [(0, .ref (a 0)), (5, .int x5), (7, .int x7), (8, .int x8), (9, .int x9)] → ∀ (kR : ∀ (H : Heap) (locs : List Loc) (ls : Array Slot), va_P E.1 vwCl (mW E a wide tall groups tours tourLength rowMany cameBy top east south rolled off kind mark rolls many onward at_ goes firstTour rowWay rowSeen prints homeward) H → va_S (nx_A a 18 s.heap.size) s.heap H locs → lv_has ls 10 [(0, .ref (a 0)), (5, .int x5), (7, .int x7), (8, .int z), (9, .int x9)] → W p l e (nx_rm 4 99) s m args below meth c H locs 0 0 Q (F0 m 129 ls [])), W p l e (nx_rm 4 99) s m args below meth c H locs 0 0 Q (F0 m 85 ls []) := by
   intro x5 x7 x9 onward n
   induction n with
   | zero => intro x8 z h; exact nomatch (show none = some z from h)
   | succ n ih =>
    intro x8 z h H locs ls hP hS hl kR
    have h : f_X11_way_b85 x5 x7 x9 wide tall groups top rolled kind mark onward (f_X11_way_l85 x5 x7 x9 wide tall groups top rolled kind mark onward n) x8 = some z := h
    unfold f_X11_way_b85 at h
    refine lv_aload_n hx hb dX11_way_85 rfl (lv_at hl 0 rfl) ?_
    refine lv_iload hx hb dX11_way_86 (lv_at hl 2 rfl) ?_
    refine lv_iload hx hb dX11_way_88 (lv_at hl 3 rfl) ?_
    obtain ⟨r_2, hc_1, h⟩ := nx_bd h
    refine nx_ki (nx_runV (As := [.int x7, .int x8]) (rest := []) X hS hP (c_X11_rollOf l E H.size a wide tall groups tours tourLength rowMany cameBy top east south rolled off kind mark rolls many onward at_ goes firstTour rowWay rowSeen prints homeward x7 x8 _ hc_1) nx_FA qV_RX11_123 ⟨rfl, rfl⟩ ⟨Nat.le_of_ble_eq_true rfl, Nat.le_of_ble_eq_true rfl⟩ ⟨Nat.zero_le _, Nat.zero_le _⟩ 0 rfl rfl rfl rfl hl.1 (Nat.le_of_ble_eq_true rfl) dX11_way_90) hS nx_FA (fun H locs hP hS => ?_)
    refine lv_bipush (v := (-9)) hx hb dX11_way_93 (by decide) ?_
    refine lv_icmp_eq (tgt := 123) hx hb dX11_way_95 (by decide) (fun hc => ?_) (fun hc => ?_)
    · have h := nx_it h hc
      refine lv_iinc (v := (x8 + 1)) (lv' := [(8, .int (x8 + 1)), (0, .ref (a 0)), (5, .int x5), (7, .int x7), (9, .int x9)]) hx hb dX11_way_123 hl (k := 3) rfl rfl (by decide) rfl (fun ls hl => ?_)
      refine lv_goto (tgt := 85) hx hb dX11_way_126 (by decide) ?_
      exact ih _ z h H locs ls hP hS (lv_sub hl [1, 2, 3, 0, 4] rfl) kR
    · have h := nx_if h hc
      refine lv_aload_n hx hb dX11_way_98 rfl (lv_at hl 0 rfl) ?_
      refine nx_gf X hP uw_X11 (ci := 10) rfl 0 rfl 12 (by decide) wf_RX11_45 rfl dX11_way_99 ?_
      refine lv_aload_n hx hb dX11_way_102 rfl (lv_at hl 0 rfl) ?_
      refine lv_iload hx hb dX11_way_103 (lv_at hl 2 rfl) ?_
      refine lv_iload hx hb dX11_way_105 (lv_at hl 3 rfl) ?_
      obtain ⟨r_4, hc_3, h⟩ := nx_bd h
      refine nx_ki (nx_runV (As := [.int x7, .int x8]) (rest := [.ref (a 10)]) X hS hP (c_X11_rollOf l E H.size a wide tall groups tours tourLength rowMany cameBy top east south rolled off kind mark rolls many onward at_ goes firstTour rowWay rowSeen prints homeward x7 x8 _ hc_3) nx_FA qV_RX11_123 ⟨rfl, rfl⟩ ⟨Nat.le_of_ble_eq_true rfl, Nat.le_of_ble_eq_true rfl⟩ ⟨Nat.zero_le _, Nat.zero_le _⟩ 0 rfl rfl rfl rfl hl.1 (Nat.le_of_ble_eq_true rfl) dX11_way_107) hS nx_FA (fun H locs hP hS => ?_)
      obtain ⟨hv_5, h⟩ := nx_rb h
      refine nx_ld X hP 10 rfl hv_5 dX11_way_110 ?_
      refine lv_aload_n hx hb dX11_way_111 rfl (lv_at hl 0 rfl) ?_
      refine nx_gf X hP uw_X11 (ci := 10) rfl 0 rfl 12 (by decide) wf_RX11_45 rfl dX11_way_112 ?_
      refine lv_iload hx hb dX11_way_115 (lv_at hl 2 rfl) ?_
      obtain ⟨hv_7, h⟩ := nx_rb h
      refine nx_ld X hP 10 rfl hv_7 dX11_way_117 ?_
      refine lv_iconst (v := 1) hx hb dX11_way_118 (by decide) ?_
      refine lv_isub hx hb dX11_way_119 ?_
      refine lv_icmp_eq (tgt := 129) hx hb dX11_way_120 (by decide) (fun hc => ?_) (fun hc => ?_)
      · have h := nx_it h hc
        obtain rfl := Option.some.inj h
        exact kR H locs ls hP hS (lv_sub hl [0, 1, 2, 3, 4] rfl)
      · have h := nx_if h hc
        refine lv_iinc (v := (x8 + 1)) (lv' := [(8, .int (x8 + 1)), (0, .ref (a 0)), (5, .int x5), (7, .int x7), (9, .int x9)]) hx hb dX11_way_123 hl (k := 3) rfl rfl (by decide) rfl (fun ls hl => ?_)
        refine lv_goto (tgt := 85) hx hb dX11_way_126 (by decide) ?_
        exact ih _ z h H locs ls hP hS (lv_sub hl [1, 2, 3, 0, 4] rfl) kR
  have L75 : ∀ (x5 : Int32) (onward : Nat → Int32) (n : Nat) (x7 : Int32) (x8 : Int32) (x9 : Int32) (z : (Int32)), f_X11_way_l75 N x5 wide tall groups top rolled kind mark onward n (x7, x8, x9) = some z → ∀ (H : Heap) (locs : List Loc) (ls : Array Slot), va_P E.1 vwCl (mW E a wide tall groups tours tourLength rowMany cameBy top east south rolled off kind mark rolls many onward at_ goes firstTour rowWay rowSeen prints homeward) H → va_S (nx_A a 18 s.heap.size) s.heap H locs → lv_has ls 10 [(0, .ref (a 0)), (5, .int x5), (7, .int x7), (8, .int x8), (9, .int x9)] → ∀ (kR : ∀ (H : Heap) (locs : List Loc) (ls : Array Slot), va_P E.1 vwCl (mW E a wide tall groups tours tourLength rowMany cameBy top east south rolled off kind mark rolls many onward at_ goes firstTour rowWay rowSeen prints homeward) H → va_S (nx_A a 18 s.heap.size) s.heap H locs → lv_has ls 10 [(0, .ref (a 0)), (8, .int z)] → W p l e (nx_rm 4 99) s m args below meth c H locs 0 0 Q (F0 m 145 ls [])), W p l e (nx_rm 4 99) s m args below meth c H locs 0 0 Q (F0 m 75 ls []) := by
   intro x5 onward n
   induction n with
   | zero => intro x7 x8 x9 z h; exact nomatch (show none = some z from h)
   | succ n ih =>
    intro x7 x8 x9 z h H locs ls hP hS hl kR
    have h : f_X11_way_b75 N x5 wide tall groups top rolled kind mark onward (f_X11_way_l75 N x5 wide tall groups top rolled kind mark onward n) x7 x8 x9 = some z := h
    unfold f_X11_way_b75 at h
    refine lv_iload hx hb dX11_way_75 (lv_at hl 4 rfl) ?_
    refine lv_iload hx hb dX11_way_77 (lv_at hl 1 rfl) ?_
    refine lv_icmp_gt (tgt := 145) hx hb dX11_way_79 (by decide) (fun hc => ?_) (fun hc => ?_)
    · have h := nx_it h hc
      obtain rfl := Option.some.inj h
      exact kR H locs ls hP hS (lv_sub hl [0, 3] rfl)
    · have h := nx_if h hc
      refine lv_iconst (v := 0) hx hb dX11_way_82 (by decide) ?_
      refine lv_istore (lv' := [(8, .int 0), (0, .ref (a 0)), (5, .int x5), (7, .int x7), (9, .int x9)]) hx hb dX11_way_83 hl (by decide) rfl (fun ls hl => ?_)
      obtain ⟨z_9, hz_10, h⟩ := nx_bd h
      refine L85 _ _ _ _ N _ _ hz_10 H locs ls hP hS (lv_sub hl [1, 2, 3, 0, 4] rfl) (fun H locs ls hP hS hl => ?_)
      refine lv_aload_n hx hb dX11_way_129 rfl (lv_at hl 0 rfl) ?_
      refine lv_iload hx hb dX11_way_130 (lv_at hl 2 rfl) ?_
      refine lv_iload hx hb dX11_way_132 (lv_at hl 3 rfl) ?_
      obtain ⟨r_12, hc_11, h⟩ := nx_bd h
      refine nx_ki (nx_runV (As := [.int x7, .int z_9]) (rest := []) X hS hP (c_X11_rollOf l E H.size a wide tall groups tours tourLength rowMany cameBy top east south rolled off kind mark rolls many onward at_ goes firstTour rowWay rowSeen prints homeward x7 z_9 _ hc_11) nx_FA qV_RX11_123 ⟨rfl, rfl⟩ ⟨Nat.le_of_ble_eq_true rfl, Nat.le_of_ble_eq_true rfl⟩ ⟨Nat.zero_le _, Nat.zero_le _⟩ 0 rfl rfl rfl rfl hl.1 (Nat.le_of_ble_eq_true rfl) dX11_way_134) hS nx_FA (fun H locs hP hS => ?_)
      refine lv_istore (lv' := [(7, .int r_12), (0, .ref (a 0)), (5, .int x5), (8, .int z_9), (9, .int x9)]) hx hb dX11_way_137 hl (by decide) rfl (fun ls hl => ?_)
      refine lv_iinc (v := (x9 + 1)) (lv' := [(9, .int (x9 + 1)), (7, .int r_12), (0, .ref (a 0)), (5, .int x5), (8, .int z_9)]) hx hb dX11_way_139 hl (k := 4) rfl rfl (by decide) rfl (fun ls hl => ?_)
      refine lv_goto (tgt := 75) hx hb dX11_way_142 (by decide) ?_
      exact ih _ _ _ z h H locs ls hP hS (lv_sub hl [2, 3, 1, 4, 0] rfl) kR
  unfold f_X11_way at h
  suffices hw : ∀ (H : Heap) (locs : List Loc), va_P E.1 vwCl (mW E a wide tall groups tours tourLength rowMany cameBy top east south rolled off kind mark rolls many onward at_ goes firstTour rowWay rowSeen prints homeward) H → va_S (nx_A a 18 s.heap.size) s.heap H locs → W p l e (nx_rm 4 99) s m args below meth c H locs 0 0 Q (F0 m 0 ls []) from hw _ _ hP va_S.rf
  intro H locs hP hS
  refine lv_aload_n hx hb dX11_way_0 rfl (lv_at hl 0 rfl) ?_
  refine lv_iload_n hx hb dX11_way_1 rfl (lv_at hl 1 rfl) ?_
  refine lv_iload_n hx hb dX11_way_2 rfl (lv_at hl 2 rfl) ?_
  refine lv_iload_n hx hb dX11_way_3 rfl (lv_at hl 3 rfl) ?_
  refine lv_iload hx hb dX11_way_4 (lv_at hl 4 rfl) ?_
  obtain ⟨r_14, hc_13, h⟩ := nx_bd h
  refine nx_ki (nx_runV (As := [.int x1, .int x2, .int x3, .int x4]) (rest := []) X hS hP (c_X11_mayGo l E H.size a wide tall groups tours tourLength rowMany cameBy top east south rolled off kind mark rolls many onward at_ goes firstTour rowWay rowSeen prints homeward x1 x2 x3 x4 _ hc_13) nx_FA qV_RX11_137 ⟨rfl, rfl⟩ ⟨Nat.le_of_ble_eq_true rfl, Nat.le_of_ble_eq_true rfl⟩ ⟨Nat.zero_le _, Nat.zero_le _⟩ 0 rfl rfl rfl rfl hl.1 (Nat.le_of_ble_eq_true rfl) dX11_way_6) hS nx_FA (fun H locs hP hS => ?_)
  refine lv_istore (lv' := [(6, .int r_14), (0, .ref (a 0)), (1, .int x1), (2, .int x2), (3, .int x3), (4, .int x4), (5, .int x5)]) hx hb dX11_way_9 hl (by decide) rfl (fun ls hl => ?_)
  refine lv_iload hx hb dX11_way_11 (lv_at hl 0 rfl) ?_
  refine lv_if_ge (tgt := 19) hx hb dX11_way_13 (by decide) (fun hc => ?_) (fun hc => ?_)
  · have h := nx_it h hc
    refine lv_aload_n hx hb dX11_way_19 rfl (lv_at hl 1 rfl) ?_
    refine lv_iload_n hx hb dX11_way_20 rfl (lv_at hl 4 rfl) ?_
    refine lv_iload hx hb dX11_way_21 (lv_at hl 5 rfl) ?_
    obtain ⟨k_16, hc_15, h⟩ := nx_bd h
    refine nx_kv (nx_runV (As := [.int x3, .int x4]) (rest := []) X hS hP (c_X11_layOnward l N E H.size a wide tall groups tours tourLength rowMany cameBy top east south rolled off kind mark rolls many onward at_ goes firstTour rowWay rowSeen prints homeward x3 x4 hI _ hc_15) (nx_Am hS.1) qV_RX11_148 ⟨rfl, rfl⟩ ⟨Nat.le_of_ble_eq_true rfl, Nat.le_of_ble_eq_true rfl⟩ ⟨Nat.zero_le _, Nat.zero_le _⟩ 0 rfl rfl rfl rfl hl.1 (Nat.le_of_ble_eq_true rfl) dX11_way_23) hS (nx_Am hS.1) (fun H locs hP hS => ?_)
    have hP : va_P E.1 vwCl (mW E a wide tall groups tours tourLength rowMany cameBy top east south rolled off kind mark rolls many k_16 at_ goes firstTour rowWay rowSeen prints homeward) H := hP
    refine lv_bipush (v := 24) hx hb dX11_way_26 (by decide) ?_
    refine lv_iload_n hx hb dX11_way_28 rfl (lv_at hl 2 rfl) ?_
    refine lv_imul hx hb dX11_way_29 ?_
    refine lv_iload_n hx hb dX11_way_30 rfl (lv_at hl 3 rfl) ?_
    refine lv_iadd hx hb dX11_way_31 ?_
    refine lv_istore (lv' := [(7, .int ((24 * x1) + x2)), (6, .int r_14), (0, .ref (a 0)), (1, .int x1), (2, .int x2), (3, .int x3), (4, .int x4), (5, .int x5)]) hx hb dX11_way_32 hl (by decide) rfl (fun ls hl => ?_)
    refine lv_aload_n hx hb dX11_way_34 rfl (lv_at hl 2 rfl) ?_
    refine nx_gf X hP uw_X11 (ci := 10) rfl 0 rfl 12 (by decide) wf_RX11_45 rfl dX11_way_35 ?_
    refine lv_iload hx hb dX11_way_38 (lv_at hl 0 rfl) ?_
    obtain ⟨hv_17, h⟩ := nx_rb h
    refine nx_ld X hP 10 rfl hv_17 dX11_way_40 ?_
    refine lv_ldc hx hb hown (hts _ wk_RX11_99) dX11_way_41 ?_
    refine lv_icmp_eq (tgt := 66) hx hb dX11_way_43 (by decide) (fun hc => ?_) (fun hc => ?_)
    · have h := nx_it h hc
      refine lv_bipush (v := (-9)) hx hb dX11_way_66 (by decide) ?_
      exact kr 68 ls (-9) k_16 H locs dX11_way_68 (Option.some.inj h) hP hS
    · have h := nx_if h hc
      refine lv_iload hx hb dX11_way_46 (lv_at hl 7 rfl) ?_
      refine lv_i2l (v := (x5 : Int32).toInt64) hx hb dX11_way_48 rfl ?_
      refine lv_lconst (v := 0) hx hb dX11_way_49 (by decide) ?_
      refine lv_aload_n hx hb dX11_way_50 rfl (lv_at hl 2 rfl) ?_
      refine nx_gf X hP uw_X11 (ci := 10) rfl 0 rfl 12 (by decide) wf_RX11_45 rfl dX11_way_51 ?_
      refine lv_iload hx hb dX11_way_54 (lv_at hl 0 rfl) ?_
      obtain ⟨hv_19, h⟩ := nx_rb h
      refine nx_ld X hP 10 rfl hv_19 dX11_way_56 ?_
      refine lv_iconst (v := 1) hx hb dX11_way_57 (by decide) ?_
      refine lv_isub hx hb dX11_way_58 ?_
      refine lv_i2l (v := (((k_16 ((24 * x1) + x2).toNatClampNeg) - 1) : Int32).toInt64) hx hb dX11_way_59 rfl ?_
      obtain ⟨r_22, hc_21, h⟩ := nx_bd h
      refine nx_ki (nx_runS (As := [.long ((x5 : Int32).toInt64), .long 0, .long ((((k_16 ((24 * x1) + x2).toNatClampNeg) - 1) : Int32).toInt64)]) (rest := []) X hS hP (c_X11_in l E H.size a wide tall groups tours tourLength rowMany cameBy top east south rolled off kind mark rolls many k_16 at_ goes firstTour rowWay rowSeen prints homeward ((x5 : Int32).toInt64) 0 ((((k_16 ((24 * x1) + x2).toNatClampNeg) - 1) : Int32).toInt64) _ hc_21) nx_FA qS_RX11_84 ⟨rfl, rfl⟩ ⟨Nat.le_of_ble_eq_true rfl, Nat.le_of_ble_eq_true rfl⟩ ⟨Nat.zero_le _, Nat.zero_le _⟩ rfl rfl hl.1 (Nat.le_of_ble_eq_true rfl) dX11_way_60) hS nx_FA (fun H locs hP hS => ?_)
      refine lv_if_ne (tgt := 69) hx hb dX11_way_63 (by decide) (fun hc => ?_) (fun hc => ?_)
      · have h := nx_if h hc
        refine lv_iconst (v := 0) hx hb dX11_way_69 (by decide) ?_
        refine lv_istore (lv' := [(8, .int 0), (7, .int ((24 * x1) + x2)), (6, .int r_14), (0, .ref (a 0)), (1, .int x1), (2, .int x2), (3, .int x3), (4, .int x4), (5, .int x5)]) hx hb dX11_way_70 hl (by decide) rfl (fun ls hl => ?_)
        refine lv_iconst (v := 0) hx hb dX11_way_72 (by decide) ?_
        refine lv_istore (lv' := [(9, .int 0), (8, .int 0), (7, .int ((24 * x1) + x2)), (6, .int r_14), (0, .ref (a 0)), (1, .int x1), (2, .int x2), (3, .int x3), (4, .int x4), (5, .int x5)]) hx hb dX11_way_73 hl (by decide) rfl (fun ls hl => ?_)
        obtain ⟨z_23, hz_24, h⟩ := nx_bd h
        refine L75 _ _ N _ _ _ _ hz_24 H locs ls hP hS (lv_sub hl [4, 9, 2, 1, 0] rfl) (fun H locs ls hP hS hl => ?_)
        refine lv_iload hx hb dX11_way_145 (lv_at hl 1 rfl) ?_
        exact kr 147 ls z_23 k_16 H locs dX11_way_147 (Option.some.inj h) hP hS
      · have h := nx_it h hc
        refine lv_bipush (v := (-9)) hx hb dX11_way_66 (by decide) ?_
        exact kr 68 ls (-9) k_16 H locs dX11_way_68 (Option.some.inj h) hP hS
  · have h := nx_if h hc
    refine lv_iload hx hb dX11_way_16 (lv_at hl 0 rfl) ?_
    exact kr 18 ls r_14 onward H locs dX11_way_18 (Option.some.inj h) hP hS
def f_X11_print (x1 : Int32) (top : Nat → Int32) : Option (Int32) :=
  (nx_rd top 24 (x1 - x1 / 24 * 24)).bind fun _ => some (7 - (top (x1 - x1 / 24 * 24).toNatClampNeg))
set_option maxHeartbeats 4000000 in
set_option maxRecDepth 100000 in
theorem c_X11_print (l : Launch) (E : nx_E) (sz : Nat) (a : Nat → Nat) (wide : Int32) (tall : Int32) (groups : Int32) (tours : Int32) (tourLength : Int32) (rowMany : Int32) (cameBy : Int32) (top : Nat → Int32) (east : Nat → Int32) (south : Nat → Int32) (rolled : Nat → Int32) (off : Nat → Int32) (kind : Nat → Int32) (mark : Nat → Int32) (rolls : Nat → Int32) (many : Nat → Int64) (onward : Nat → Int32) (at_ : Nat → Int32) (goes : Nat → Int32) (firstTour : Nat → Int32) (rowWay : Nat → Int32) (rowSeen : Nat → Int32) (prints : Nat → Int32) (homeward : Nat → Int32) (x1 : Int32) (o : Int32) (h : f_X11_print x1 top = some o) : Met l yX11_print (.code yX11_print cX11_print 2 (some .int) :: nx_T) (nx_rm 0 0) (va_Pc [.ref (a 0), .int x1] (nx_P E (nx_F) sz (mW E a wide tall groups tours tourLength rowMany cameBy top east south rolled off kind mark rolls many onward at_ goes firstTour rowWay rowSeen prints homeward))) (va_Qi (fun v (_ : Unit) => v = o) (fun _ t => va_P E.1 vwCl (mW E a wide tall groups tours tourLength rowMany cameBy top east south rolled off kind mark rolls many onward at_ goes firstTour rowWay rowSeen prints homeward) t.heap) (nx_F)) 0 0 (nx_F) := by
  refine nx_enI (fun v (_ : Unit) => v = o) (fun (_ : Unit) => (mW E a wide tall groups tours tourLength rowMany cameBy top east south rolled off kind mark rolls many onward at_ goes firstTour rowWay rowSeen prints homeward)) (by decide) (Nat.le_of_ble_eq_true rfl) ?_
  intro p e s m below meth c Q X kr hsz hP ls hl
  subst hsz
  generalize hargs : (List.toArray [.ref (a 0), .int x1] : Array Value) = args at X kr ⊢
  clear hargs
  obtain ⟨⟨hx, hb, hml, hown, hts⟩, hK, hSt, hNz⟩ := id X
  have hS : va_S (nx_F) s.heap s.heap [] := va_S.rf
  have hl : lv_has ls 2 [(0, .ref (a 0)), (1, .int x1)] := hl
  unfold f_X11_print at h
  suffices hw : ∀ (H : Heap) (locs : List Loc), va_P E.1 vwCl (mW E a wide tall groups tours tourLength rowMany cameBy top east south rolled off kind mark rolls many onward at_ goes firstTour rowWay rowSeen prints homeward) H → va_S (nx_F) s.heap H locs → W p l e (nx_rm 0 0) s m args below meth c H locs 0 0 Q (F0 m 0 ls []) from hw _ _ hP va_S.rf
  intro H locs hP hS
  refine lv_bipush (v := 7) hx hb dX11_print_0 (by decide) ?_
  refine lv_aload_n hx hb dX11_print_2 rfl (lv_at hl 0 rfl) ?_
  refine nx_gf X hP uw_X11 (ci := 10) rfl 0 rfl 0 (by decide) wf_RX11_7 rfl dX11_print_3 ?_
  refine lv_iload_n hx hb dX11_print_6 rfl (lv_at hl 1 rfl) ?_
  refine lv_bipush (v := 24) hx hb dX11_print_7 (by decide) ?_
  refine lv_irem hx hb dX11_print_9 (by decide) ?_
  obtain ⟨hv_1, h⟩ := nx_rb h
  refine nx_ld X hP 1 rfl hv_1 dX11_print_10 ?_
  refine lv_isub hx hb dX11_print_11 ?_
  exact kr 12 ls (7 - (top (x1 - x1 / 24 * 24).toNatClampNeg)) () H locs dX11_print_12 (Option.some.inj h) hP hS
def f_X11_cheapest_j62 (rec : (Int32 × (Nat → Int32)) → Option ((Nat → Int32))) (x1 : Int32) (x2 : Int32) (x3 : Int32) (x4 : Int32) (x6 : Int32) (x7 : Int32) (s0 : Int32) (s1 : Int32) (onward : Nat → Int32) : Option ((Nat → Int32)) :=
  (nx_ck 600 s1).bind fun _ => rec ((x7 + 1), (upd onward s1.toNatClampNeg s0))
def f_X11_cheapest_b31 (x1 : Int32) (x2 : Int32) (x3 : Int32) (x4 : Int32) (x6 : Int32) (top : Nat → Int32) (rec : (Int32 × (Nat → Int32)) → Option ((Nat → Int32))) (x7 : Int32) (onward : Nat → Int32) : Option ((Nat → Int32)) :=
  if x6 ≤ x7 then (some onward) else ((f_X11_isGoal x7 x3 x4 top).bind fun r_3 => if r_3 = 0 then (f_X11_cheapest_j62 rec x1 x2 x3 x4 x6 x7 100000000 x7 onward) else (f_X11_cheapest_j62 rec x1 x2 x3 x4 x6 x7 0 x7 onward))
def f_X11_cheapest_l31 (x1 : Int32) (x2 : Int32) (x3 : Int32) (x4 : Int32) (x6 : Int32) (top : Nat → Int32) : Nat → (Int32 × (Nat → Int32)) → Option ((Nat → Int32)) := nx_lp (fun rec z => f_X11_cheapest_b31 x1 x2 x3 x4 x6 top rec z.1 z.2)
def f_X11_cheapest_b83 (x1 : Int32) (x2 : Int32) (x6 : Int32) (wide : Int32) (tall : Int32) (groups : Int32) (top : Nat → Int32) (rolled : Nat → Int32) (kind : Nat → Int32) (mark : Nat → Int32) (rec : (Int32 × Int32 × (Nat → Int32)) → Option (Int32 × (Nat → Int32))) (x7 : Int32) (x8 : Int32) (onward : Nat → Int32) : Option (Int32 × (Nat → Int32)) :=
  if (4 * x6) ≤ x8 then (some (x7, onward)) else ((f_X11_rollOf (x8 / 4) (x8 - x8 / 4 * 4) wide tall groups top rolled kind mark).bind fun r_5 => if r_5 = (-9) then (rec (x7, (x8 + 1), onward)) else ((nx_rd onward 600 r_5).bind fun _ => (f_X11_print r_5 top).bind fun r_9 => (nx_rd onward 600 (x8 / 4)).bind fun _ => if (onward (x8 / 4).toNatClampNeg) ≤ ((onward r_5.toNatClampNeg) + r_9) then (rec (x7, (x8 + 1), onward)) else ((nx_rd onward 600 r_5).bind fun _ => (f_X11_print r_5 top).bind fun r_15 => (nx_ck 600 (x8 / 4)).bind fun _ => rec (1, (x8 + 1), (upd onward (x8 / 4).toNatClampNeg ((onward r_5.toNatClampNeg) + r_15))))))
def f_X11_cheapest_l83 (x1 : Int32) (x2 : Int32) (x6 : Int32) (wide : Int32) (tall : Int32) (groups : Int32) (top : Nat → Int32) (rolled : Nat → Int32) (kind : Nat → Int32) (mark : Nat → Int32) : Nat → (Int32 × Int32 × (Nat → Int32)) → Option (Int32 × (Nat → Int32)) := nx_lp (fun rec z => f_X11_cheapest_b83 x1 x2 x6 wide tall groups top rolled kind mark rec z.1 z.2.1 z.2.2)
def f_X11_cheapest_b72 (N : Nat) (x1 : Int32) (x2 : Int32) (x6 : Int32) (wide : Int32) (tall : Int32) (groups : Int32) (top : Nat → Int32) (rolled : Nat → Int32) (kind : Nat → Int32) (mark : Nat → Int32) (rec : (Int32 × (Nat → Int32)) → Option ((Nat → Int32))) (x7 : Int32) (onward : Nat → Int32) : Option ((Nat → Int32)) :=
  if x7 = 0 then (some onward) else ((f_X11_cheapest_l83 x1 x2 x6 wide tall groups top rolled kind mark N (0, 0, onward)).bind fun z_17 => rec (z_17.1, z_17.2))
def f_X11_cheapest_l72 (N : Nat) (x1 : Int32) (x2 : Int32) (x6 : Int32) (wide : Int32) (tall : Int32) (groups : Int32) (top : Nat → Int32) (rolled : Nat → Int32) (kind : Nat → Int32) (mark : Nat → Int32) : Nat → (Int32 × (Nat → Int32)) → Option ((Nat → Int32)) := nx_lp (fun rec z => f_X11_cheapest_b72 N x1 x2 x6 wide tall groups top rolled kind mark rec z.1 z.2)
def f_X11_cheapest (N : Nat) (x1 : Int32) (x2 : Int32) (x3 : Int32) (x4 : Int32) (wide : Int32) (tall : Int32) (groups : Int32) (top : Nat → Int32) (rolled : Nat → Int32) (kind : Nat → Int32) (mark : Nat → Int32) (onward : Nat → Int32) : Option (Int32 × ((Nat → Int32))) :=
  (f_X11_mayGo x1 x2 x3 x4 wide tall).bind fun r_20 => if 0 ≤ r_20 then ((f_X11_cells wide tall).bind fun r_22 => (f_X11_cheapest_l31 x1 x2 x3 x4 (24 * r_22) top N (0, onward)).bind fun z_23 => (f_X11_cheapest_l72 N x1 x2 (24 * r_22) wide tall groups top rolled kind mark N (1, z_23)).bind fun z_25 => (nx_rd z_25 600 ((24 * x1) + x2)).bind fun _ => if (z_25 ((24 * x1) + x2).toNatClampNeg) = 100000000 then (some ((-9), z_25)) else ((nx_rd z_25 600 ((24 * x1) + x2)).bind fun _ => some ((z_25 ((24 * x1) + x2).toNatClampNeg), z_25))) else (some (r_20, onward))
set_option maxHeartbeats 4000000 in
set_option maxRecDepth 100000 in
theorem c_X11_cheapest (l : Launch) (N : Nat) (E : nx_E) (sz : Nat) (a : Nat → Nat) (wide : Int32) (tall : Int32) (groups : Int32) (tours : Int32) (tourLength : Int32) (rowMany : Int32) (cameBy : Int32) (top : Nat → Int32) (east : Nat → Int32) (south : Nat → Int32) (rolled : Nat → Int32) (off : Nat → Int32) (kind : Nat → Int32) (mark : Nat → Int32) (rolls : Nat → Int32) (many : Nat → Int64) (onward : Nat → Int32) (at_ : Nat → Int32) (goes : Nat → Int32) (firstTour : Nat → Int32) (rowWay : Nat → Int32) (rowSeen : Nat → Int32) (prints : Nat → Int32) (homeward : Nat → Int32) (x1 : Int32) (x2 : Int32) (x3 : Int32) (x4 : Int32) (hI : nx_inj a 18) (o : Int32 × ((Nat → Int32))) (h : f_X11_cheapest N x1 x2 x3 x4 wide tall groups top rolled kind mark onward = some o) : Met l yX11_cheapest (.code yX11_cheapest cX11_cheapest 10 (some .int) :: nx_T) (nx_rm 3 73) (va_Pc [.ref (a 0), .int x1, .int x2, .int x3, .int x4] (nx_P E (nx_A a 18 sz) sz (mW E a wide tall groups tours tourLength rowMany cameBy top east south rolled off kind mark rolls many onward at_ goes firstTour rowWay rowSeen prints homeward))) (va_Qi (fun v u => (v, u) = o) (fun u t => va_P E.1 vwCl (mW E a wide tall groups tours tourLength rowMany cameBy top east south rolled off kind mark rolls many u at_ goes firstTour rowWay rowSeen prints homeward) t.heap) (nx_A a 18 sz)) 0 0 (nx_A a 18 sz) := by
  refine nx_enI (fun v u => (v, u) = o) (fun (u : (Nat → Int32)) => (mW E a wide tall groups tours tourLength rowMany cameBy top east south rolled off kind mark rolls many u at_ goes firstTour rowWay rowSeen prints homeward)) (by decide) (Nat.le_of_ble_eq_true rfl) ?_
  intro p e s m below meth c Q X kr hsz hP ls hl
  subst hsz
  generalize hargs : (List.toArray [.ref (a 0), .int x1, .int x2, .int x3, .int x4] : Array Value) = args at X kr ⊢
  clear hargs
  obtain ⟨⟨hx, hb, hml, hown, hts⟩, hK, hSt, hNz⟩ := id X
  have hS : va_S (nx_A a 18 s.heap.size) s.heap s.heap [] := va_S.rf
  have hl : lv_has ls 10 [(0, .ref (a 0)), (1, .int x1), (2, .int x2), (3, .int x3), (4, .int x4)] := hl
  have L31 : ∀ (x1 : Int32) (x2 : Int32) (x3 : Int32) (x4 : Int32) (x6 : Int32) (n : Nat) (x7 : Int32) (onward : Nat → Int32) (z : ((Nat → Int32))), f_X11_cheapest_l31 x1 x2 x3 x4 x6 top n (x7, onward) = some z → ∀ (H : Heap) (locs : List Loc) (ls : Array Slot), va_P E.1 vwCl (mW E a wide tall groups tours tourLength rowMany cameBy top east south rolled off kind mark rolls many onward at_ goes firstTour rowWay rowSeen prints homeward) H → va_S (nx_A a 18 s.heap.size) s.heap H locs → lv_has ls 10 [(0, .ref (a 0)), (1, .int x1), (2, .int x2), (3, .int x3), (4, .int x4), (6, .int x6), (7, .int x7)] → ∀ (kR : ∀ (H : Heap) (locs : List Loc) (ls : Array Slot), va_P E.1 vwCl (mW E a wide tall groups tours tourLength rowMany cameBy top east south rolled off kind mark rolls many z at_ goes firstTour rowWay rowSeen prints homeward) H → va_S (nx_A a 18 s.heap.size) s.heap H locs → lv_has ls 10 [(0, .ref (a 0)), (1, .int x1), (2, .int x2), (6, .int x6)] → W p l e (nx_rm 3 73) s m args below meth c H locs 0 0 Q (F0 m 69 ls [])), W p l e (nx_rm 3 73) s m args below meth c H locs 0 0 Q (F0 m 31 ls []) := by
   intro x1 x2 x3 x4 x6 n
   induction n with
   | zero => intro x7 onward z h; exact nomatch (show none = some z from h)
   | succ n ih =>
    intro x7 onward z h H locs ls hP hS hl kR
    have h : f_X11_cheapest_b31 x1 x2 x3 x4 x6 top (f_X11_cheapest_l31 x1 x2 x3 x4 x6 top n) x7 onward = some z := h
    have J62 : ∀ (x7 : Int32) (s0 : Int32) (s1 : Int32) (onward : Nat → Int32), f_X11_cheapest_j62 (f_X11_cheapest_l31 x1 x2 x3 x4 x6 top n) x1 x2 x3 x4 x6 x7 s0 s1 onward = some z → ∀ (H : Heap) (locs : List Loc) (ls : Array Slot), va_P E.1 vwCl (mW E a wide tall groups tours tourLength rowMany cameBy top east south rolled off kind mark rolls many onward at_ goes firstTour rowWay rowSeen prints homeward) H → va_S (nx_A a 18 s.heap.size) s.heap H locs → lv_has ls 10 [(0, .ref (a 0)), (1, .int x1), (2, .int x2), (3, .int x3), (4, .int x4), (6, .int x6), (7, .int x7)] → W p l e (nx_rm 3 73) s m args below meth c H locs 0 0 Q (F0 m 62 ls [.int s0, .int s1, .ref (a 10)]) := by
      intro x7 s0 s1 onward h H locs ls hP hS hl
      unfold f_X11_cheapest_j62 at h
      obtain ⟨hv_1, h⟩ := nx_cb h
      refine nx_st X hI mW_ad hP hS 10 rfl hv_1 dX11_cheapest_62 (fun H locs hP hS => ?_)
      have hP : va_P E.1 vwCl (mW E a wide tall groups tours tourLength rowMany cameBy top east south rolled off kind mark rolls many (upd onward s1.toNatClampNeg s0) at_ goes firstTour rowWay rowSeen prints homeward) H := hP
      refine lv_iinc (v := (x7 + 1)) (lv' := [(7, .int (x7 + 1)), (0, .ref (a 0)), (1, .int x1), (2, .int x2), (3, .int x3), (4, .int x4), (6, .int x6)]) hx hb dX11_cheapest_63 hl (k := 6) rfl rfl (by decide) rfl (fun ls hl => ?_)
      refine lv_goto (tgt := 31) hx hb dX11_cheapest_66 (by decide) ?_
      exact ih _ _ z h H locs ls hP hS (lv_sub hl [1, 2, 3, 4, 5, 6, 0] rfl) kR
    unfold f_X11_cheapest_b31 at h
    refine lv_iload hx hb dX11_cheapest_31 (lv_at hl 6 rfl) ?_
    refine lv_iload hx hb dX11_cheapest_33 (lv_at hl 5 rfl) ?_
    refine lv_icmp_ge (tgt := 69) hx hb dX11_cheapest_35 (by decide) (fun hc => ?_) (fun hc => ?_)
    · have h := nx_it h hc
      obtain rfl := Option.some.inj h
      exact kR H locs ls hP hS (lv_sub hl [0, 1, 2, 5] rfl)
    · have h := nx_if h hc
      refine lv_aload_n hx hb dX11_cheapest_38 rfl (lv_at hl 0 rfl) ?_
      refine nx_gf X hP uw_X11 (ci := 10) rfl 0 rfl 12 (by decide) wf_RX11_45 rfl dX11_cheapest_39 ?_
      refine lv_iload hx hb dX11_cheapest_42 (lv_at hl 6 rfl) ?_
      refine lv_aload_n hx hb dX11_cheapest_44 rfl (lv_at hl 0 rfl) ?_
      refine lv_iload hx hb dX11_cheapest_45 (lv_at hl 6 rfl) ?_
      refine lv_iload_n hx hb dX11_cheapest_47 rfl (lv_at hl 3 rfl) ?_
      refine lv_iload hx hb dX11_cheapest_48 (lv_at hl 4 rfl) ?_
      obtain ⟨r_3, hc_2, h⟩ := nx_bd h
      refine nx_ki (nx_runV (As := [.int x7, .int x3, .int x4]) (rest := [.int x7, .ref (a 10)]) X hS hP (c_X11_isGoal l E H.size a wide tall groups tours tourLength rowMany cameBy top east south rolled off kind mark rolls many onward at_ goes firstTour rowWay rowSeen prints homeward x7 x3 x4 _ hc_2) nx_FA qV_RX11_133 ⟨rfl, rfl⟩ ⟨Nat.le_of_ble_eq_true rfl, Nat.le_of_ble_eq_true rfl⟩ ⟨Nat.zero_le _, Nat.zero_le _⟩ 0 rfl rfl rfl rfl hl.1 (Nat.le_of_ble_eq_true rfl) dX11_cheapest_50) hS nx_FA (fun H locs hP hS => ?_)
      refine lv_if_eq (tgt := 60) hx hb dX11_cheapest_53 (by decide) (fun hc => ?_) (fun hc => ?_)
      · have h := nx_it h hc
        refine lv_ldc hx hb hown (hts _ wk_RX11_99) dX11_cheapest_60 ?_
        exact J62 _ _ _ _ h H locs ls hP hS (lv_sub hl [0, 1, 2, 3, 4, 5, 6] rfl)
      · have h := nx_if h hc
        refine lv_iconst (v := 0) hx hb dX11_cheapest_56 (by decide) ?_
        refine lv_goto (tgt := 62) hx hb dX11_cheapest_57 (by decide) ?_
        exact J62 _ _ _ _ h H locs ls hP hS (lv_sub hl [0, 1, 2, 3, 4, 5, 6] rfl)
  have L83 : ∀ (x1 : Int32) (x2 : Int32) (x6 : Int32) (n : Nat) (x7 : Int32) (x8 : Int32) (onward : Nat → Int32) (z : (Int32 × (Nat → Int32))), f_X11_cheapest_l83 x1 x2 x6 wide tall groups top rolled kind mark n (x7, x8, onward) = some z → ∀ (H : Heap) (locs : List Loc) (ls : Array Slot), va_P E.1 vwCl (mW E a wide tall groups tours tourLength rowMany cameBy top east south rolled off kind mark rolls many onward at_ goes firstTour rowWay rowSeen prints homeward) H → va_S (nx_A a 18 s.heap.size) s.heap H locs → lv_has ls 10 [(0, .ref (a 0)), (1, .int x1), (2, .int x2), (6, .int x6), (7, .int x7), (8, .int x8)] → ∀ (kR : ∀ (H : Heap) (locs : List Loc) (ls : Array Slot), va_P E.1 vwCl (mW E a wide tall groups tours tourLength rowMany cameBy top east south rolled off kind mark rolls many (z.2) at_ goes firstTour rowWay rowSeen prints homeward) H → va_S (nx_A a 18 s.heap.size) s.heap H locs → lv_has ls 10 [(0, .ref (a 0)), (1, .int x1), (2, .int x2), (6, .int x6), (7, .int z.1)] → W p l e (nx_rm 3 73) s m args below meth c H locs 0 0 Q (F0 m 171 ls [])), W p l e (nx_rm 3 73) s m args below meth c H locs 0 0 Q (F0 m 83 ls []) := by
   intro x1 x2 x6 n
   induction n with
   | zero => intro x7 x8 onward z h; exact nomatch (show none = some z from h)
   | succ n ih =>
    intro x7 x8 onward z h H locs ls hP hS hl kR
    have h : f_X11_cheapest_b83 x1 x2 x6 wide tall groups top rolled kind mark (f_X11_cheapest_l83 x1 x2 x6 wide tall groups top rolled kind mark n) x7 x8 onward = some z := h
    unfold f_X11_cheapest_b83 at h
    refine lv_iload hx hb dX11_cheapest_83 (lv_at hl 5 rfl) ?_
    refine lv_iconst (v := 4) hx hb dX11_cheapest_85 (by decide) ?_
    refine lv_iload hx hb dX11_cheapest_86 (lv_at hl 3 rfl) ?_
    refine lv_imul hx hb dX11_cheapest_88 ?_
    refine lv_icmp_ge (tgt := 171) hx hb dX11_cheapest_89 (by decide) (fun hc => ?_) (fun hc => ?_)
    · have h := nx_it h hc
      obtain rfl := Option.some.inj h
      exact kR H locs ls hP hS (lv_sub hl [0, 1, 2, 3, 4] rfl)
    · have h := nx_if h hc
      refine lv_aload_n hx hb dX11_cheapest_92 rfl (lv_at hl 0 rfl) ?_
      refine lv_iload hx hb dX11_cheapest_93 (lv_at hl 5 rfl) ?_
      refine lv_iconst (v := 4) hx hb dX11_cheapest_95 (by decide) ?_
      refine lv_idiv hx hb dX11_cheapest_96 (by decide) ?_
      refine lv_iload hx hb dX11_cheapest_97 (lv_at hl 5 rfl) ?_
      refine lv_iconst (v := 4) hx hb dX11_cheapest_99 (by decide) ?_
      refine lv_irem hx hb dX11_cheapest_100 (by decide) ?_
      obtain ⟨r_5, hc_4, h⟩ := nx_bd h
      refine nx_ki (nx_runV (As := [.int (x8 / 4), .int (x8 - x8 / 4 * 4)]) (rest := []) X hS hP (c_X11_rollOf l E H.size a wide tall groups tours tourLength rowMany cameBy top east south rolled off kind mark rolls many onward at_ goes firstTour rowWay rowSeen prints homeward (x8 / 4) (x8 - x8 / 4 * 4) _ hc_4) nx_FA qV_RX11_123 ⟨rfl, rfl⟩ ⟨Nat.le_of_ble_eq_true rfl, Nat.le_of_ble_eq_true rfl⟩ ⟨Nat.zero_le _, Nat.zero_le _⟩ 0 rfl rfl rfl rfl hl.1 (Nat.le_of_ble_eq_true rfl) dX11_cheapest_101) hS nx_FA (fun H locs hP hS => ?_)
      refine lv_istore (lv' := [(9, .int r_5), (0, .ref (a 0)), (1, .int x1), (2, .int x2), (6, .int x6), (7, .int x7), (8, .int x8)]) hx hb dX11_cheapest_104 hl (by decide) rfl (fun ls hl => ?_)
      refine lv_iload hx hb dX11_cheapest_106 (lv_at hl 0 rfl) ?_
      refine lv_bipush (v := (-9)) hx hb dX11_cheapest_108 (by decide) ?_
      refine lv_icmp_eq (tgt := 165) hx hb dX11_cheapest_110 (by decide) (fun hc => ?_) (fun hc => ?_)
      · have h := nx_it h hc
        refine lv_iinc (v := (x8 + 1)) (lv' := [(8, .int (x8 + 1)), (9, .int r_5), (0, .ref (a 0)), (1, .int x1), (2, .int x2), (6, .int x6), (7, .int x7)]) hx hb dX11_cheapest_165 hl (k := 6) rfl rfl (by decide) rfl (fun ls hl => ?_)
        refine lv_goto (tgt := 83) hx hb dX11_cheapest_168 (by decide) ?_
        exact ih _ _ _ z h H locs ls hP hS (lv_sub hl [2, 3, 4, 5, 6, 0] rfl) kR
      · have h := nx_if h hc
        refine lv_aload_n hx hb dX11_cheapest_113 rfl (lv_at hl 1 rfl) ?_
        refine nx_gf X hP uw_X11 (ci := 10) rfl 0 rfl 12 (by decide) wf_RX11_45 rfl dX11_cheapest_114 ?_
        refine lv_iload hx hb dX11_cheapest_117 (lv_at hl 0 rfl) ?_
        obtain ⟨hv_6, h⟩ := nx_rb h
        refine nx_ld X hP 10 rfl hv_6 dX11_cheapest_119 ?_
        refine lv_aload_n hx hb dX11_cheapest_120 rfl (lv_at hl 1 rfl) ?_
        refine lv_iload hx hb dX11_cheapest_121 (lv_at hl 0 rfl) ?_
        obtain ⟨r_9, hc_8, h⟩ := nx_bd h
        refine nx_ki (nx_runV (As := [.int r_5]) (rest := [.int (onward r_5.toNatClampNeg)]) X hS hP (c_X11_print l E H.size a wide tall groups tours tourLength rowMany cameBy top east south rolled off kind mark rolls many onward at_ goes firstTour rowWay rowSeen prints homeward r_5 _ hc_8) nx_FA qV_RX11_152 ⟨rfl, rfl⟩ ⟨Nat.le_of_ble_eq_true rfl, Nat.le_of_ble_eq_true rfl⟩ ⟨Nat.zero_le _, Nat.zero_le _⟩ 0 rfl rfl rfl rfl hl.1 (Nat.le_of_ble_eq_true rfl) dX11_cheapest_123) hS nx_FA (fun H locs hP hS => ?_)
        refine lv_iadd hx hb dX11_cheapest_126 ?_
        refine lv_aload_n hx hb dX11_cheapest_127 rfl (lv_at hl 1 rfl) ?_
        refine nx_gf X hP uw_X11 (ci := 10) rfl 0 rfl 12 (by decide) wf_RX11_45 rfl dX11_cheapest_128 ?_
        refine lv_iload hx hb dX11_cheapest_131 (lv_at hl 6 rfl) ?_
        refine lv_iconst (v := 4) hx hb dX11_cheapest_133 (by decide) ?_
        refine lv_idiv hx hb dX11_cheapest_134 (by decide) ?_
        obtain ⟨hv_10, h⟩ := nx_rb h
        refine nx_ld X hP 10 rfl hv_10 dX11_cheapest_135 ?_
        refine lv_icmp_ge (tgt := 165) hx hb dX11_cheapest_136 (by decide) (fun hc => ?_) (fun hc => ?_)
        · have h := nx_it h hc
          refine lv_iinc (v := (x8 + 1)) (lv' := [(8, .int (x8 + 1)), (9, .int r_5), (0, .ref (a 0)), (1, .int x1), (2, .int x2), (6, .int x6), (7, .int x7)]) hx hb dX11_cheapest_165 hl (k := 6) rfl rfl (by decide) rfl (fun ls hl => ?_)
          refine lv_goto (tgt := 83) hx hb dX11_cheapest_168 (by decide) ?_
          exact ih _ _ _ z h H locs ls hP hS (lv_sub hl [2, 3, 4, 5, 6, 0] rfl) kR
        · have h := nx_if h hc
          refine lv_aload_n hx hb dX11_cheapest_139 rfl (lv_at hl 1 rfl) ?_
          refine nx_gf X hP uw_X11 (ci := 10) rfl 0 rfl 12 (by decide) wf_RX11_45 rfl dX11_cheapest_140 ?_
          refine lv_iload hx hb dX11_cheapest_143 (lv_at hl 6 rfl) ?_
          refine lv_iconst (v := 4) hx hb dX11_cheapest_145 (by decide) ?_
          refine lv_idiv hx hb dX11_cheapest_146 (by decide) ?_
          refine lv_aload_n hx hb dX11_cheapest_147 rfl (lv_at hl 1 rfl) ?_
          refine nx_gf X hP uw_X11 (ci := 10) rfl 0 rfl 12 (by decide) wf_RX11_45 rfl dX11_cheapest_148 ?_
          refine lv_iload hx hb dX11_cheapest_151 (lv_at hl 0 rfl) ?_
          obtain ⟨hv_12, h⟩ := nx_rb h
          refine nx_ld X hP 10 rfl hv_12 dX11_cheapest_153 ?_
          refine lv_aload_n hx hb dX11_cheapest_154 rfl (lv_at hl 1 rfl) ?_
          refine lv_iload hx hb dX11_cheapest_155 (lv_at hl 0 rfl) ?_
          obtain ⟨r_15, hc_14, h⟩ := nx_bd h
          refine nx_ki (nx_runV (As := [.int r_5]) (rest := [.int (onward r_5.toNatClampNeg), .int (x8 / 4), .ref (a 10)]) X hS hP (c_X11_print l E H.size a wide tall groups tours tourLength rowMany cameBy top east south rolled off kind mark rolls many onward at_ goes firstTour rowWay rowSeen prints homeward r_5 _ hc_14) nx_FA qV_RX11_152 ⟨rfl, rfl⟩ ⟨Nat.le_of_ble_eq_true rfl, Nat.le_of_ble_eq_true rfl⟩ ⟨Nat.zero_le _, Nat.zero_le _⟩ 0 rfl rfl rfl rfl hl.1 (Nat.le_of_ble_eq_true rfl) dX11_cheapest_157) hS nx_FA (fun H locs hP hS => ?_)
          refine lv_iadd hx hb dX11_cheapest_160 ?_
          obtain ⟨hv_16, h⟩ := nx_cb h
          refine nx_st X hI mW_ad hP hS 10 rfl hv_16 dX11_cheapest_161 (fun H locs hP hS => ?_)
          have hP : va_P E.1 vwCl (mW E a wide tall groups tours tourLength rowMany cameBy top east south rolled off kind mark rolls many (upd onward (x8 / 4).toNatClampNeg ((onward r_5.toNatClampNeg) + r_15)) at_ goes firstTour rowWay rowSeen prints homeward) H := hP
          refine lv_iconst (v := 1) hx hb dX11_cheapest_162 (by decide) ?_
          refine lv_istore (lv' := [(7, .int 1), (9, .int r_5), (0, .ref (a 0)), (1, .int x1), (2, .int x2), (6, .int x6), (8, .int x8)]) hx hb dX11_cheapest_163 hl (by decide) rfl (fun ls hl => ?_)
          refine lv_iinc (v := (x8 + 1)) (lv' := [(8, .int (x8 + 1)), (7, .int 1), (9, .int r_5), (0, .ref (a 0)), (1, .int x1), (2, .int x2), (6, .int x6)]) hx hb dX11_cheapest_165 hl (k := 6) rfl rfl (by decide) rfl (fun ls hl => ?_)
          refine lv_goto (tgt := 83) hx hb dX11_cheapest_168 (by decide) ?_
          exact ih _ _ _ z h H locs ls hP hS (lv_sub hl [3, 4, 5, 6, 1, 0] rfl) kR
  have L72 : ∀ (x1 : Int32) (x2 : Int32) (x6 : Int32) (n : Nat) (x7 : Int32) (onward : Nat → Int32) (z : ((Nat → Int32))), f_X11_cheapest_l72 N x1 x2 x6 wide tall groups top rolled kind mark n (x7, onward) = some z → ∀ (H : Heap) (locs : List Loc) (ls : Array Slot), va_P E.1 vwCl (mW E a wide tall groups tours tourLength rowMany cameBy top east south rolled off kind mark rolls many onward at_ goes firstTour rowWay rowSeen prints homeward) H → va_S (nx_A a 18 s.heap.size) s.heap H locs → lv_has ls 10 [(0, .ref (a 0)), (1, .int x1), (2, .int x2), (6, .int x6), (7, .int x7)] → ∀ (kR : ∀ (H : Heap) (locs : List Loc) (ls : Array Slot), va_P E.1 vwCl (mW E a wide tall groups tours tourLength rowMany cameBy top east south rolled off kind mark rolls many z at_ goes firstTour rowWay rowSeen prints homeward) H → va_S (nx_A a 18 s.heap.size) s.heap H locs → lv_has ls 10 [(0, .ref (a 0)), (1, .int x1), (2, .int x2)] → W p l e (nx_rm 3 73) s m args below meth c H locs 0 0 Q (F0 m 174 ls [])), W p l e (nx_rm 3 73) s m args below meth c H locs 0 0 Q (F0 m 72 ls []) := by
   intro x1 x2 x6 n
   induction n with
   | zero => intro x7 onward z h; exact nomatch (show none = some z from h)
   | succ n ih =>
    intro x7 onward z h H locs ls hP hS hl kR
    have h : f_X11_cheapest_b72 N x1 x2 x6 wide tall groups top rolled kind mark (f_X11_cheapest_l72 N x1 x2 x6 wide tall groups top rolled kind mark n) x7 onward = some z := h
    unfold f_X11_cheapest_b72 at h
    refine lv_iload hx hb dX11_cheapest_72 (lv_at hl 4 rfl) ?_
    refine lv_if_eq (tgt := 174) hx hb dX11_cheapest_74 (by decide) (fun hc => ?_) (fun hc => ?_)
    · have h := nx_it h hc
      obtain rfl := Option.some.inj h
      exact kR H locs ls hP hS (lv_sub hl [0, 1, 2] rfl)
    · have h := nx_if h hc
      refine lv_iconst (v := 0) hx hb dX11_cheapest_77 (by decide) ?_
      refine lv_istore (lv' := [(7, .int 0), (0, .ref (a 0)), (1, .int x1), (2, .int x2), (6, .int x6)]) hx hb dX11_cheapest_78 hl (by decide) rfl (fun ls hl => ?_)
      refine lv_iconst (v := 0) hx hb dX11_cheapest_80 (by decide) ?_
      refine lv_istore (lv' := [(8, .int 0), (7, .int 0), (0, .ref (a 0)), (1, .int x1), (2, .int x2), (6, .int x6)]) hx hb dX11_cheapest_81 hl (by decide) rfl (fun ls hl => ?_)
      obtain ⟨z_17, hz_18, h⟩ := nx_bd h
      refine L83 _ _ _ N _ _ _ _ hz_18 H locs ls hP hS (lv_sub hl [2, 3, 4, 5, 1, 0] rfl) (fun H locs ls hP hS hl => ?_)
      refine lv_goto (tgt := 72) hx hb dX11_cheapest_171 (by decide) ?_
      exact ih _ _ z h H locs ls hP hS (lv_sub hl [0, 1, 2, 3, 4] rfl) kR
  unfold f_X11_cheapest at h
  suffices hw : ∀ (H : Heap) (locs : List Loc), va_P E.1 vwCl (mW E a wide tall groups tours tourLength rowMany cameBy top east south rolled off kind mark rolls many onward at_ goes firstTour rowWay rowSeen prints homeward) H → va_S (nx_A a 18 s.heap.size) s.heap H locs → W p l e (nx_rm 3 73) s m args below meth c H locs 0 0 Q (F0 m 0 ls []) from hw _ _ hP va_S.rf
  intro H locs hP hS
  refine lv_aload_n hx hb dX11_cheapest_0 rfl (lv_at hl 0 rfl) ?_
  refine lv_iload_n hx hb dX11_cheapest_1 rfl (lv_at hl 1 rfl) ?_
  refine lv_iload_n hx hb dX11_cheapest_2 rfl (lv_at hl 2 rfl) ?_
  refine lv_iload_n hx hb dX11_cheapest_3 rfl (lv_at hl 3 rfl) ?_
  refine lv_iload hx hb dX11_cheapest_4 (lv_at hl 4 rfl) ?_
  obtain ⟨r_20, hc_19, h⟩ := nx_bd h
  refine nx_ki (nx_runV (As := [.int x1, .int x2, .int x3, .int x4]) (rest := []) X hS hP (c_X11_mayGo l E H.size a wide tall groups tours tourLength rowMany cameBy top east south rolled off kind mark rolls many onward at_ goes firstTour rowWay rowSeen prints homeward x1 x2 x3 x4 _ hc_19) nx_FA qV_RX11_137 ⟨rfl, rfl⟩ ⟨Nat.le_of_ble_eq_true rfl, Nat.le_of_ble_eq_true rfl⟩ ⟨Nat.zero_le _, Nat.zero_le _⟩ 0 rfl rfl rfl rfl hl.1 (Nat.le_of_ble_eq_true rfl) dX11_cheapest_6) hS nx_FA (fun H locs hP hS => ?_)
  refine lv_istore (lv' := [(5, .int r_20), (0, .ref (a 0)), (1, .int x1), (2, .int x2), (3, .int x3), (4, .int x4)]) hx hb dX11_cheapest_9 hl (by decide) rfl (fun ls hl => ?_)
  refine lv_iload hx hb dX11_cheapest_11 (lv_at hl 0 rfl) ?_
  refine lv_if_ge (tgt := 19) hx hb dX11_cheapest_13 (by decide) (fun hc => ?_) (fun hc => ?_)
  · have h := nx_it h hc
    refine lv_bipush (v := 24) hx hb dX11_cheapest_19 (by decide) ?_
    refine lv_aload_n hx hb dX11_cheapest_21 rfl (lv_at hl 1 rfl) ?_
    obtain ⟨r_22, hc_21, h⟩ := nx_bd h
    refine nx_ki (nx_runV (As := []) (rest := [.int 24]) X hS hP (c_X11_cells l E H.size a wide tall groups tours tourLength rowMany cameBy top east south rolled off kind mark rolls many onward at_ goes firstTour rowWay rowSeen prints homeward _ hc_21) nx_FA qV_RX11_100 ⟨rfl, rfl⟩ ⟨Nat.le_of_ble_eq_true rfl, Nat.le_of_ble_eq_true rfl⟩ ⟨Nat.zero_le _, Nat.zero_le _⟩ 0 rfl rfl rfl rfl hl.1 (Nat.le_of_ble_eq_true rfl) dX11_cheapest_22) hS nx_FA (fun H locs hP hS => ?_)
    refine lv_imul hx hb dX11_cheapest_25 ?_
    refine lv_istore (lv' := [(6, .int (24 * r_22)), (5, .int r_20), (0, .ref (a 0)), (1, .int x1), (2, .int x2), (3, .int x3), (4, .int x4)]) hx hb dX11_cheapest_26 hl (by decide) rfl (fun ls hl => ?_)
    refine lv_iconst (v := 0) hx hb dX11_cheapest_28 (by decide) ?_
    refine lv_istore (lv' := [(7, .int 0), (6, .int (24 * r_22)), (5, .int r_20), (0, .ref (a 0)), (1, .int x1), (2, .int x2), (3, .int x3), (4, .int x4)]) hx hb dX11_cheapest_29 hl (by decide) rfl (fun ls hl => ?_)
    obtain ⟨z_23, hz_24, h⟩ := nx_bd h
    refine L31 _ _ _ _ _ N _ _ _ hz_24 H locs ls hP hS (lv_sub hl [3, 4, 5, 6, 7, 1, 0] rfl) (fun H locs ls hP hS hl => ?_)
    refine lv_iconst (v := 1) hx hb dX11_cheapest_69 (by decide) ?_
    refine lv_istore (lv' := [(7, .int 1), (0, .ref (a 0)), (1, .int x1), (2, .int x2), (6, .int (24 * r_22))]) hx hb dX11_cheapest_70 hl (by decide) rfl (fun ls hl => ?_)
    obtain ⟨z_25, hz_26, h⟩ := nx_bd h
    refine L72 _ _ _ N _ _ _ hz_26 H locs ls hP hS (lv_sub hl [1, 2, 3, 4, 0] rfl) (fun H locs ls hP hS hl => ?_)
    refine lv_aload_n hx hb dX11_cheapest_174 rfl (lv_at hl 0 rfl) ?_
    refine nx_gf X hP uw_X11 (ci := 10) rfl 0 rfl 12 (by decide) wf_RX11_45 rfl dX11_cheapest_175 ?_
    refine lv_bipush (v := 24) hx hb dX11_cheapest_178 (by decide) ?_
    refine lv_iload_n hx hb dX11_cheapest_180 rfl (lv_at hl 1 rfl) ?_
    refine lv_imul hx hb dX11_cheapest_181 ?_
    refine lv_iload_n hx hb dX11_cheapest_182 rfl (lv_at hl 2 rfl) ?_
    refine lv_iadd hx hb dX11_cheapest_183 ?_
    obtain ⟨hv_27, h⟩ := nx_rb h
    refine nx_ld X hP 10 rfl hv_27 dX11_cheapest_184 ?_
    refine lv_ldc hx hb hown (hts _ wk_RX11_99) dX11_cheapest_185 ?_
    refine lv_icmp_ne (tgt := 195) hx hb dX11_cheapest_187 (by decide) (fun hc => ?_) (fun hc => ?_)
    · have h := nx_if h hc
      refine lv_aload_n hx hb dX11_cheapest_195 rfl (lv_at hl 0 rfl) ?_
      refine nx_gf X hP uw_X11 (ci := 10) rfl 0 rfl 12 (by decide) wf_RX11_45 rfl dX11_cheapest_196 ?_
      refine lv_bipush (v := 24) hx hb dX11_cheapest_199 (by decide) ?_
      refine lv_iload_n hx hb dX11_cheapest_201 rfl (lv_at hl 1 rfl) ?_
      refine lv_imul hx hb dX11_cheapest_202 ?_
      refine lv_iload_n hx hb dX11_cheapest_203 rfl (lv_at hl 2 rfl) ?_
      refine lv_iadd hx hb dX11_cheapest_204 ?_
      obtain ⟨hv_29, h⟩ := nx_rb h
      refine nx_ld X hP 10 rfl hv_29 dX11_cheapest_205 ?_
      exact kr 206 ls (z_25 ((24 * x1) + x2).toNatClampNeg) z_25 H locs dX11_cheapest_206 (Option.some.inj h) hP hS
    · have h := nx_it h hc
      refine lv_bipush (v := (-9)) hx hb dX11_cheapest_190 (by decide) ?_
      refine lv_goto (tgt := 206) hx hb dX11_cheapest_192 (by decide) ?_
      exact kr 206 ls (-9) z_25 H locs dX11_cheapest_206 (Option.some.inj h) hP hS
  · have h := nx_if h hc
    refine lv_iload hx hb dX11_cheapest_16 (lv_at hl 0 rfl) ?_
    exact kr 18 ls r_20 onward H locs dX11_cheapest_18 (Option.some.inj h) hP hS
def f_X11_stances_j75 (rec : (Int32 × Int32) → Option (Int32)) (x3 : Int32) (x5 : Int32) (s0 : Int32) (s1 : Int32) : Option (Int32) :=
  rec ((s1 + s0), (x5 + 1))
def f_X11_stances_b44 (x3 : Int32) (rolls : Nat → Int32) (rec : (Int32 × Int32) → Option (Int32)) (x4 : Int32) (x5 : Int32) : Option (Int32) :=
  if ((24 * x3) + 24) ≤ x5 then (some x4) else ((nx_rd rolls 600 x5).bind fun _ => if 100000000 ≤ (rolls x5.toNatClampNeg) then (f_X11_stances_j75 rec x3 x5 0 x4) else (f_X11_stances_j75 rec x3 x5 1 x4))
def f_X11_stances_l44 (x3 : Int32) (rolls : Nat → Int32) : Nat → (Int32 × Int32) → Option (Int32) := nx_lp (fun rec z => f_X11_stances_b44 x3 rolls rec z.1 z.2)
def f_X11_stances (N : Nat) (x1 : Int32) (x2 : Int32) (x3 : Int32) (wide : Int32) (tall : Int32) (groups : Int32) (top : Nat → Int32) (rolled : Nat → Int32) (kind : Nat → Int32) (mark : Nat → Int32) (rolls : Nat → Int32) (many : Nat → Int64) : Option (Int32 × ((Nat → Int32) × (Nat → Int64))) :=
  (f_X11_isCell x1 wide tall).bind fun r_4 => if r_4 = 0 then (some ((-1), (rolls, many))) else ((f_X11_isStance x2).bind fun r_6 => if r_6 = 0 then (some ((-1), (rolls, many))) else ((f_X11_isCell x3 wide tall).bind fun r_8 => if r_8 = 0 then (some ((-1), (rolls, many))) else ((f_X11_layFrom N ((24 * x1) + x2) wide tall groups top rolled kind mark rolls many).bind fun t_12 => (f_X11_stances_l44 x3 t_12.1 N (0, (24 * x3))).bind fun z_13 => some (z_13, (t_12.1, t_12.2)))))
set_option maxHeartbeats 4000000 in
set_option maxRecDepth 100000 in
theorem c_X11_stances (l : Launch) (N : Nat) (E : nx_E) (sz : Nat) (a : Nat → Nat) (wide : Int32) (tall : Int32) (groups : Int32) (tours : Int32) (tourLength : Int32) (rowMany : Int32) (cameBy : Int32) (top : Nat → Int32) (east : Nat → Int32) (south : Nat → Int32) (rolled : Nat → Int32) (off : Nat → Int32) (kind : Nat → Int32) (mark : Nat → Int32) (rolls : Nat → Int32) (many : Nat → Int64) (onward : Nat → Int32) (at_ : Nat → Int32) (goes : Nat → Int32) (firstTour : Nat → Int32) (rowWay : Nat → Int32) (rowSeen : Nat → Int32) (prints : Nat → Int32) (homeward : Nat → Int32) (x1 : Int32) (x2 : Int32) (x3 : Int32) (hI : nx_inj a 18) (o : Int32 × ((Nat → Int32) × (Nat → Int64))) (h : f_X11_stances N x1 x2 x3 wide tall groups top rolled kind mark rolls many = some o) : Met l yX11_stances (.code yX11_stances cX11_stances 6 (some .int) :: nx_T) (nx_rm 4 99) (va_Pc [.ref (a 0), .int x1, .int x2, .int x3] (nx_P E (nx_A a 18 sz) sz (mW E a wide tall groups tours tourLength rowMany cameBy top east south rolled off kind mark rolls many onward at_ goes firstTour rowWay rowSeen prints homeward))) (va_Qi (fun v u => (v, u) = o) (fun u t => va_P E.1 vwCl (mW E a wide tall groups tours tourLength rowMany cameBy top east south rolled off kind mark (u.1) (u.2) onward at_ goes firstTour rowWay rowSeen prints homeward) t.heap) (nx_A a 18 sz)) 0 0 (nx_A a 18 sz) := by
  refine nx_enI (fun v u => (v, u) = o) (fun (u : (Nat → Int32) × (Nat → Int64)) => (mW E a wide tall groups tours tourLength rowMany cameBy top east south rolled off kind mark (u.1) (u.2) onward at_ goes firstTour rowWay rowSeen prints homeward)) (by decide) (Nat.le_of_ble_eq_true rfl) ?_
  intro p e s m below meth c Q X kr hsz hP ls hl
  subst hsz
  generalize hargs : (List.toArray [.ref (a 0), .int x1, .int x2, .int x3] : Array Value) = args at X kr ⊢
  clear hargs
  obtain ⟨⟨hx, hb, hml, hown, hts⟩, hK, hSt, hNz⟩ := id X
  have hS : va_S (nx_A a 18 s.heap.size) s.heap s.heap [] := va_S.rf
  have hl : lv_has ls 6 [(0, .ref (a 0)), (1, .int x1), (2, .int x2), (3, .int x3)] := hl
  have L44 : ∀ (x3 : Int32) (rolls : Nat → Int32) (many : Nat → Int64) (n : Nat) (x4 : Int32) (x5 : Int32) (z : (Int32)), f_X11_stances_l44 x3 rolls n (x4, x5) = some z → ∀ (H : Heap) (locs : List Loc) (ls : Array Slot), va_P E.1 vwCl (mW E a wide tall groups tours tourLength rowMany cameBy top east south rolled off kind mark rolls many onward at_ goes firstTour rowWay rowSeen prints homeward) H → va_S (nx_A a 18 s.heap.size) s.heap H locs → lv_has ls 6 [(0, .ref (a 0)), (3, .int x3), (4, .int x4), (5, .int x5)] → ∀ (kR : ∀ (H : Heap) (locs : List Loc) (ls : Array Slot), va_P E.1 vwCl (mW E a wide tall groups tours tourLength rowMany cameBy top east south rolled off kind mark rolls many onward at_ goes firstTour rowWay rowSeen prints homeward) H → va_S (nx_A a 18 s.heap.size) s.heap H locs → lv_has ls 6 [(0, .ref (a 0)), (4, .int z)] → W p l e (nx_rm 4 99) s m args below meth c H locs 0 0 Q (F0 m 84 ls [])), W p l e (nx_rm 4 99) s m args below meth c H locs 0 0 Q (F0 m 44 ls []) := by
   intro x3 rolls many n
   induction n with
   | zero => intro x4 x5 z h; exact nomatch (show none = some z from h)
   | succ n ih =>
    intro x4 x5 z h H locs ls hP hS hl kR
    have h : f_X11_stances_b44 x3 rolls (f_X11_stances_l44 x3 rolls n) x4 x5 = some z := h
    have J75 : ∀ (x5 : Int32) (s0 : Int32) (s1 : Int32), f_X11_stances_j75 (f_X11_stances_l44 x3 rolls n) x3 x5 s0 s1 = some z → ∀ (H : Heap) (locs : List Loc) (ls : Array Slot), va_P E.1 vwCl (mW E a wide tall groups tours tourLength rowMany cameBy top east south rolled off kind mark rolls many onward at_ goes firstTour rowWay rowSeen prints homeward) H → va_S (nx_A a 18 s.heap.size) s.heap H locs → lv_has ls 6 [(0, .ref (a 0)), (3, .int x3), (5, .int x5)] → W p l e (nx_rm 4 99) s m args below meth c H locs 0 0 Q (F0 m 75 ls [.int s0, .int s1]) := by
      intro x5 s0 s1 h H locs ls hP hS hl
      unfold f_X11_stances_j75 at h
      refine lv_iadd hx hb dX11_stances_75 ?_
      refine lv_istore (lv' := [(4, .int (s1 + s0)), (0, .ref (a 0)), (3, .int x3), (5, .int x5)]) hx hb dX11_stances_76 hl (by decide) rfl (fun ls hl => ?_)
      refine lv_iinc (v := (x5 + 1)) (lv' := [(5, .int (x5 + 1)), (4, .int (s1 + s0)), (0, .ref (a 0)), (3, .int x3)]) hx hb dX11_stances_78 hl (k := 3) rfl rfl (by decide) rfl (fun ls hl => ?_)
      refine lv_goto (tgt := 44) hx hb dX11_stances_81 (by decide) ?_
      exact ih _ _ z h H locs ls hP hS (lv_sub hl [2, 3, 1, 0] rfl) kR
    unfold f_X11_stances_b44 at h
    refine lv_iload hx hb dX11_stances_44 (lv_at hl 3 rfl) ?_
    refine lv_bipush (v := 24) hx hb dX11_stances_46 (by decide) ?_
    refine lv_iload_n hx hb dX11_stances_48 rfl (lv_at hl 1 rfl) ?_
    refine lv_imul hx hb dX11_stances_49 ?_
    refine lv_bipush (v := 24) hx hb dX11_stances_50 (by decide) ?_
    refine lv_iadd hx hb dX11_stances_52 ?_
    refine lv_icmp_ge (tgt := 84) hx hb dX11_stances_53 (by decide) (fun hc => ?_) (fun hc => ?_)
    · have h := nx_it h hc
      obtain rfl := Option.some.inj h
      exact kR H locs ls hP hS (lv_sub hl [0, 2] rfl)
    · have h := nx_if h hc
      refine lv_iload hx hb dX11_stances_56 (lv_at hl 2 rfl) ?_
      refine lv_aload_n hx hb dX11_stances_58 rfl (lv_at hl 0 rfl) ?_
      refine nx_gf X hP uw_X11 (ci := 10) rfl 0 rfl 10 (by decide) wf_RX11_38 rfl dX11_stances_59 ?_
      refine lv_iload hx hb dX11_stances_62 (lv_at hl 3 rfl) ?_
      obtain ⟨hv_1, h⟩ := nx_rb h
      refine nx_ld X hP 8 rfl hv_1 dX11_stances_64 ?_
      refine lv_ldc hx hb hown (hts _ wk_RX11_99) dX11_stances_65 ?_
      refine lv_icmp_ge (tgt := 74) hx hb dX11_stances_67 (by decide) (fun hc => ?_) (fun hc => ?_)
      · have h := nx_it h hc
        refine lv_iconst (v := 0) hx hb dX11_stances_74 (by decide) ?_
        exact J75 _ _ _ h H locs ls hP hS (lv_sub hl [0, 1, 3] rfl)
      · have h := nx_if h hc
        refine lv_iconst (v := 1) hx hb dX11_stances_70 (by decide) ?_
        refine lv_goto (tgt := 75) hx hb dX11_stances_71 (by decide) ?_
        exact J75 _ _ _ h H locs ls hP hS (lv_sub hl [0, 1, 3] rfl)
  unfold f_X11_stances at h
  suffices hw : ∀ (H : Heap) (locs : List Loc), va_P E.1 vwCl (mW E a wide tall groups tours tourLength rowMany cameBy top east south rolled off kind mark rolls many onward at_ goes firstTour rowWay rowSeen prints homeward) H → va_S (nx_A a 18 s.heap.size) s.heap H locs → W p l e (nx_rm 4 99) s m args below meth c H locs 0 0 Q (F0 m 0 ls []) from hw _ _ hP va_S.rf
  intro H locs hP hS
  refine lv_aload_n hx hb dX11_stances_0 rfl (lv_at hl 0 rfl) ?_
  refine lv_iload_n hx hb dX11_stances_1 rfl (lv_at hl 1 rfl) ?_
  obtain ⟨r_4, hc_3, h⟩ := nx_bd h
  refine nx_ki (nx_runV (As := [.int x1]) (rest := []) X hS hP (c_X11_isCell l E H.size a wide tall groups tours tourLength rowMany cameBy top east south rolled off kind mark rolls many onward at_ goes firstTour rowWay rowSeen prints homeward x1 _ hc_3) nx_FA qV_RX11_111 ⟨rfl, rfl⟩ ⟨Nat.le_of_ble_eq_true rfl, Nat.le_of_ble_eq_true rfl⟩ ⟨Nat.zero_le _, Nat.zero_le _⟩ 0 rfl rfl rfl rfl hl.1 (Nat.le_of_ble_eq_true rfl) dX11_stances_2) hS nx_FA (fun H locs hP hS => ?_)
  refine lv_if_eq (tgt := 23) hx hb dX11_stances_5 (by decide) (fun hc => ?_) (fun hc => ?_)
  · have h := nx_it h hc
    refine lv_iconst (v := (-1)) hx hb dX11_stances_23 (by decide) ?_
    exact kr 24 ls (-1) (rolls, many) H locs dX11_stances_24 (Option.some.inj h) hP hS
  · have h := nx_if h hc
    refine lv_iload_n hx hb dX11_stances_8 rfl (lv_at hl 2 rfl) ?_
    obtain ⟨r_6, hc_5, h⟩ := nx_bd h
    refine nx_ki (nx_runS (As := [.int x2]) (rest := []) X hS hP (c_X11_isStance l E H.size a wide tall groups tours tourLength rowMany cameBy top east south rolled off kind mark rolls many onward at_ goes firstTour rowWay rowSeen prints homeward x2 _ hc_5) nx_FA qS_RX11_90 ⟨rfl, rfl⟩ ⟨Nat.le_of_ble_eq_true rfl, Nat.le_of_ble_eq_true rfl⟩ ⟨Nat.zero_le _, Nat.zero_le _⟩ rfl rfl hl.1 (Nat.le_of_ble_eq_true rfl) dX11_stances_9) hS nx_FA (fun H locs hP hS => ?_)
    refine lv_if_eq (tgt := 23) hx hb dX11_stances_12 (by decide) (fun hc => ?_) (fun hc => ?_)
    · have h := nx_it h hc
      refine lv_iconst (v := (-1)) hx hb dX11_stances_23 (by decide) ?_
      exact kr 24 ls (-1) (rolls, many) H locs dX11_stances_24 (Option.some.inj h) hP hS
    · have h := nx_if h hc
      refine lv_aload_n hx hb dX11_stances_15 rfl (lv_at hl 0 rfl) ?_
      refine lv_iload_n hx hb dX11_stances_16 rfl (lv_at hl 3 rfl) ?_
      obtain ⟨r_8, hc_7, h⟩ := nx_bd h
      refine nx_ki (nx_runV (As := [.int x3]) (rest := []) X hS hP (c_X11_isCell l E H.size a wide tall groups tours tourLength rowMany cameBy top east south rolled off kind mark rolls many onward at_ goes firstTour rowWay rowSeen prints homeward x3 _ hc_7) nx_FA qV_RX11_111 ⟨rfl, rfl⟩ ⟨Nat.le_of_ble_eq_true rfl, Nat.le_of_ble_eq_true rfl⟩ ⟨Nat.zero_le _, Nat.zero_le _⟩ 0 rfl rfl rfl rfl hl.1 (Nat.le_of_ble_eq_true rfl) dX11_stances_17) hS nx_FA (fun H locs hP hS => ?_)
      refine lv_if_ne (tgt := 25) hx hb dX11_stances_20 (by decide) (fun hc => ?_) (fun hc => ?_)
      · have h := nx_if h hc
        refine lv_aload_n hx hb dX11_stances_25 rfl (lv_at hl 0 rfl) ?_
        refine lv_bipush (v := 24) hx hb dX11_stances_26 (by decide) ?_
        refine lv_iload_n hx hb dX11_stances_28 rfl (lv_at hl 1 rfl) ?_
        refine lv_imul hx hb dX11_stances_29 ?_
        refine lv_iload_n hx hb dX11_stances_30 rfl (lv_at hl 2 rfl) ?_
        refine lv_iadd hx hb dX11_stances_31 ?_
        obtain ⟨⟨k_10, k_11⟩, hc_9, h⟩ := nx_bd h
        refine nx_kv (nx_runV (As := [.int ((24 * x1) + x2)]) (rest := []) X hS hP (c_X11_layFrom l N E H.size a wide tall groups tours tourLength rowMany cameBy top east south rolled off kind mark rolls many onward at_ goes firstTour rowWay rowSeen prints homeward ((24 * x1) + x2) hI _ hc_9) (nx_Am hS.1) qV_RX11_141 ⟨rfl, rfl⟩ ⟨Nat.le_of_ble_eq_true rfl, Nat.le_of_ble_eq_true rfl⟩ ⟨Nat.zero_le _, Nat.zero_le _⟩ 0 rfl rfl rfl rfl hl.1 (Nat.le_of_ble_eq_true rfl) dX11_stances_32) hS (nx_Am hS.1) (fun H locs hP hS => ?_)
        have hP : va_P E.1 vwCl (mW E a wide tall groups tours tourLength rowMany cameBy top east south rolled off kind mark k_10 k_11 onward at_ goes firstTour rowWay rowSeen prints homeward) H := hP
        refine lv_iconst (v := 0) hx hb dX11_stances_35 (by decide) ?_
        refine lv_istore (lv' := [(4, .int 0), (0, .ref (a 0)), (1, .int x1), (2, .int x2), (3, .int x3)]) hx hb dX11_stances_36 hl (by decide) rfl (fun ls hl => ?_)
        refine lv_bipush (v := 24) hx hb dX11_stances_38 (by decide) ?_
        refine lv_iload_n hx hb dX11_stances_40 rfl (lv_at hl 4 rfl) ?_
        refine lv_imul hx hb dX11_stances_41 ?_
        refine lv_istore (lv' := [(5, .int (24 * x3)), (4, .int 0), (0, .ref (a 0)), (1, .int x1), (2, .int x2), (3, .int x3)]) hx hb dX11_stances_42 hl (by decide) rfl (fun ls hl => ?_)
        obtain ⟨z_13, hz_14, h⟩ := nx_bd h
        refine L44 _ _ _ N _ _ _ hz_14 H locs ls hP hS (lv_sub hl [2, 5, 1, 0] rfl) (fun H locs ls hP hS hl => ?_)
        refine lv_iload hx hb dX11_stances_84 (lv_at hl 1 rfl) ?_
        exact kr 86 ls z_13 (k_10, k_11) H locs dX11_stances_86 (Option.some.inj h) hP hS
      · have h := nx_it h hc
        refine lv_iconst (v := (-1)) hx hb dX11_stances_23 (by decide) ?_
        exact kr 24 ls (-1) (rolls, many) H locs dX11_stances_24 (Option.some.inj h) hP hS
