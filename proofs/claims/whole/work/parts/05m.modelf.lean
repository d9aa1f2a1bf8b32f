def f_X11_reach_b51 (x3 : Int32) (x4 : Int32) (rolls : Nat → Int32) (rec : (Int32 × Int32) → Option (Int32)) (x5 : Int32) (x6 : Int32) : Option (Int32) :=
  if ((24 * x4) + 24) ≤ x6 then (some x5) else (if x5 = 0 then ((nx_rd rolls 600 x6).bind fun _ => if 100000000 ≤ (rolls x6.toNatClampNeg) then (rec (0, (x6 + 1))) else (rec (1, (x6 + 1)))) else (rec (1, (x6 + 1))))
def f_X11_reach_l51 (x3 : Int32) (x4 : Int32) (rolls : Nat → Int32) : Nat → (Int32 × Int32) → Option (Int32) := nx_lp (fun rec z => f_X11_reach_b51 x3 x4 rolls rec z.1 z.2)
def f_X11_reach_j105 (rec : (Int32 × Int32) → Option (Int32)) (x4 : Int32) (s0 : Int32) (s1 : Int32) : Option (Int32) :=
  rec ((s1 + s0), (x4 + 1))
def f_X11_reach_b32 (N : Nat) (wide : Int32) (tall : Int32) (rolls : Nat → Int32) (rec : (Int32 × Int32) → Option (Int32)) (x3 : Int32) (x4 : Int32) : Option (Int32) :=
  (f_X11_cells wide tall).bind fun r_4 => if r_4 ≤ x4 then (some x3) else ((f_X11_reach_l51 x3 x4 rolls N (0, (24 * x4))).bind fun z_5 => if z_5 = 0 then (f_X11_reach_j105 rec x4 0 x3) else (f_X11_reach_j105 rec x4 1 x3))
def f_X11_reach_l32 (N : Nat) (wide : Int32) (tall : Int32) (rolls : Nat → Int32) : Nat → (Int32 × Int32) → Option (Int32) := nx_lp (fun rec z => f_X11_reach_b32 N wide tall rolls rec z.1 z.2)
def f_X11_reach (N : Nat) (x1 : Int32) (x2 : Int32) (wide : Int32) (tall : Int32) (groups : Int32) (top : Nat → Int32) (rolled : Nat → Int32) (kind : Nat → Int32) (mark : Nat → Int32) (rolls : Nat → Int32) (many : Nat → Int64) : Option (Int32 × ((Nat → Int32) × (Nat → Int64))) :=
  (f_X11_isCell x1 wide tall).bind fun r_8 => if r_8 = 0 then (some ((-1), (rolls, many))) else ((f_X11_isStance x2).bind fun r_10 => if r_10 = 0 then (some ((-1), (rolls, many))) else ((f_X11_layFrom N ((24 * x1) + x2) wide tall groups top rolled kind mark rolls many).bind fun t_14 => (f_X11_reach_l32 N wide tall t_14.1 N (0, 0)).bind fun z_15 => some (z_15, (t_14.1, t_14.2))))
set_option maxHeartbeats 4000000 in
set_option maxRecDepth 100000 in
theorem c_X11_reach (l : Launch) (N : Nat) (E : nx_E) (sz : Nat) (a : Nat → Nat) (wide : Int32) (tall : Int32) (groups : Int32) (tours : Int32) (tourLength : Int32) (rowMany : Int32) (cameBy : Int32) (top : Nat → Int32) (east : Nat → Int32) (south : Nat → Int32) (rolled : Nat → Int32) (off : Nat → Int32) (kind : Nat → Int32) (mark : Nat → Int32) (rolls : Nat → Int32) (many : Nat → Int64) (onward : Nat → Int32) (at_ : Nat → Int32) (goes : Nat → Int32) (firstTour : Nat → Int32) (rowWay : Nat → Int32) (rowSeen : Nat → Int32) (prints : Nat → Int32) (homeward : Nat → Int32) (x1 : Int32) (x2 : Int32) (hI : nx_inj a 18) (o : Int32 × ((Nat → Int32) × (Nat → Int64))) (h : f_X11_reach N x1 x2 wide tall groups top rolled kind mark rolls many = some o) : Met l yX11_reach (.code yX11_reach cX11_reach 7 (some .int) :: nx_T) (nx_rm 4 99) (va_Pc [.ref (a 0), .int x1, .int x2] (nx_P E (nx_A a 18 sz) sz (mW E a wide tall groups tours tourLength rowMany cameBy top east south rolled off kind mark rolls many onward at_ goes firstTour rowWay rowSeen prints homeward))) (va_Qi (fun v u => (v, u) = o) (fun u t => va_P E.1 vwCl (mW E a wide tall groups tours tourLength rowMany cameBy top east south rolled off kind mark (u.1) (u.2) onward at_ goes firstTour rowWay rowSeen prints homeward) t.heap) (nx_A a 18 sz)) 0 0 (nx_A a 18 sz) := by
  refine nx_enI (fun v u => (v, u) = o) (fun (u : (Nat → Int32) × (Nat → Int64)) => (mW E a wide tall groups tours tourLength rowMany cameBy top east south rolled off kind mark (u.1) (u.2) onward at_ goes firstTour rowWay rowSeen prints homeward)) (by decide) (Nat.le_of_ble_eq_true rfl) ?_
  intro p e s m below meth c Q X kr hsz hP ls hl
  subst hsz
  generalize hargs : (List.toArray [.ref (a 0), .int x1, .int x2] : Array Value) = args at X kr ⊢
  clear hargs
  obtain ⟨⟨hx, hb, hml, hown, hts⟩, hK, hSt, hNz⟩ := id X
  have hS : va_S (nx_A a 18 s.heap.size) s.heap s.heap [] := va_S.rf
  have hl : lv_has ls 7 [(0, .ref (a 0)), (1, .int x1), (2, .int x2)] := hl
  have L51 : ∀ (x3 : Int32) (x4 : Int32) (rolls : Nat → Int32) (many : Nat → Int64) (n : Nat) (x5 : Int32) (x6 : Int32) (z : (Int32)), f_X11_reach_l51 x3 x4 rolls n (x5, x6) = some z → ∀ (H : Heap) (locs : List Loc) (ls : Array Slot), va_P E.1 vwCl (mW E a wide tall groups tours tourLength rowMany cameBy top east south rolled off kind mark rolls many onward at_ goes firstTour rowWay rowSeen prints homeward) H → va_S (nx_A a 18 s.heap.size) s.heap H locs → lv_has ls 7 [(0, .ref (a 0)), (3, .int x3), (4, .int x4), (5, .int x5), (6, .int x6)] → ∀ (kR : ∀ (H : Heap) (locs : List Loc) (ls : Array Slot), va_P E.1 vwCl (mW E a wide tall groups tours tourLength rowMany cameBy top east south rolled off kind mark rolls many onward at_ goes firstTour rowWay rowSeen prints homeward) H → va_S (nx_A a 18 s.heap.size) s.heap H locs → lv_has ls 7 [(0, .ref (a 0)), (3, .int x3), (4, .int x4), (5, .int z)] → W p l e (nx_rm 4 99) s m args below meth c H locs 0 0 Q (F0 m 94 ls [])), W p l e (nx_rm 4 99) s m args below meth c H locs 0 0 Q (F0 m 51 ls []) := by
   intro x3 x4 rolls many n
   induction n with
   | zero => intro x5 x6 z h; exact nomatch (show none = some z from h)
   | succ n ih =>
    intro x5 x6 z h H locs ls hP hS hl kR
    have h : f_X11_reach_b51 x3 x4 rolls (f_X11_reach_l51 x3 x4 rolls n) x5 x6 = some z := h
    unfold f_X11_reach_b51 at h
    refine lv_iload hx hb dX11_reach_51 (lv_at hl 4 rfl) ?_
    refine lv_bipush (v := 24) hx hb dX11_reach_53 (by decide) ?_
    refine lv_iload hx hb dX11_reach_55 (lv_at hl 2 rfl) ?_
    refine lv_imul hx hb dX11_reach_57 ?_
    refine lv_bipush (v := 24) hx hb dX11_reach_58 (by decide) ?_
    refine lv_iadd hx hb dX11_reach_60 ?_
    refine lv_icmp_ge (tgt := 94) hx hb dX11_reach_61 (by decide) (fun hc => ?_) (fun hc => ?_)
    · have h := nx_it h hc
      obtain rfl := Option.some.inj h
      exact kR H locs ls hP hS (lv_sub hl [0, 1, 2, 3] rfl)
    · have h := nx_if h hc
      refine lv_iload hx hb dX11_reach_64 (lv_at hl 3 rfl) ?_
      refine lv_if_ne (tgt := 81) hx hb dX11_reach_66 (by decide) (fun hc => ?_) (fun hc => ?_)
      · have h := nx_if h hc
        refine lv_iconst (v := 1) hx hb dX11_reach_81 (by decide) ?_
        refine lv_goto (tgt := 86) hx hb dX11_reach_82 (by decide) ?_
        refine lv_istore (lv' := [(5, .int 1), (0, .ref (a 0)), (3, .int x3), (4, .int x4), (6, .int x6)]) hx hb dX11_reach_86 hl (by decide) rfl (fun ls hl => ?_)
        refine lv_iinc (v := (x6 + 1)) (lv' := [(6, .int (x6 + 1)), (5, .int 1), (0, .ref (a 0)), (3, .int x3), (4, .int x4)]) hx hb dX11_reach_88 hl (k := 4) rfl rfl (by decide) rfl (fun ls hl => ?_)
        refine lv_goto (tgt := 51) hx hb dX11_reach_91 (by decide) ?_
        exact ih _ _ z h H locs ls hP hS (lv_sub hl [2, 3, 4, 1, 0] rfl) kR
      · have h := nx_it h hc
        refine lv_aload_n hx hb dX11_reach_69 rfl (lv_at hl 0 rfl) ?_
        refine nx_gf X hP uw_X11 (ci := 10) rfl 0 rfl 10 (by decide) wf_RX11_38 rfl dX11_reach_70 ?_
        refine lv_iload hx hb dX11_reach_73 (lv_at hl 4 rfl) ?_
        obtain ⟨hv_1, h⟩ := nx_rb h
        refine nx_ld X hP 8 rfl hv_1 dX11_reach_75 ?_
        refine lv_ldc hx hb hown (hts _ wk_RX11_99) dX11_reach_76 ?_
        refine lv_icmp_ge (tgt := 85) hx hb dX11_reach_78 (by decide) (fun hc => ?_) (fun hc => ?_)
        · have h := nx_it h hc
          refine lv_iconst (v := 0) hx hb dX11_reach_85 (by decide) ?_
          refine lv_istore (lv' := [(5, .int 0), (0, .ref (a 0)), (3, .int x3), (4, .int x4), (6, .int x6)]) hx hb dX11_reach_86 hl (by decide) rfl (fun ls hl => ?_)
          refine lv_iinc (v := (x6 + 1)) (lv' := [(6, .int (x6 + 1)), (5, .int 0), (0, .ref (a 0)), (3, .int x3), (4, .int x4)]) hx hb dX11_reach_88 hl (k := 4) rfl rfl (by decide) rfl (fun ls hl => ?_)
          refine lv_goto (tgt := 51) hx hb dX11_reach_91 (by decide) ?_
          exact ih _ _ z h H locs ls hP hS (lv_sub hl [2, 3, 4, 1, 0] rfl) kR
        · have h := nx_if h hc
          refine lv_iconst (v := 1) hx hb dX11_reach_81 (by decide) ?_
          refine lv_goto (tgt := 86) hx hb dX11_reach_82 (by decide) ?_
          refine lv_istore (lv' := [(5, .int 1), (0, .ref (a 0)), (3, .int x3), (4, .int x4), (6, .int x6)]) hx hb dX11_reach_86 hl (by decide) rfl (fun ls hl => ?_)
          refine lv_iinc (v := (x6 + 1)) (lv' := [(6, .int (x6 + 1)), (5, .int 1), (0, .ref (a 0)), (3, .int x3), (4, .int x4)]) hx hb dX11_reach_88 hl (k := 4) rfl rfl (by decide) rfl (fun ls hl => ?_)
          refine lv_goto (tgt := 51) hx hb dX11_reach_91 (by decide) ?_
          exact ih _ _ z h H locs ls hP hS (lv_sub hl [2, 3, 4, 1, 0] rfl) kR
  have L32 : ∀ (rolls : Nat → Int32) (many : Nat → Int64) (n : Nat) (x3 : Int32) (x4 : Int32) (z : (Int32)), f_X11_reach_l32 N wide tall rolls n (x3, x4) = some z → ∀ (H : Heap) (locs : List Loc) (ls : Array Slot), va_P E.1 vwCl (mW E a wide tall groups tours tourLength rowMany cameBy top east south rolled off kind mark rolls many onward at_ goes firstTour rowWay rowSeen prints homeward) H → va_S (nx_A a 18 s.heap.size) s.heap H locs → lv_has ls 7 [(0, .ref (a 0)), (3, .int x3), (4, .int x4)] → ∀ (kR : ∀ (H : Heap) (locs : List Loc) (ls : Array Slot), va_P E.1 vwCl (mW E a wide tall groups tours tourLength rowMany cameBy top east south rolled off kind mark rolls many onward at_ goes firstTour rowWay rowSeen prints homeward) H → va_S (nx_A a 18 s.heap.size) s.heap H locs → lv_has ls 7 [(0, .ref (a 0)), (3, .int z)] → W p l e (nx_rm 4 99) s m args below meth c H locs 0 0 Q (F0 m 113 ls [])), W p l e (nx_rm 4 99) s m args below meth c H locs 0 0 Q (F0 m 32 ls []) := by
   intro rolls many n
   induction n with
   | zero => intro x3 x4 z h; exact nomatch (show none = some z from h)
   | succ n ih =>
    intro x3 x4 z h H locs ls hP hS hl kR
    have h : f_X11_reach_b32 N wide tall rolls (f_X11_reach_l32 N wide tall rolls n) x3 x4 = some z := h
    have J105 : ∀ (x4 : Int32) (s0 : Int32) (s1 : Int32), f_X11_reach_j105 (f_X11_reach_l32 N wide tall rolls n) x4 s0 s1 = some z → ∀ (H : Heap) (locs : List Loc) (ls : Array Slot), va_P E.1 vwCl (mW E a wide tall groups tours tourLength rowMany cameBy top east south rolled off kind mark rolls many onward at_ goes firstTour rowWay rowSeen prints homeward) H → va_S (nx_A a 18 s.heap.size) s.heap H locs → lv_has ls 7 [(0, .ref (a 0)), (4, .int x4)] → W p l e (nx_rm 4 99) s m args below meth c H locs 0 0 Q (F0 m 105 ls [.int s0, .int s1]) := by
      intro x4 s0 s1 h H locs ls hP hS hl
      unfold f_X11_reach_j105 at h
      refine lv_iadd hx hb dX11_reach_105 ?_
      refine lv_istore_n (lv' := [(3, .int (s1 + s0)), (0, .ref (a 0)), (4, .int x4)]) hx hb dX11_reach_106 rfl hl (by decide) rfl (fun ls hl => ?_)
      refine lv_iinc (v := (x4 + 1)) (lv' := [(4, .int (x4 + 1)), (3, .int (s1 + s0)), (0, .ref (a 0))]) hx hb dX11_reach_107 hl (k := 2) rfl rfl (by decide) rfl (fun ls hl => ?_)
      refine lv_goto (tgt := 32) hx hb dX11_reach_110 (by decide) ?_
      exact ih _ _ z h H locs ls hP hS (lv_sub hl [2, 1, 0] rfl) kR
    unfold f_X11_reach_b32 at h
    refine lv_iload hx hb dX11_reach_32 (lv_at hl 2 rfl) ?_
    refine lv_aload_n hx hb dX11_reach_34 rfl (lv_at hl 0 rfl) ?_
    obtain ⟨r_4, hc_3, h⟩ := nx_bd h
    refine nx_ki (nx_runV (As := []) (rest := [.int x4]) X hS hP (c_X11_cells l E H.size a wide tall groups tours tourLength rowMany cameBy top east south rolled off kind mark rolls many onward at_ goes firstTour rowWay rowSeen prints homeward _ hc_3) nx_FA qV_RX11_100 ⟨rfl, rfl⟩ ⟨Nat.le_of_ble_eq_true rfl, Nat.le_of_ble_eq_true rfl⟩ ⟨Nat.zero_le _, Nat.zero_le _⟩ 0 rfl rfl rfl rfl hl.1 (Nat.le_of_ble_eq_true rfl) dX11_reach_35) hS nx_FA (fun H locs hP hS => ?_)
    refine lv_icmp_ge (tgt := 113) hx hb dX11_reach_38 (by decide) (fun hc => ?_) (fun hc => ?_)
    · have h := nx_it h hc
      obtain rfl := Option.some.inj h
      exact kR H locs ls hP hS (lv_sub hl [0, 1] rfl)
    · have h := nx_if h hc
      refine lv_iconst (v := 0) hx hb dX11_reach_41 (by decide) ?_
      refine lv_istore (lv' := [(5, .int 0), (0, .ref (a 0)), (3, .int x3), (4, .int x4)]) hx hb dX11_reach_42 hl (by decide) rfl (fun ls hl => ?_)
      refine lv_bipush (v := 24) hx hb dX11_reach_44 (by decide) ?_
      refine lv_iload hx hb dX11_reach_46 (lv_at hl 3 rfl) ?_
      refine lv_imul hx hb dX11_reach_48 ?_
      refine lv_istore (lv' := [(6, .int (24 * x4)), (5, .int 0), (0, .ref (a 0)), (3, .int x3), (4, .int x4)]) hx hb dX11_reach_49 hl (by decide) rfl (fun ls hl => ?_)
      obtain ⟨z_5, hz_6, h⟩ := nx_bd h
      refine L51 _ _ _ _ N _ _ _ hz_6 H locs ls hP hS (lv_sub hl [2, 3, 4, 1, 0] rfl) (fun H locs ls hP hS hl => ?_)
      refine lv_iload_n hx hb dX11_reach_94 rfl (lv_at hl 1 rfl) ?_
      refine lv_iload hx hb dX11_reach_95 (lv_at hl 3 rfl) ?_
      refine lv_if_eq (tgt := 104) hx hb dX11_reach_97 (by decide) (fun hc => ?_) (fun hc => ?_)
      · have h := nx_it h hc
        refine lv_iconst (v := 0) hx hb dX11_reach_104 (by decide) ?_
        exact J105 _ _ _ h H locs ls hP hS (lv_sub hl [0, 2] rfl)
      · have h := nx_if h hc
        refine lv_iconst (v := 1) hx hb dX11_reach_100 (by decide) ?_
        refine lv_goto (tgt := 105) hx hb dX11_reach_101 (by decide) ?_
        exact J105 _ _ _ h H locs ls hP hS (lv_sub hl [0, 2] rfl)
  unfold f_X11_reach at h
  suffices hw : ∀ (H : Heap) (locs : List Loc), va_P E.1 vwCl (mW E a wide tall groups tours tourLength rowMany cameBy top east south rolled off kind mark rolls many onward at_ goes firstTour rowWay rowSeen prints homeward) H → va_S (nx_A a 18 s.heap.size) s.heap H locs → W p l e (nx_rm 4 99) s m args below meth c H locs 0 0 Q (F0 m 0 ls []) from hw _ _ hP va_S.rf
  intro H locs hP hS
  refine lv_aload_n hx hb dX11_reach_0 rfl (lv_at hl 0 rfl) ?_
  refine lv_iload_n hx hb dX11_reach_1 rfl (lv_at hl 1 rfl) ?_
  obtain ⟨r_8, hc_7, h⟩ := nx_bd h
  refine nx_ki (nx_runV (As := [.int x1]) (rest := []) X hS hP (c_X11_isCell l E H.size a wide tall groups tours tourLength rowMany cameBy top east south rolled off kind mark rolls many onward at_ goes firstTour rowWay rowSeen prints homeward x1 _ hc_7) nx_FA qV_RX11_111 ⟨rfl, rfl⟩ ⟨Nat.le_of_ble_eq_true rfl, Nat.le_of_ble_eq_true rfl⟩ ⟨Nat.zero_le _, Nat.zero_le _⟩ 0 rfl rfl rfl rfl hl.1 (Nat.le_of_ble_eq_true rfl) dX11_reach_2) hS nx_FA (fun H locs hP hS => ?_)
  refine lv_if_eq (tgt := 15) hx hb dX11_reach_5 (by decide) (fun hc => ?_) (fun hc => ?_)
  · have h := nx_it h hc
    refine lv_iconst (v := (-1)) hx hb dX11_reach_15 (by decide) ?_
    exact kr 16 ls (-1) (rolls, many) H locs dX11_reach_16 (Option.some.inj h) hP hS
  · have h := nx_if h hc
    refine lv_iload_n hx hb dX11_reach_8 rfl (lv_at hl 2 rfl) ?_
    obtain ⟨r_10, hc_9, h⟩ := nx_bd h
    refine nx_ki (nx_runS (As := [.int x2]) (rest := []) X hS hP (c_X11_isStance l E H.size a wide tall groups tours tourLength rowMany cameBy top east south rolled off kind mark rolls many onward at_ goes firstTour rowWay rowSeen prints homeward x2 _ hc_9) nx_FA qS_RX11_90 ⟨rfl, rfl⟩ ⟨Nat.le_of_ble_eq_true rfl, Nat.le_of_ble_eq_true rfl⟩ ⟨Nat.zero_le _, Nat.zero_le _⟩ rfl rfl hl.1 (Nat.le_of_ble_eq_true rfl) dX11_reach_9) hS nx_FA (fun H locs hP hS => ?_)
    refine lv_if_ne (tgt := 17) hx hb dX11_reach_12 (by decide) (fun hc => ?_) (fun hc => ?_)
    · have h := nx_if h hc
      refine lv_aload_n hx hb dX11_reach_17 rfl (lv_at hl 0 rfl) ?_
      refine lv_bipush (v := 24) hx hb dX11_reach_18 (by decide) ?_
      refine lv_iload_n hx hb dX11_reach_20 rfl (lv_at hl 1 rfl) ?_
      refine lv_imul hx hb dX11_reach_21 ?_
      refine lv_iload_n hx hb dX11_reach_22 rfl (lv_at hl 2 rfl) ?_
      refine lv_iadd hx hb dX11_reach_23 ?_
      obtain ⟨⟨k_12, k_13⟩, hc_11, h⟩ := nx_bd h
      refine nx_kv (nx_runV (As := [.int ((24 * x1) + x2)]) (rest := []) X hS hP (c_X11_layFrom l N E H.size a wide tall groups tours tourLength rowMany cameBy top east south rolled off kind mark rolls many onward at_ goes firstTour rowWay rowSeen prints homeward ((24 * x1) + x2) hI _ hc_11) (nx_Am hS.1) qV_RX11_141 ⟨rfl, rfl⟩ ⟨Nat.le_of_ble_eq_true rfl, Nat.le_of_ble_eq_true rfl⟩ ⟨Nat.zero_le _, Nat.zero_le _⟩ 0 rfl rfl rfl rfl hl.1 (Nat.le_of_ble_eq_true rfl) dX11_reach_24) hS (nx_Am hS.1) (fun H locs hP hS => ?_)
      have hP : va_P E.1 vwCl (mW E a wide tall groups tours tourLength rowMany cameBy top east south rolled off kind mark k_12 k_13 onward at_ goes firstTour rowWay rowSeen prints homeward) H := hP
      refine lv_iconst (v := 0) hx hb dX11_reach_27 (by decide) ?_
      refine lv_istore_n (lv' := [(3, .int 0), (0, .ref (a 0)), (1, .int x1), (2, .int x2)]) hx hb dX11_reach_28 rfl hl (by decide) rfl (fun ls hl => ?_)
      refine lv_iconst (v := 0) hx hb dX11_reach_29 (by decide) ?_
      refine lv_istore (lv' := [(4, .int 0), (3, .int 0), (0, .ref (a 0)), (1, .int x1), (2, .int x2)]) hx hb dX11_reach_30 hl (by decide) rfl (fun ls hl => ?_)
      obtain ⟨z_15, hz_16, h⟩ := nx_bd h
      refine L32 _ _ N _ _ _ hz_16 H locs ls hP hS (lv_sub hl [2, 1, 0] rfl) (fun H locs ls hP hS hl => ?_)
      refine lv_iload_n hx hb dX11_reach_113 rfl (lv_at hl 1 rfl) ?_
      exact kr 114 ls z_15 (k_12, k_13) H locs dX11_reach_114 (Option.some.inj h) hP hS
    · have h := nx_it h hc
      refine lv_iconst (v := (-1)) hx hb dX11_reach_15 (by decide) ?_
      exact kr 16 ls (-1) (rolls, many) H locs dX11_reach_16 (Option.some.inj h) hP hS
def f_X11_openCells_j27 (rec : (Int32 × Int32) → Option (Int32)) (x1 : Int32) (x3 : Int32) (s0 : Int32) (s1 : Int32) : Option (Int32) :=
  rec ((s1 + s0), (x3 + 1))
def f_X11_openCells_b4 (x1 : Int32) (wide : Int32) (tall : Int32) (kind : Nat → Int32) (rec : (Int32 × Int32) → Option (Int32)) (x2 : Int32) (x3 : Int32) : Option (Int32) :=
  (f_X11_cells wide tall).bind fun r_2 => if r_2 ≤ x3 then (some x2) else ((f_X11_isOpen x3 x1 kind).bind fun r_4 => if r_4 = 0 then (f_X11_openCells_j27 rec x1 x3 0 x2) else (f_X11_openCells_j27 rec x1 x3 1 x2))
def f_X11_openCells_l4 (x1 : Int32) (wide : Int32) (tall : Int32) (kind : Nat → Int32) : Nat → (Int32 × Int32) → Option (Int32) := nx_lp (fun rec z => f_X11_openCells_b4 x1 wide tall kind rec z.1 z.2)
def f_X11_openCells (N : Nat) (x1 : Int32) (wide : Int32) (tall : Int32) (kind : Nat → Int32) : Option (Int32) :=
  (f_X11_openCells_l4 x1 wide tall kind N (0, 0)).bind fun z_5 => some z_5
set_option maxHeartbeats 4000000 in
set_option maxRecDepth 100000 in
theorem c_X11_openCells (l : Launch) (N : Nat) (E : nx_E) (sz : Nat) (a : Nat → Nat) (wide : Int32) (tall : Int32) (groups : Int32) (tours : Int32) (tourLength : Int32) (rowMany : Int32) (cameBy : Int32) (top : Nat → Int32) (east : Nat → Int32) (south : Nat → Int32) (rolled : Nat → Int32) (off : Nat → Int32) (kind : Nat → Int32) (mark : Nat → Int32) (rolls : Nat → Int32) (many : Nat → Int64) (onward : Nat → Int32) (at_ : Nat → Int32) (goes : Nat → Int32) (firstTour : Nat → Int32) (rowWay : Nat → Int32) (rowSeen : Nat → Int32) (prints : Nat → Int32) (homeward : Nat → Int32) (x1 : Int32) (o : Int32) (h : f_X11_openCells N x1 wide tall kind = some o) : Met l yX11_openCells (.code yX11_openCells cX11_openCells 4 (some .int) :: nx_T) (nx_rm 1 22) (va_Pc [.ref (a 0), .int x1] (nx_P E (nx_F) sz (mW E a wide tall groups tours tourLength rowMany cameBy top east south rolled off kind mark rolls many onward at_ goes firstTour rowWay rowSeen prints homeward))) (va_Qi (fun v (_ : Unit) => v = o) (fun _ t => va_P E.1 vwCl (mW E a wide tall groups tours tourLength rowMany cameBy top east south rolled off kind mark rolls many onward at_ goes firstTour rowWay rowSeen prints homeward) t.heap) (nx_F)) 0 0 (nx_F) := by
  refine nx_enI (fun v (_ : Unit) => v = o) (fun (_ : Unit) => (mW E a wide tall groups tours tourLength rowMany cameBy top east south rolled off kind mark rolls many onward at_ goes firstTour rowWay rowSeen prints homeward)) (by decide) (Nat.le_of_ble_eq_true rfl) ?_
  intro p e s m below meth c Q X kr hsz hP ls hl
  subst hsz
  generalize hargs : (List.toArray [.ref (a 0), .int x1] : Array Value) = args at X kr ⊢
  clear hargs
  obtain ⟨⟨hx, hb, hml, hown, hts⟩, hK, hSt, hNz⟩ := id X
  have hS : va_S (nx_F) s.heap s.heap [] := va_S.rf
  have hl : lv_has ls 4 [(0, .ref (a 0)), (1, .int x1)] := hl
  have L4 : ∀ (x1 : Int32) (n : Nat) (x2 : Int32) (x3 : Int32) (z : (Int32)), f_X11_openCells_l4 x1 wide tall kind n (x2, x3) = some z → ∀ (H : Heap) (locs : List Loc) (ls : Array Slot), va_P E.1 vwCl (mW E a wide tall groups tours tourLength rowMany cameBy top east south rolled off kind mark rolls many onward at_ goes firstTour rowWay rowSeen prints homeward) H → va_S (nx_F) s.heap H locs → lv_has ls 4 [(0, .ref (a 0)), (1, .int x1), (2, .int x2), (3, .int x3)] → ∀ (kR : ∀ (H : Heap) (locs : List Loc) (ls : Array Slot), va_P E.1 vwCl (mW E a wide tall groups tours tourLength rowMany cameBy top east south rolled off kind mark rolls many onward at_ goes firstTour rowWay rowSeen prints homeward) H → va_S (nx_F) s.heap H locs → lv_has ls 4 [(0, .ref (a 0)), (2, .int z)] → W p l e (nx_rm 1 22) s m args below meth c H locs 0 0 Q (F0 m 35 ls [])), W p l e (nx_rm 1 22) s m args below meth c H locs 0 0 Q (F0 m 4 ls []) := by
   intro x1 n
   induction n with
   | zero => intro x2 x3 z h; exact nomatch (show none = some z from h)
   | succ n ih =>
    intro x2 x3 z h H locs ls hP hS hl kR
    have h : f_X11_openCells_b4 x1 wide tall kind (f_X11_openCells_l4 x1 wide tall kind n) x2 x3 = some z := h
    have J27 : ∀ (x3 : Int32) (s0 : Int32) (s1 : Int32), f_X11_openCells_j27 (f_X11_openCells_l4 x1 wide tall kind n) x1 x3 s0 s1 = some z → ∀ (H : Heap) (locs : List Loc) (ls : Array Slot), va_P E.1 vwCl (mW E a wide tall groups tours tourLength rowMany cameBy top east south rolled off kind mark rolls many onward at_ goes firstTour rowWay rowSeen prints homeward) H → va_S (nx_F) s.heap H locs → lv_has ls 4 [(0, .ref (a 0)), (1, .int x1), (3, .int x3)] → W p l e (nx_rm 1 22) s m args below meth c H locs 0 0 Q (F0 m 27 ls [.int s0, .int s1]) := by
      intro x3 s0 s1 h H locs ls hP hS hl
      unfold f_X11_openCells_j27 at h
      refine lv_iadd hx hb dX11_openCells_27 ?_
      refine lv_istore_n (lv' := [(2, .int (s1 + s0)), (0, .ref (a 0)), (1, .int x1), (3, .int x3)]) hx hb dX11_openCells_28 rfl hl (by decide) rfl (fun ls hl => ?_)
      refine lv_iinc (v := (x3 + 1)) (lv' := [(3, .int (x3 + 1)), (2, .int (s1 + s0)), (0, .ref (a 0)), (1, .int x1)]) hx hb dX11_openCells_29 hl (k := 3) rfl rfl (by decide) rfl (fun ls hl => ?_)
      refine lv_goto (tgt := 4) hx hb dX11_openCells_32 (by decide) ?_
      exact ih _ _ z h H locs ls hP hS (lv_sub hl [2, 3, 1, 0] rfl) kR
    unfold f_X11_openCells_b4 at h
    refine lv_iload_n hx hb dX11_openCells_4 rfl (lv_at hl 3 rfl) ?_
    refine lv_aload_n hx hb dX11_openCells_5 rfl (lv_at hl 0 rfl) ?_
    obtain ⟨r_2, hc_1, h⟩ := nx_bd h
    refine nx_ki (nx_runV (As := []) (rest := [.int x3]) X hS hP (c_X11_cells l E H.size a wide tall groups tours tourLength rowMany cameBy top east south rolled off kind mark rolls many onward at_ goes firstTour rowWay rowSeen prints homeward _ hc_1) nx_FA qV_RX11_100 ⟨rfl, rfl⟩ ⟨Nat.le_of_ble_eq_true rfl, Nat.le_of_ble_eq_true rfl⟩ ⟨Nat.zero_le _, Nat.zero_le _⟩ 0 rfl rfl rfl rfl hl.1 (Nat.le_of_ble_eq_true rfl) dX11_openCells_6) hS nx_FA (fun H locs hP hS => ?_)
    refine lv_icmp_ge (tgt := 35) hx hb dX11_openCells_9 (by decide) (fun hc => ?_) (fun hc => ?_)
    · have h := nx_it h hc
      obtain rfl := Option.some.inj h
      exact kR H locs ls hP hS (lv_sub hl [0, 2] rfl)
    · have h := nx_if h hc
      refine lv_iload_n hx hb dX11_openCells_12 rfl (lv_at hl 2 rfl) ?_
      refine lv_aload_n hx hb dX11_openCells_13 rfl (lv_at hl 0 rfl) ?_
      refine lv_iload_n hx hb dX11_openCells_14 rfl (lv_at hl 3 rfl) ?_
      refine lv_iload_n hx hb dX11_openCells_15 rfl (lv_at hl 1 rfl) ?_
      obtain ⟨r_4, hc_3, h⟩ := nx_bd h
      refine nx_ki (nx_runV (As := [.int x3, .int x1]) (rest := [.int x2]) X hS hP (c_X11_isOpen l E H.size a wide tall groups tours tourLength rowMany cameBy top east south rolled off kind mark rolls many onward at_ goes firstTour rowWay rowSeen prints homeward x3 x1 _ hc_3) nx_FA qV_RX11_116 ⟨rfl, rfl⟩ ⟨Nat.le_of_ble_eq_true rfl, Nat.le_of_ble_eq_true rfl⟩ ⟨Nat.zero_le _, Nat.zero_le _⟩ 0 rfl rfl rfl rfl hl.1 (Nat.le_of_ble_eq_true rfl) dX11_openCells_16) hS nx_FA (fun H locs hP hS => ?_)
      refine lv_if_eq (tgt := 26) hx hb dX11_openCells_19 (by decide) (fun hc => ?_) (fun hc => ?_)
      · have h := nx_it h hc
        refine lv_iconst (v := 0) hx hb dX11_openCells_26 (by decide) ?_
        exact J27 _ _ _ h H locs ls hP hS (lv_sub hl [0, 1, 3] rfl)
      · have h := nx_if h hc
        refine lv_iconst (v := 1) hx hb dX11_openCells_22 (by decide) ?_
        refine lv_goto (tgt := 27) hx hb dX11_openCells_23 (by decide) ?_
        exact J27 _ _ _ h H locs ls hP hS (lv_sub hl [0, 1, 3] rfl)
  unfold f_X11_openCells at h
  suffices hw : ∀ (H : Heap) (locs : List Loc), va_P E.1 vwCl (mW E a wide tall groups tours tourLength rowMany cameBy top east south rolled off kind mark rolls many onward at_ goes firstTour rowWay rowSeen prints homeward) H → va_S (nx_F) s.heap H locs → W p l e (nx_rm 1 22) s m args below meth c H locs 0 0 Q (F0 m 0 ls []) from hw _ _ hP va_S.rf
  intro H locs hP hS
  refine lv_iconst (v := 0) hx hb dX11_openCells_0 (by decide) ?_
  refine lv_istore_n (lv' := [(2, .int 0), (0, .ref (a 0)), (1, .int x1)]) hx hb dX11_openCells_1 rfl hl (by decide) rfl (fun ls hl => ?_)
  refine lv_iconst (v := 0) hx hb dX11_openCells_2 (by decide) ?_
  refine lv_istore_n (lv' := [(3, .int 0), (2, .int 0), (0, .ref (a 0)), (1, .int x1)]) hx hb dX11_openCells_3 rfl hl (by decide) rfl (fun ls hl => ?_)
  obtain ⟨z_5, hz_6, h⟩ := nx_bd h
  refine L4 _ N _ _ _ hz_6 H locs ls hP hS (lv_sub hl [2, 3, 1, 0] rfl) (fun H locs ls hP hS hl => ?_)
  refine lv_iload_n hx hb dX11_openCells_35 rfl (lv_at hl 1 rfl) ?_
  exact kr 36 ls z_5 () H locs dX11_openCells_36 (Option.some.inj h) hP hS
def f_X11_mayTour (N : Nat) (x1 : Int32) (x2 : Int32) (x3 : Int32) (wide : Int32) (tall : Int32) (groups : Int32) (kind : Nat → Int32) : Option (Int32) :=
  (f_X11_isCell x1 wide tall).bind fun r_2 => if r_2 = 0 then (some (-1)) else ((f_X11_isStance x2).bind fun r_4 => if r_4 = 0 then (some (-1)) else ((f_X11_in ((x3 : Int32).toInt64) 0 6).bind fun r_6 => if r_6 = 0 then (some (-2)) else ((f_X11_openCells N groups wide tall kind).bind fun r_8 => if 16 < r_8 then (some (-3)) else ((f_X11_isOpen x1 groups kind).bind fun r_10 => if r_10 = 0 then (some (-3)) else (some 0)))))
set_option maxHeartbeats 4000000 in
set_option maxRecDepth 100000 in
theorem c_X11_mayTour (l : Launch) (N : Nat) (E : nx_E) (sz : Nat) (a : Nat → Nat) (wide : Int32) (tall : Int32) (groups : Int32) (tours : Int32) (tourLength : Int32) (rowMany : Int32) (cameBy : Int32) (top : Nat → Int32) (east : Nat → Int32) (south : Nat → Int32) (rolled : Nat → Int32) (off : Nat → Int32) (kind : Nat → Int32) (mark : Nat → Int32) (rolls : Nat → Int32) (many : Nat → Int64) (onward : Nat → Int32) (at_ : Nat → Int32) (goes : Nat → Int32) (firstTour : Nat → Int32) (rowWay : Nat → Int32) (rowSeen : Nat → Int32) (prints : Nat → Int32) (homeward : Nat → Int32) (x1 : Int32) (x2 : Int32) (x3 : Int32) (o : Int32) (h : f_X11_mayTour N x1 x2 x3 wide tall groups kind = some o) : Met l yX11_mayTour (.code yX11_mayTour cX11_mayTour 4 (some .int) :: nx_T) (nx_rm 2 46) (va_Pc [.ref (a 0), .int x1, .int x2, .int x3] (nx_P E (nx_F) sz (mW E a wide tall groups tours tourLength rowMany cameBy top east south rolled off kind mark rolls many onward at_ goes firstTour rowWay rowSeen prints homeward))) (va_Qi (fun v (_ : Unit) => v = o) (fun _ t => va_P E.1 vwCl (mW E a wide tall groups tours tourLength rowMany cameBy top east south rolled off kind mark rolls many onward at_ goes firstTour rowWay rowSeen prints homeward) t.heap) (nx_F)) 0 0 (nx_F) := by
  refine nx_enI (fun v (_ : Unit) => v = o) (fun (_ : Unit) => (mW E a wide tall groups tours tourLength rowMany cameBy top east south rolled off kind mark rolls many onward at_ goes firstTour rowWay rowSeen prints homeward)) (by decide) (Nat.le_of_ble_eq_true rfl) ?_
  intro p e s m below meth c Q X kr hsz hP ls hl
  subst hsz
  generalize hargs : (List.toArray [.ref (a 0), .int x1, .int x2, .int x3] : Array Value) = args at X kr ⊢
  clear hargs
  obtain ⟨⟨hx, hb, hml, hown, hts⟩, hK, hSt, hNz⟩ := id X
  have hS : va_S (nx_F) s.heap s.heap [] := va_S.rf
  have hl : lv_has ls 4 [(0, .ref (a 0)), (1, .int x1), (2, .int x2), (3, .int x3)] := hl
  unfold f_X11_mayTour at h
  suffices hw : ∀ (H : Heap) (locs : List Loc), va_P E.1 vwCl (mW E a wide tall groups tours tourLength rowMany cameBy top east south rolled off kind mark rolls many onward at_ goes firstTour rowWay rowSeen prints homeward) H → va_S (nx_F) s.heap H locs → W p l e (nx_rm 2 46) s m args below meth c H locs 0 0 Q (F0 m 0 ls []) from hw _ _ hP va_S.rf
  intro H locs hP hS
  refine lv_aload_n hx hb dX11_mayTour_0 rfl (lv_at hl 0 rfl) ?_
  refine lv_iload_n hx hb dX11_mayTour_1 rfl (lv_at hl 1 rfl) ?_
  obtain ⟨r_2, hc_1, h⟩ := nx_bd h
  refine nx_ki (nx_runV (As := [.int x1]) (rest := []) X hS hP (c_X11_isCell l E H.size a wide tall groups tours tourLength rowMany cameBy top east south rolled off kind mark rolls many onward at_ goes firstTour rowWay rowSeen prints homeward x1 _ hc_1) nx_FA qV_RX11_111 ⟨rfl, rfl⟩ ⟨Nat.le_of_ble_eq_true rfl, Nat.le_of_ble_eq_true rfl⟩ ⟨Nat.zero_le _, Nat.zero_le _⟩ 0 rfl rfl rfl rfl hl.1 (Nat.le_of_ble_eq_true rfl) dX11_mayTour_2) hS nx_FA (fun H locs hP hS => ?_)
  refine lv_if_eq (tgt := 15) hx hb dX11_mayTour_5 (by decide) (fun hc => ?_) (fun hc => ?_)
  · have h := nx_it h hc
    refine lv_iconst (v := (-1)) hx hb dX11_mayTour_15 (by decide) ?_
    exact kr 16 ls (-1) () H locs dX11_mayTour_16 (Option.some.inj h) hP hS
  · have h := nx_if h hc
    refine lv_iload_n hx hb dX11_mayTour_8 rfl (lv_at hl 2 rfl) ?_
    obtain ⟨r_4, hc_3, h⟩ := nx_bd h
    refine nx_ki (nx_runS (As := [.int x2]) (rest := []) X hS hP (c_X11_isStance l E H.size a wide tall groups tours tourLength rowMany cameBy top east south rolled off kind mark rolls many onward at_ goes firstTour rowWay rowSeen prints homeward x2 _ hc_3) nx_FA qS_RX11_90 ⟨rfl, rfl⟩ ⟨Nat.le_of_ble_eq_true rfl, Nat.le_of_ble_eq_true rfl⟩ ⟨Nat.zero_le _, Nat.zero_le _⟩ rfl rfl hl.1 (Nat.le_of_ble_eq_true rfl) dX11_mayTour_9) hS nx_FA (fun H locs hP hS => ?_)
    refine lv_if_ne (tgt := 17) hx hb dX11_mayTour_12 (by decide) (fun hc => ?_) (fun hc => ?_)
    · have h := nx_if h hc
      refine lv_iload_n hx hb dX11_mayTour_17 rfl (lv_at hl 3 rfl) ?_
      refine lv_i2l (v := (x3 : Int32).toInt64) hx hb dX11_mayTour_18 rfl ?_
      refine lv_lconst (v := 0) hx hb dX11_mayTour_19 (by decide) ?_
      refine lv_ldc2 hx hb hown (hts _ wl_RX11_97) dX11_mayTour_20 ?_
      obtain ⟨r_6, hc_5, h⟩ := nx_bd h
      refine nx_ki (nx_runS (As := [.long ((x3 : Int32).toInt64), .long 0, .long 6]) (rest := []) X hS hP (c_X11_in l E H.size a wide tall groups tours tourLength rowMany cameBy top east south rolled off kind mark rolls many onward at_ goes firstTour rowWay rowSeen prints homeward ((x3 : Int32).toInt64) 0 6 _ hc_5) nx_FA qS_RX11_84 ⟨rfl, rfl⟩ ⟨Nat.le_of_ble_eq_true rfl, Nat.le_of_ble_eq_true rfl⟩ ⟨Nat.zero_le _, Nat.zero_le _⟩ rfl rfl hl.1 (Nat.le_of_ble_eq_true rfl) dX11_mayTour_23) hS nx_FA (fun H locs hP hS => ?_)
      refine lv_if_ne (tgt := 32) hx hb dX11_mayTour_26 (by decide) (fun hc => ?_) (fun hc => ?_)
      · have h := nx_if h hc
        refine lv_aload_n hx hb dX11_mayTour_32 rfl (lv_at hl 0 rfl) ?_
        refine lv_aload_n hx hb dX11_mayTour_33 rfl (lv_at hl 0 rfl) ?_
        refine nx_gf X hP uw_X11 (ci := 10) rfl 0 rfl 9 (by decide) wf_RX11_108 rfl dX11_mayTour_34 ?_
        obtain ⟨r_8, hc_7, h⟩ := nx_bd h
        refine nx_ki (nx_runV (As := [.int groups]) (rest := []) X hS hP (c_X11_openCells l N E H.size a wide tall groups tours tourLength rowMany cameBy top east south rolled off kind mark rolls many onward at_ goes firstTour rowWay rowSeen prints homeward groups _ hc_7) nx_FA qV_RX11_156 ⟨rfl, rfl⟩ ⟨Nat.le_of_ble_eq_true rfl, Nat.le_of_ble_eq_true rfl⟩ ⟨Nat.zero_le _, Nat.zero_le _⟩ 0 rfl rfl rfl rfl hl.1 (Nat.le_of_ble_eq_true rfl) dX11_mayTour_37) hS nx_FA (fun H locs hP hS => ?_)
        refine lv_bipush (v := 16) hx hb dX11_mayTour_40 (by decide) ?_
        refine lv_icmp_gt (tgt := 57) hx hb dX11_mayTour_42 (by decide) (fun hc => ?_) (fun hc => ?_)
        · have h := nx_it h hc
          refine lv_bipush (v := (-3)) hx hb dX11_mayTour_57 (by decide) ?_
          refine lv_goto (tgt := 63) hx hb dX11_mayTour_59 (by decide) ?_
          exact kr 63 ls (-3) () H locs dX11_mayTour_63 (Option.some.inj h) hP hS
        · have h := nx_if h hc
          refine lv_aload_n hx hb dX11_mayTour_45 rfl (lv_at hl 0 rfl) ?_
          refine lv_iload_n hx hb dX11_mayTour_46 rfl (lv_at hl 1 rfl) ?_
          refine lv_aload_n hx hb dX11_mayTour_47 rfl (lv_at hl 0 rfl) ?_
          refine nx_gf X hP uw_X11 (ci := 10) rfl 0 rfl 9 (by decide) wf_RX11_108 rfl dX11_mayTour_48 ?_
          obtain ⟨r_10, hc_9, h⟩ := nx_bd h
          refine nx_ki (nx_runV (As := [.int x1, .int groups]) (rest := []) X hS hP (c_X11_isOpen l E H.size a wide tall groups tours tourLength rowMany cameBy top east south rolled off kind mark rolls many onward at_ goes firstTour rowWay rowSeen prints homeward x1 groups _ hc_9) nx_FA qV_RX11_116 ⟨rfl, rfl⟩ ⟨Nat.le_of_ble_eq_true rfl, Nat.le_of_ble_eq_true rfl⟩ ⟨Nat.zero_le _, Nat.zero_le _⟩ 0 rfl rfl rfl rfl hl.1 (Nat.le_of_ble_eq_true rfl) dX11_mayTour_51) hS nx_FA (fun H locs hP hS => ?_)
          refine lv_if_ne (tgt := 62) hx hb dX11_mayTour_54 (by decide) (fun hc => ?_) (fun hc => ?_)
          · have h := nx_if h hc
            refine lv_iconst (v := 0) hx hb dX11_mayTour_62 (by decide) ?_
            exact kr 63 ls 0 () H locs dX11_mayTour_63 (Option.some.inj h) hP hS
          · have h := nx_it h hc
            refine lv_bipush (v := (-3)) hx hb dX11_mayTour_57 (by decide) ?_
            refine lv_goto (tgt := 63) hx hb dX11_mayTour_59 (by decide) ?_
            exact kr 63 ls (-3) () H locs dX11_mayTour_63 (Option.some.inj h) hP hS
      · have h := nx_it h hc
        refine lv_bipush (v := (-2)) hx hb dX11_mayTour_29 (by decide) ?_
        exact kr 31 ls (-2) () H locs dX11_mayTour_31 (Option.some.inj h) hP hS
    · have h := nx_it h hc
      refine lv_iconst (v := (-1)) hx hb dX11_mayTour_15 (by decide) ?_
      exact kr 16 ls (-1) () H locs dX11_mayTour_16 (Option.some.inj h) hP hS
def f_X11_endTour_b25 (x1 : Int32) (tours : Int32) (goes : Nat → Int32) (rec : (Int32 × (Nat → Int32)) → Option ((Nat → Int32))) (x3 : Int32) (firstTour : Nat → Int32) : Option ((Nat → Int32)) :=
  if x1 ≤ x3 then (some firstTour) else (if tours = 0 then ((nx_rd goes 17 x3).bind fun _ => (nx_ck 16 x3).bind fun _ => rec ((x3 + 1), (upd firstTour x3.toNatClampNeg (goes x3.toNatClampNeg)))) else (some firstTour))
def f_X11_endTour_l25 (x1 : Int32) (tours : Int32) (goes : Nat → Int32) : Nat → (Int32 × (Nat → Int32)) → Option ((Nat → Int32)) := nx_lp (fun rec z => f_X11_endTour_b25 x1 tours goes rec z.1 z.2)
def f_X11_endTour_j23 (N : Nat) (x1 : Int32) (tours : Int32) (goes : Nat → Int32) (firstTour : Nat → Int32) : Option (Int32 × (Nat → Int32)) :=
  (f_X11_endTour_l25 x1 tours goes N (0, firstTour)).bind fun z_4 => some ((tours + 1), z_4)
def f_X11_endTour (N : Nat) (x1 : Int32) (x2 : Int32) (tours : Int32) (top : Nat → Int32) (at_ : Nat → Int32) (goes : Nat → Int32) (firstTour : Nat → Int32) : Option (Int32 × (Nat → Int32)) :=
  if x2 ≤ 0 then (f_X11_endTour_j23 N x1 tours goes firstTour) else ((nx_rd at_ 17 x1).bind fun _ => (nx_rd top 24 ((at_ x1.toNatClampNeg) - (at_ x1.toNatClampNeg) / 24 * 24)).bind fun _ => if (top ((at_ x1.toNatClampNeg) - (at_ x1.toNatClampNeg) / 24 * 24).toNatClampNeg) = x2 then (f_X11_endTour_j23 N x1 tours goes firstTour) else (some (tours, firstTour)))
set_option maxHeartbeats 4000000 in
set_option maxRecDepth 100000 in
theorem c_X11_endTour (l : Launch) (N : Nat) (E : nx_E) (sz : Nat) (a : Nat → Nat) (wide : Int32) (tall : Int32) (groups : Int32) (tours : Int32) (tourLength : Int32) (rowMany : Int32) (cameBy : Int32) (top : Nat → Int32) (east : Nat → Int32) (south : Nat → Int32) (rolled : Nat → Int32) (off : Nat → Int32) (kind : Nat → Int32) (mark : Nat → Int32) (rolls : Nat → Int32) (many : Nat → Int64) (onward : Nat → Int32) (at_ : Nat → Int32) (goes : Nat → Int32) (firstTour : Nat → Int32) (rowWay : Nat → Int32) (rowSeen : Nat → Int32) (prints : Nat → Int32) (homeward : Nat → Int32) (x1 : Int32) (x2 : Int32) (hI : nx_inj a 18) (o : Int32 × (Nat → Int32)) (h : f_X11_endTour N x1 x2 tours top at_ goes firstTour = some o) : Met l yX11_endTour (.code yX11_endTour cX11_endTour 4 none :: nx_T) (nx_rm 0 0) (va_Pc [.ref (a 0), .int x1, .int x2] (nx_P E (nx_A a 18 sz) sz (mW E a wide tall groups tours tourLength rowMany cameBy top east south rolled off kind mark rolls many onward at_ goes firstTour rowWay rowSeen prints homeward))) (va_Qv (fun u => u = o) (fun u t => va_P E.1 vwCl (mW E a wide tall groups (u.1) tourLength rowMany cameBy top east south rolled off kind mark rolls many onward at_ goes (u.2) rowWay rowSeen prints homeward) t.heap) (nx_A a 18 sz)) 0 0 (nx_A a 18 sz) := by
  refine nx_enV (fun u => u = o) (fun (u : Int32 × (Nat → Int32)) => (mW E a wide tall groups (u.1) tourLength rowMany cameBy top east south rolled off kind mark rolls many onward at_ goes (u.2) rowWay rowSeen prints homeward)) (by decide) (Nat.le_of_ble_eq_true rfl) ?_
  intro p e s m below meth c Q X kr hsz hP ls hl
  subst hsz
  generalize hargs : (List.toArray [.ref (a 0), .int x1, .int x2] : Array Value) = args at X kr ⊢
  clear hargs
  obtain ⟨⟨hx, hb, hml, hown, hts⟩, hK, hSt, hNz⟩ := id X
  have hS : va_S (nx_A a 18 s.heap.size) s.heap s.heap [] := va_S.rf
  have hl : lv_has ls 4 [(0, .ref (a 0)), (1, .int x1), (2, .int x2)] := hl
  have L25 : ∀ (x1 : Int32) (tours : Int32) (n : Nat) (x3 : Int32) (firstTour : Nat → Int32) (z : ((Nat → Int32))), f_X11_endTour_l25 x1 tours goes n (x3, firstTour) = some z → ∀ (H : Heap) (locs : List Loc) (ls : Array Slot), va_P E.1 vwCl (mW E a wide tall groups tours tourLength rowMany cameBy top east south rolled off kind mark rolls many onward at_ goes firstTour rowWay rowSeen prints homeward) H → va_S (nx_A a 18 s.heap.size) s.heap H locs → lv_has ls 4 [(0, .ref (a 0)), (1, .int x1), (3, .int x3)] → ∀ (kR : ∀ (H : Heap) (locs : List Loc) (ls : Array Slot), va_P E.1 vwCl (mW E a wide tall groups tours tourLength rowMany cameBy top east south rolled off kind mark rolls many onward at_ goes z rowWay rowSeen prints homeward) H → va_S (nx_A a 18 s.heap.size) s.heap H locs → lv_has ls 4 [(0, .ref (a 0))] → W p l e (nx_rm 0 0) s m args below meth c H locs 0 0 Q (F0 m 55 ls [])), W p l e (nx_rm 0 0) s m args below meth c H locs 0 0 Q (F0 m 25 ls []) := by
   intro x1 tours n
   induction n with
   | zero => intro x3 firstTour z h; exact nomatch (show none = some z from h)
   | succ n ih =>
    intro x3 firstTour z h H locs ls hP hS hl kR
    have h : f_X11_endTour_b25 x1 tours goes (f_X11_endTour_l25 x1 tours goes n) x3 firstTour = some z := h
    unfold f_X11_endTour_b25 at h
    refine lv_iload_n hx hb dX11_endTour_25 rfl (lv_at hl 2 rfl) ?_
    refine lv_iload_n hx hb dX11_endTour_26 rfl (lv_at hl 1 rfl) ?_
    refine lv_icmp_ge (tgt := 55) hx hb dX11_endTour_27 (by decide) (fun hc => ?_) (fun hc => ?_)
    · have h := nx_it h hc
      obtain rfl := Option.some.inj h
      exact kR H locs ls hP hS (lv_sub hl [0] rfl)
    · have h := nx_if h hc
      refine lv_aload_n hx hb dX11_endTour_30 rfl (lv_at hl 0 rfl) ?_
      refine nx_gf X hP uw_X11 (ci := 10) rfl 0 rfl 16 (by decide) wf_RX11_159 rfl dX11_endTour_31 ?_
      refine lv_if_ne (tgt := 55) hx hb dX11_endTour_34 (by decide) (fun hc => ?_) (fun hc => ?_)
      · have h := nx_if h hc
        obtain rfl := Option.some.inj h
        exact kR H locs ls hP hS (lv_sub hl [0] rfl)
      · have h := nx_it h hc
        refine lv_aload_n hx hb dX11_endTour_37 rfl (lv_at hl 0 rfl) ?_
        refine nx_gf X hP uw_X11 (ci := 10) rfl 0 rfl 15 (by decide) wf_RX11_54 rfl dX11_endTour_38 ?_
        refine lv_iload_n hx hb dX11_endTour_41 rfl (lv_at hl 2 rfl) ?_
        refine lv_aload_n hx hb dX11_endTour_42 rfl (lv_at hl 0 rfl) ?_
        refine nx_gf X hP uw_X11 (ci := 10) rfl 0 rfl 14 (by decide) wf_RX11_51 rfl dX11_endTour_43 ?_
        refine lv_iload_n hx hb dX11_endTour_46 rfl (lv_at hl 2 rfl) ?_
        obtain ⟨hv_1, h⟩ := nx_rb h
        refine nx_ld X hP 12 rfl hv_1 dX11_endTour_47 ?_
        obtain ⟨hv_3, h⟩ := nx_cb h
        refine nx_st X hI mW_ad hP hS 13 rfl hv_3 dX11_endTour_48 (fun H locs hP hS => ?_)
        have hP : va_P E.1 vwCl (mW E a wide tall groups tours tourLength rowMany cameBy top east south rolled off kind mark rolls many onward at_ goes (upd firstTour x3.toNatClampNeg (goes x3.toNatClampNeg)) rowWay rowSeen prints homeward) H := hP
        refine lv_iinc (v := (x3 + 1)) (lv' := [(3, .int (x3 + 1)), (0, .ref (a 0)), (1, .int x1)]) hx hb dX11_endTour_49 hl (k := 2) rfl rfl (by decide) rfl (fun ls hl => ?_)
        refine lv_goto (tgt := 25) hx hb dX11_endTour_52 (by decide) ?_
        exact ih _ _ z h H locs ls hP hS (lv_sub hl [1, 2, 0] rfl) kR
  have J23 : ∀ (x1 : Int32) (tours : Int32) (firstTour : Nat → Int32), f_X11_endTour_j23 N x1 tours goes firstTour = some o → ∀ (H : Heap) (locs : List Loc) (ls : Array Slot), va_P E.1 vwCl (mW E a wide tall groups tours tourLength rowMany cameBy top east south rolled off kind mark rolls many onward at_ goes firstTour rowWay rowSeen prints homeward) H → va_S (nx_A a 18 s.heap.size) s.heap H locs → lv_has ls 4 [(0, .ref (a 0)), (1, .int x1)] → W p l e (nx_rm 0 0) s m args below meth c H locs 0 0 Q (F0 m 23 ls []) := by
    intro x1 tours firstTour h H locs ls hP hS hl
    unfold f_X11_endTour_j23 at h
    refine lv_iconst (v := 0) hx hb dX11_endTour_23 (by decide) ?_
    refine lv_istore_n (lv' := [(3, .int 0), (0, .ref (a 0)), (1, .int x1)]) hx hb dX11_endTour_24 rfl hl (by decide) rfl (fun ls hl => ?_)
    obtain ⟨z_4, hz_5, h⟩ := nx_bd h
    refine L25 _ _ N _ _ _ hz_5 H locs ls hP hS (lv_sub hl [1, 2, 0] rfl) (fun H locs ls hP hS hl => ?_)
    refine lv_aload_n hx hb dX11_endTour_55 rfl (lv_at hl 0 rfl) ?_
    refine lv_dup hx hb dX11_endTour_56 rfl ?_
    refine nx_gf X hP uw_X11 (ci := 10) rfl 0 rfl 16 (by decide) wf_RX11_159 rfl dX11_endTour_57 ?_
    refine lv_iconst (v := 1) hx hb dX11_endTour_60 (by decide) ?_
    refine lv_iadd hx hb dX11_endTour_61 ?_
    refine nx_pf (ty := .int) (v := .int (tours + 1)) X hI mW_ad hP hS uw_X11 tyX11 tyX11_ok nmX11 (ci := 10) rfl 0 rfl 16 (by decide) wf_RX11_159 rfl (by decide +kernel) rfl rfl (Nat.le_of_ble_eq_true rfl) dX11_endTour_62 (fun H locs hP hS => ?_)
    have hP : va_P E.1 vwCl (mW E a wide tall groups (tours + 1) tourLength rowMany cameBy top east south rolled off kind mark rolls many onward at_ goes z_4 rowWay rowSeen prints homeward) H := hP
    exact kr 65 ls ((tours + 1), z_4) H locs dX11_endTour_65 (Option.some.inj h) hP hS
  unfold f_X11_endTour at h
  suffices hw : ∀ (H : Heap) (locs : List Loc), va_P E.1 vwCl (mW E a wide tall groups tours tourLength rowMany cameBy top east south rolled off kind mark rolls many onward at_ goes firstTour rowWay rowSeen prints homeward) H → va_S (nx_A a 18 s.heap.size) s.heap H locs → W p l e (nx_rm 0 0) s m args below meth c H locs 0 0 Q (F0 m 0 ls []) from hw _ _ hP va_S.rf
  intro H locs hP hS
  refine lv_iload_n hx hb dX11_endTour_0 rfl (lv_at hl 2 rfl) ?_
  refine lv_if_le (tgt := 23) hx hb dX11_endTour_1 (by decide) (fun hc => ?_) (fun hc => ?_)
  · have h := nx_it h hc
    exact J23 _ _ _ h H locs ls hP hS (lv_sub hl [0, 1] rfl)
  · have h := nx_if h hc
    refine lv_aload_n hx hb dX11_endTour_4 rfl (lv_at hl 0 rfl) ?_
    refine nx_gf X hP uw_X11 (ci := 10) rfl 0 rfl 0 (by decide) wf_RX11_7 rfl dX11_endTour_5 ?_
    refine lv_aload_n hx hb dX11_endTour_8 rfl (lv_at hl 0 rfl) ?_
    refine nx_gf X hP uw_X11 (ci := 10) rfl 0 rfl 13 (by decide) wf_RX11_48 rfl dX11_endTour_9 ?_
    refine lv_iload_n hx hb dX11_endTour_12 rfl (lv_at hl 1 rfl) ?_
    obtain ⟨hv_6, h⟩ := nx_rb h
    refine nx_ld X hP 11 rfl hv_6 dX11_endTour_13 ?_
    refine lv_bipush (v := 24) hx hb dX11_endTour_14 (by decide) ?_
    refine lv_irem hx hb dX11_endTour_16 (by decide) ?_
    obtain ⟨hv_8, h⟩ := nx_rb h
    refine nx_ld X hP 1 rfl hv_8 dX11_endTour_17 ?_
    refine lv_iload_n hx hb dX11_endTour_18 rfl (lv_at hl 2 rfl) ?_
    refine lv_icmp_eq (tgt := 23) hx hb dX11_endTour_19 (by decide) (fun hc => ?_) (fun hc => ?_)
    · have h := nx_it h hc
      exact J23 _ _ _ h H locs ls hP hS (lv_sub hl [0, 1] rfl)
    · have h := nx_if h hc
      exact kr 22 ls (tours, firstTour) H locs dX11_endTour_22 (Option.some.inj h) hP hS
def f_X11_layTours_j142 (rec : (Int32 × Int32 × Int32 × (Nat → Int32) × (Nat → Int32) × (Nat → Int32)) → Option (Int32 × (Nat → Int32) × (Nat → Int32) × (Nat → Int32))) (x2 : Int32) (x3 : Int32) (x4 : Int32) (tours : Int32) (at_ : Nat → Int32) (goes : Nat → Int32) (firstTour : Nat → Int32) : Option (Int32 × (Nat → Int32) × (Nat → Int32) × (Nat → Int32)) :=
  (nx_rd at_ 17 x4).bind fun _ => rec ((x3 &&& ((1 <<< (((at_ x4.toNatClampNeg) / 24) &&& 31)) ^^^ (-1))), (x4 + (-1)), tours, at_, goes, firstTour)
def f_X11_layTours_j120 (rec : (Int32 × Int32 × Int32 × (Nat → Int32) × (Nat → Int32) × (Nat → Int32)) → Option (Int32 × (Nat → Int32) × (Nat → Int32) × (Nat → Int32))) (x2 : Int32) (x3 : Int32) (x4 : Int32) (s0 : Int32) (tours : Int32) (tourLength : Int32) (at_ : Nat → Int32) (goes : Nat → Int32) (firstTour : Nat → Int32) : Option (Int32 × (Nat → Int32) × (Nat → Int32) × (Nat → Int32)) :=
  (nx_rd goes 17 x4).bind fun _ => if 3 < (goes x4.toNatClampNeg) then (f_X11_layTours_j142 rec x2 x3 x4 tours at_ goes firstTour) else (if x4 = tourLength then (f_X11_layTours_j142 rec x2 x3 x4 tours at_ goes firstTour) else (if s0 = (-9) then (rec (x3, x4, tours, at_, goes, firstTour)) else (if ((x3 >>> ((s0 / 24) &&& 31)) &&& 1) = 0 then ((nx_ck 17 (x4 + 1)).bind fun _ => (nx_ck 17 (x4 + 1)).bind fun _ => rec ((x3 ||| (1 <<< ((s0 / 24) &&& 31))), (x4 + 1), tours, (upd at_ (x4 + 1).toNatClampNeg s0), (upd goes (x4 + 1).toNatClampNeg (-1)), firstTour)) else (rec (x3, x4, tours, at_, goes, firstTour)))))
def f_X11_layTours_j75 (rec : (Int32 × Int32 × Int32 × (Nat → Int32) × (Nat → Int32) × (Nat → Int32)) → Option (Int32 × (Nat → Int32) × (Nat → Int32) × (Nat → Int32))) (x2 : Int32) (x3 : Int32) (x4 : Int32) (wide : Int32) (tall : Int32) (groups : Int32) (tours : Int32) (tourLength : Int32) (top : Nat → Int32) (rolled : Nat → Int32) (kind : Nat → Int32) (mark : Nat → Int32) (at_ : Nat → Int32) (goes : Nat → Int32) (firstTour : Nat → Int32) : Option (Int32 × (Nat → Int32) × (Nat → Int32) × (Nat → Int32)) :=
  (nx_rd goes 17 x4).bind fun _ => (nx_ck 17 x4).bind fun _ => (nx_rd (upd goes x4.toNatClampNeg ((goes x4.toNatClampNeg) + 1)) 17 x4).bind fun _ => if ((upd goes x4.toNatClampNeg ((goes x4.toNatClampNeg) + 1)) x4.toNatClampNeg) ≤ 3 then ((nx_rd at_ 17 x4).bind fun _ => (nx_rd (upd goes x4.toNatClampNeg ((goes x4.toNatClampNeg) + 1)) 17 x4).bind fun _ => (f_X11_rollOf (at_ x4.toNatClampNeg) ((upd goes x4.toNatClampNeg ((goes x4.toNatClampNeg) + 1)) x4.toNatClampNeg) wide tall groups top rolled kind mark).bind fun r_17 => f_X11_layTours_j120 rec x2 x3 x4 r_17 tours tourLength at_ (upd goes x4.toNatClampNeg ((goes x4.toNatClampNeg) + 1)) firstTour) else (f_X11_layTours_j120 rec x2 x3 x4 (-9) tours tourLength at_ (upd goes x4.toNatClampNeg ((goes x4.toNatClampNeg) + 1)) firstTour)
def f_X11_layTours_b43 (N : Nat) (x2 : Int32) (wide : Int32) (tall : Int32) (groups : Int32) (tourLength : Int32) (top : Nat → Int32) (rolled : Nat → Int32) (kind : Nat → Int32) (mark : Nat → Int32) (rec : (Int32 × Int32 × Int32 × (Nat → Int32) × (Nat → Int32) × (Nat → Int32)) → Option (Int32 × (Nat → Int32) × (Nat → Int32) × (Nat → Int32))) (x3 : Int32) (x4 : Int32) (tours : Int32) (at_ : Nat → Int32) (goes : Nat → Int32) (firstTour : Nat → Int32) : Option (Int32 × (Nat → Int32) × (Nat → Int32) × (Nat → Int32)) :=
  if x4 < 0 then (some (tours, at_, goes, firstTour)) else (if x4 = tourLength then ((nx_rd goes 17 x4).bind fun _ => if (goes x4.toNatClampNeg) = (-1) then ((f_X11_endTour N x4 x2 tours top at_ goes firstTour).bind fun t_23 => f_X11_layTours_j75 rec x2 x3 x4 wide tall groups t_23.1 tourLength top rolled kind mark at_ goes t_23.2) else (f_X11_layTours_j75 rec x2 x3 x4 wide tall groups tours tourLength top rolled kind mark at_ goes firstTour)) else (f_X11_layTours_j75 rec x2 x3 x4 wide tall groups tours tourLength top rolled kind mark at_ goes firstTour))
def f_X11_layTours_l43 (N : Nat) (x2 : Int32) (wide : Int32) (tall : Int32) (groups : Int32) (tourLength : Int32) (top : Nat → Int32) (rolled : Nat → Int32) (kind : Nat → Int32) (mark : Nat → Int32) : Nat → (Int32 × Int32 × Int32 × (Nat → Int32) × (Nat → Int32) × (Nat → Int32)) → Option (Int32 × (Nat → Int32) × (Nat → Int32) × (Nat → Int32)) := nx_lp (fun rec z => f_X11_layTours_b43 N x2 wide tall groups tourLength top rolled kind mark rec z.1 z.2.1 z.2.2.1 z.2.2.2.1 z.2.2.2.2.1 z.2.2.2.2.2)
def f_X11_layTours (N : Nat) (x1 : Int32) (x2 : Int32) (wide : Int32) (tall : Int32) (groups : Int32) (tours : Int32) (tourLength : Int32) (top : Nat → Int32) (rolled : Nat → Int32) (kind : Nat → Int32) (mark : Nat → Int32) (at_ : Nat → Int32) (goes : Nat → Int32) (firstTour : Nat → Int32) : Option (Int32 × Int32 × (Nat → Int32) × (Nat → Int32) × (Nat → Int32)) :=
  (f_X11_openCells N groups wide tall kind).bind fun r_25 => (nx_ck 17 0).bind fun _ => (nx_ck 17 0).bind fun _ => (f_X11_layTours_l43 N x2 wide tall groups (r_25 - 1) top rolled kind mark N ((1 <<< ((x1 / 24) &&& 31)), 0, 0, (upd at_ (0 : Int32).toNatClampNeg x1), (upd goes (0 : Int32).toNatClampNeg (-1)), firstTour)).bind fun z_28 => some (z_28.1, (r_25 - 1), z_28.2.1, z_28.2.2.1, z_28.2.2.2)
set_option maxHeartbeats 4000000 in
set_option maxRecDepth 100000 in
theorem c_X11_layTours (l : Launch) (N : Nat) (E : nx_E) (sz : Nat) (a : Nat → Nat) (wide : Int32) (tall : Int32) (groups : Int32) (tours : Int32) (tourLength : Int32) (rowMany : Int32) (cameBy : Int32) (top : Nat → Int32) (east : Nat → Int32) (south : Nat → Int32) (rolled : Nat → Int32) (off : Nat → Int32) (kind : Nat → Int32) (mark : Nat → Int32) (rolls : Nat → Int32) (many : Nat → Int64) (onward : Nat → Int32) (at_ : Nat → Int32) (goes : Nat → Int32) (firstTour : Nat → Int32) (rowWay : Nat → Int32) (rowSeen : Nat → Int32) (prints : Nat → Int32) (homeward : Nat → Int32) (x1 : Int32) (x2 : Int32) (hI : nx_inj a 18) (o : Int32 × Int32 × (Nat → Int32) × (Nat → Int32) × (Nat → Int32)) (h : f_X11_layTours N x1 x2 wide tall groups tours tourLength top rolled kind mark at_ goes firstTour = some o) : Met l yX11_layTours (.code yX11_layTours cX11_layTours 6 none :: nx_T) (nx_rm 3 73) (va_Pc [.ref (a 0), .int x1, .int x2] (nx_P E (nx_A a 18 sz) sz (mW E a wide tall groups tours tourLength rowMany cameBy top east south rolled off kind mark rolls many onward at_ goes firstTour rowWay rowSeen prints homeward))) (va_Qv (fun u => u = o) (fun u t => va_P E.1 vwCl (mW E a wide tall groups (u.1) (u.2.1) rowMany cameBy top east south rolled off kind mark rolls many onward (u.2.2.1) (u.2.2.2.1) (u.2.2.2.2) rowWay rowSeen prints homeward) t.heap) (nx_A a 18 sz)) 0 0 (nx_A a 18 sz) := by
  refine nx_enV (fun u => u = o) (fun (u : Int32 × Int32 × (Nat → Int32) × (Nat → Int32) × (Nat → Int32)) => (mW E a wide tall groups (u.1) (u.2.1) rowMany cameBy top east south rolled off kind mark rolls many onward (u.2.2.1) (u.2.2.2.1) (u.2.2.2.2) rowWay rowSeen prints homeward)) (by decide) (Nat.le_of_ble_eq_true rfl) ?_
  intro p e s m below meth c Q X kr hsz hP ls hl
  subst hsz
  generalize hargs : (List.toArray [.ref (a 0), .int x1, .int x2] : Array Value) = args at X kr ⊢
  clear hargs
  obtain ⟨⟨hx, hb, hml, hown, hts⟩, hK, hSt, hNz⟩ := id X
  have hS : va_S (nx_A a 18 s.heap.size) s.heap s.heap [] := va_S.rf
  have hl : lv_has ls 6 [(0, .ref (a 0)), (1, .int x1), (2, .int x2)] := hl
  have L43 : ∀ (x2 : Int32) (tourLength : Int32) (n : Nat) (x3 : Int32) (x4 : Int32) (tours : Int32) (at_ : Nat → Int32) (goes : Nat → Int32) (firstTour : Nat → Int32) (z : (Int32 × (Nat → Int32) × (Nat → Int32) × (Nat → Int32))), f_X11_layTours_l43 N x2 wide tall groups tourLength top rolled kind mark n (x3, x4, tours, at_, goes, firstTour) = some z → ∀ (H : Heap) (locs : List Loc) (ls : Array Slot), va_P E.1 vwCl (mW E a wide tall groups tours tourLength rowMany cameBy top east south rolled off kind mark rolls many onward at_ goes firstTour rowWay rowSeen prints homeward) H → va_S (nx_A a 18 s.heap.size) s.heap H locs → lv_has ls 6 [(0, .ref (a 0)), (2, .int x2), (3, .int x3), (4, .int x4)] → ∀ (kR : ∀ (H : Heap) (locs : List Loc) (ls : Array Slot), va_P E.1 vwCl (mW E a wide tall groups (z.1) tourLength rowMany cameBy top east south rolled off kind mark rolls many onward (z.2.1) (z.2.2.1) (z.2.2.2) rowWay rowSeen prints homeward) H → va_S (nx_A a 18 s.heap.size) s.heap H locs → lv_has ls 6 [(0, .ref (a 0))] → W p l e (nx_rm 3 73) s m args below meth c H locs 0 0 Q (F0 m 217 ls [])), W p l e (nx_rm 3 73) s m args below meth c H locs 0 0 Q (F0 m 43 ls []) := by
   intro x2 tourLength n
   induction n with
   | zero => intro x3 x4 tours at_ goes firstTour z h; exact nomatch (show none = some z from h)
   | succ n ih =>
    intro x3 x4 tours at_ goes firstTour z h H locs ls hP hS hl kR
    have h : f_X11_layTours_b43 N x2 wide tall groups tourLength top rolled kind mark (f_X11_layTours_l43 N x2 wide tall groups tourLength top rolled kind mark n) x3 x4 tours at_ goes firstTour = some z := h
    have J142 : ∀ (x3 : Int32) (x4 : Int32) (tours : Int32) (at_ : Nat → Int32) (goes : Nat → Int32) (firstTour : Nat → Int32), f_X11_layTours_j142 (f_X11_layTours_l43 N x2 wide tall groups tourLength top rolled kind mark n) x2 x3 x4 tours at_ goes firstTour = some z → ∀ (H : Heap) (locs : List Loc) (ls : Array Slot), va_P E.1 vwCl (mW E a wide tall groups tours tourLength rowMany cameBy top east south rolled off kind mark rolls many onward at_ goes firstTour rowWay rowSeen prints homeward) H → va_S (nx_A a 18 s.heap.size) s.heap H locs → lv_has ls 6 [(0, .ref (a 0)), (2, .int x2), (3, .int x3), (4, .int x4)] → W p l e (nx_rm 3 73) s m args below meth c H locs 0 0 Q (F0 m 142 ls []) := by
      intro x3 x4 tours at_ goes firstTour h H locs ls hP hS hl
      unfold f_X11_layTours_j142 at h
      refine lv_iload_n hx hb dX11_layTours_142 rfl (lv_at hl 2 rfl) ?_
      refine lv_iconst (v := 1) hx hb dX11_layTours_143 (by decide) ?_
      refine lv_aload_n hx hb dX11_layTours_144 rfl (lv_at hl 0 rfl) ?_
      refine nx_gf X hP uw_X11 (ci := 10) rfl 0 rfl 13 (by decide) wf_RX11_48 rfl dX11_layTours_145 ?_
      refine lv_iload hx hb dX11_layTours_148 (lv_at hl 3 rfl) ?_
      obtain ⟨hv_1, h⟩ := nx_rb h
      refine nx_ld X hP 11 rfl hv_1 dX11_layTours_150 ?_
      refine lv_bipush (v := 24) hx hb dX11_layTours_151 (by decide) ?_
      refine lv_idiv hx hb dX11_layTours_153 (by decide) ?_
      refine lv_ishl hx hb dX11_layTours_154 ?_
      refine lv_iconst (v := (-1)) hx hb dX11_layTours_155 (by decide) ?_
      refine lv_ixor hx hb dX11_layTours_156 ?_
      refine lv_iand hx hb dX11_layTours_157 ?_
      refine lv_istore_n (lv' := [(3, .int (x3 &&& ((1 <<< (((at_ x4.toNatClampNeg) / 24) &&& 31)) ^^^ (-1)))), (0, .ref (a 0)), (2, .int x2), (4, .int x4)]) hx hb dX11_layTours_158 rfl hl (by decide) rfl (fun ls hl => ?_)
      refine lv_iinc (v := (x4 + (-1))) (lv' := [(4, .int (x4 + (-1))), (3, .int (x3 &&& ((1 <<< (((at_ x4.toNatClampNeg) / 24) &&& 31)) ^^^ (-1)))), (0, .ref (a 0)), (2, .int x2)]) hx hb dX11_layTours_159 hl (k := 3) rfl rfl (by decide) rfl (fun ls hl => ?_)
      refine lv_goto (tgt := 214) hx hb dX11_layTours_162 (by decide) ?_
      refine lv_goto (tgt := 43) hx hb dX11_layTours_214 (by decide) ?_
      exact ih _ _ _ _ _ _ z h H locs ls hP hS (lv_sub hl [2, 3, 1, 0] rfl) kR
    have J120 : ∀ (x3 : Int32) (x4 : Int32) (s0 : Int32) (tours : Int32) (at_ : Nat → Int32) (goes : Nat → Int32) (firstTour : Nat → Int32), f_X11_layTours_j120 (f_X11_layTours_l43 N x2 wide tall groups tourLength top rolled kind mark n) x2 x3 x4 s0 tours tourLength at_ goes firstTour = some z → ∀ (H : Heap) (locs : List Loc) (ls : Array Slot), va_P E.1 vwCl (mW E a wide tall groups tours tourLength rowMany cameBy top east south rolled off kind mark rolls many onward at_ goes firstTour rowWay rowSeen prints homeward) H → va_S (nx_A a 18 s.heap.size) s.heap H locs → lv_has ls 6 [(0, .ref (a 0)), (2, .int x2), (3, .int x3), (4, .int x4)] → W p l e (nx_rm 3 73) s m args below meth c H locs 0 0 Q (F0 m 120 ls [.int s0]) := by
      intro x3 x4 s0 tours at_ goes firstTour h H locs ls hP hS hl
      unfold f_X11_layTours_j120 at h
      refine lv_istore (lv' := [(5, .int s0), (0, .ref (a 0)), (2, .int x2), (3, .int x3), (4, .int x4)]) hx hb dX11_layTours_120 hl (by decide) rfl (fun ls hl => ?_)
      refine lv_aload_n hx hb dX11_layTours_122 rfl (lv_at hl 1 rfl) ?_
      refine nx_gf X hP uw_X11 (ci := 10) rfl 0 rfl 14 (by decide) wf_RX11_51 rfl dX11_layTours_123 ?_
      refine lv_iload hx hb dX11_layTours_126 (lv_at hl 4 rfl) ?_
      obtain ⟨hv_3, h⟩ := nx_rb h
      refine nx_ld X hP 12 rfl hv_3 dX11_layTours_128 ?_
      refine lv_iconst (v := 3) hx hb dX11_layTours_129 (by decide) ?_
      refine lv_icmp_gt (tgt := 142) hx hb dX11_layTours_130 (by decide) (fun hc => ?_) (fun hc => ?_)
      · have h := nx_it h hc
        exact J142 _ _ _ _ _ _ h H locs ls hP hS (lv_sub hl [1, 2, 3, 4] rfl)
      · have h := nx_if h hc
        refine lv_iload hx hb dX11_layTours_133 (lv_at hl 4 rfl) ?_
        refine lv_aload_n hx hb dX11_layTours_135 rfl (lv_at hl 1 rfl) ?_
        refine nx_gf X hP uw_X11 (ci := 10) rfl 0 rfl 17 (by decide) wf_RX11_162 rfl dX11_layTours_136 ?_
        refine lv_icmp_ne (tgt := 165) hx hb dX11_layTours_139 (by decide) (fun hc => ?_) (fun hc => ?_)
        · have h := nx_if h hc
          refine lv_iload hx hb dX11_layTours_165 (lv_at hl 0 rfl) ?_
          refine lv_bipush (v := (-9)) hx hb dX11_layTours_167 (by decide) ?_
          refine lv_icmp_eq (tgt := 214) hx hb dX11_layTours_169 (by decide) (fun hc => ?_) (fun hc => ?_)
          · have h := nx_it h hc
            refine lv_goto (tgt := 43) hx hb dX11_layTours_214 (by decide) ?_
            exact ih _ _ _ _ _ _ z h H locs ls hP hS (lv_sub hl [1, 2, 3, 4] rfl) kR
          · have h := nx_if h hc
            refine lv_iload_n hx hb dX11_layTours_172 rfl (lv_at hl 3 rfl) ?_
            refine lv_iload hx hb dX11_layTours_173 (lv_at hl 0 rfl) ?_
            refine lv_bipush (v := 24) hx hb dX11_layTours_175 (by decide) ?_
            refine lv_idiv hx hb dX11_layTours_177 (by decide) ?_
            refine lv_ishr hx hb dX11_layTours_178 ?_
            refine lv_iconst (v := 1) hx hb dX11_layTours_179 (by decide) ?_
            refine lv_iand hx hb dX11_layTours_180 ?_
            refine lv_if_ne (tgt := 214) hx hb dX11_layTours_181 (by decide) (fun hc => ?_) (fun hc => ?_)
            · have h := nx_if h hc
              refine lv_goto (tgt := 43) hx hb dX11_layTours_214 (by decide) ?_
              exact ih _ _ _ _ _ _ z h H locs ls hP hS (lv_sub hl [1, 2, 3, 4] rfl) kR
            · have h := nx_it h hc
              refine lv_iinc (v := (x4 + 1)) (lv' := [(4, .int (x4 + 1)), (5, .int s0), (0, .ref (a 0)), (2, .int x2), (3, .int x3)]) hx hb dX11_layTours_184 hl (k := 4) rfl rfl (by decide) rfl (fun ls hl => ?_)
              refine lv_aload_n hx hb dX11_layTours_187 rfl (lv_at hl 2 rfl) ?_
              refine nx_gf X hP uw_X11 (ci := 10) rfl 0 rfl 13 (by decide) wf_RX11_48 rfl dX11_layTours_188 ?_
              refine lv_iload hx hb dX11_layTours_191 (lv_at hl 0 rfl) ?_
              refine lv_iload hx hb dX11_layTours_193 (lv_at hl 1 rfl) ?_
              obtain ⟨hv_5, h⟩ := nx_cb h
              refine nx_st X hI mW_ad hP hS 11 rfl hv_5 dX11_layTours_195 (fun H locs hP hS => ?_)
              have hP : va_P E.1 vwCl (mW E a wide tall groups tours tourLength rowMany cameBy top east south rolled off kind mark rolls many onward (upd at_ (x4 + 1).toNatClampNeg s0) goes firstTour rowWay rowSeen prints homeward) H := hP
              refine lv_aload_n hx hb dX11_layTours_196 rfl (lv_at hl 2 rfl) ?_
              refine nx_gf X hP uw_X11 (ci := 10) rfl 0 rfl 14 (by decide) wf_RX11_51 rfl dX11_layTours_197 ?_
              refine lv_iload hx hb dX11_layTours_200 (lv_at hl 0 rfl) ?_
              refine lv_iconst (v := (-1)) hx hb dX11_layTours_202 (by decide) ?_
              obtain ⟨hv_6, h⟩ := nx_cb h
              refine nx_st X hI mW_ad hP hS 12 rfl hv_6 dX11_layTours_203 (fun H locs hP hS => ?_)
              have hP : va_P E.1 vwCl (mW E a wide tall groups tours tourLength rowMany cameBy top east south rolled off kind mark rolls many onward (upd at_ (x4 + 1).toNatClampNeg s0) (upd goes (x4 + 1).toNatClampNeg (-1)) firstTour rowWay rowSeen prints homeward) H := hP
              refine lv_iload_n hx hb dX11_layTours_204 rfl (lv_at hl 4 rfl) ?_
              refine lv_iconst (v := 1) hx hb dX11_layTours_205 (by decide) ?_
              refine lv_iload hx hb dX11_layTours_206 (lv_at hl 1 rfl) ?_
              refine lv_bipush (v := 24) hx hb dX11_layTours_208 (by decide) ?_
              refine lv_idiv hx hb dX11_layTours_210 (by decide) ?_
              refine lv_ishl hx hb dX11_layTours_211 ?_
              refine lv_ior hx hb dX11_layTours_212 ?_
              refine lv_istore_n (lv' := [(3, .int (x3 ||| (1 <<< ((s0 / 24) &&& 31)))), (4, .int (x4 + 1)), (5, .int s0), (0, .ref (a 0)), (2, .int x2)]) hx hb dX11_layTours_213 rfl hl (by decide) rfl (fun ls hl => ?_)
              refine lv_goto (tgt := 43) hx hb dX11_layTours_214 (by decide) ?_
              exact ih _ _ _ _ _ _ z h H locs ls hP hS (lv_sub hl [3, 4, 0, 1] rfl) kR
        · have h := nx_it h hc
          exact J142 _ _ _ _ _ _ h H locs ls hP hS (lv_sub hl [1, 2, 3, 4] rfl)
    have J75 : ∀ (x3 : Int32) (x4 : Int32) (tours : Int32) (at_ : Nat → Int32) (goes : Nat → Int32) (firstTour : Nat → Int32), f_X11_layTours_j75 (f_X11_layTours_l43 N x2 wide tall groups tourLength top rolled kind mark n) x2 x3 x4 wide tall groups tours tourLength top rolled kind mark at_ goes firstTour = some z → ∀ (H : Heap) (locs : List Loc) (ls : Array Slot), va_P E.1 vwCl (mW E a wide tall groups tours tourLength rowMany cameBy top east south rolled off kind mark rolls many onward at_ goes firstTour rowWay rowSeen prints homeward) H → va_S (nx_A a 18 s.heap.size) s.heap H locs → lv_has ls 6 [(0, .ref (a 0)), (2, .int x2), (3, .int x3), (4, .int x4)] → W p l e (nx_rm 3 73) s m args below meth c H locs 0 0 Q (F0 m 75 ls []) := by
      intro x3 x4 tours at_ goes firstTour h H locs ls hP hS hl
      unfold f_X11_layTours_j75 at h
      refine lv_aload_n hx hb dX11_layTours_75 rfl (lv_at hl 0 rfl) ?_
      refine nx_gf X hP uw_X11 (ci := 10) rfl 0 rfl 14 (by decide) wf_RX11_51 rfl dX11_layTours_76 ?_
      refine lv_iload hx hb dX11_layTours_79 (lv_at hl 3 rfl) ?_
      refine lv_dup2_11 hx hb dX11_layTours_81 rfl rfl ?_
      obtain ⟨hv_7, h⟩ := nx_rb h
      refine nx_ld X hP 12 rfl hv_7 dX11_layTours_82 ?_
      refine lv_iconst (v := 1) hx hb dX11_layTours_83 (by decide) ?_
      refine lv_iadd hx hb dX11_layTours_84 ?_
      obtain ⟨hv_9, h⟩ := nx_cb h
      refine nx_st X hI mW_ad hP hS 12 rfl hv_9 dX11_layTours_85 (fun H locs hP hS => ?_)
      have hP : va_P E.1 vwCl (mW E a wide tall groups tours tourLength rowMany cameBy top east south rolled off kind mark rolls many onward at_ (upd goes x4.toNatClampNeg ((goes x4.toNatClampNeg) + 1)) firstTour rowWay rowSeen prints homeward) H := hP
      refine lv_aload_n hx hb dX11_layTours_86 rfl (lv_at hl 0 rfl) ?_
      refine nx_gf X hP uw_X11 (ci := 10) rfl 0 rfl 14 (by decide) wf_RX11_51 rfl dX11_layTours_87 ?_
      refine lv_iload hx hb dX11_layTours_90 (lv_at hl 3 rfl) ?_
      obtain ⟨hv_10, h⟩ := nx_rb h
      refine nx_ld X hP 12 rfl hv_10 dX11_layTours_92 ?_
      refine lv_iconst (v := 3) hx hb dX11_layTours_93 (by decide) ?_
      refine lv_icmp_le (tgt := 102) hx hb dX11_layTours_94 (by decide) (fun hc => ?_) (fun hc => ?_)
      · have h := nx_it h hc
        refine lv_aload_n hx hb dX11_layTours_102 rfl (lv_at hl 0 rfl) ?_
        refine lv_aload_n hx hb dX11_layTours_103 rfl (lv_at hl 0 rfl) ?_
        refine nx_gf X hP uw_X11 (ci := 10) rfl 0 rfl 13 (by decide) wf_RX11_48 rfl dX11_layTours_104 ?_
        refine lv_iload hx hb dX11_layTours_107 (lv_at hl 3 rfl) ?_
        obtain ⟨hv_12, h⟩ := nx_rb h
        refine nx_ld X hP 11 rfl hv_12 dX11_layTours_109 ?_
        refine lv_aload_n hx hb dX11_layTours_110 rfl (lv_at hl 0 rfl) ?_
        refine nx_gf X hP uw_X11 (ci := 10) rfl 0 rfl 14 (by decide) wf_RX11_51 rfl dX11_layTours_111 ?_
        refine lv_iload hx hb dX11_layTours_114 (lv_at hl 3 rfl) ?_
        obtain ⟨hv_14, h⟩ := nx_rb h
        refine nx_ld X hP 12 rfl hv_14 dX11_layTours_116 ?_
        obtain ⟨r_17, hc_16, h⟩ := nx_bd h
        refine nx_ki (nx_runV (As := [.int (at_ x4.toNatClampNeg), .int ((upd goes x4.toNatClampNeg ((goes x4.toNatClampNeg) + 1)) x4.toNatClampNeg)]) (rest := []) X hS hP (c_X11_rollOf l E H.size a wide tall groups tours tourLength rowMany cameBy top east south rolled off kind mark rolls many onward at_ (upd goes x4.toNatClampNeg ((goes x4.toNatClampNeg) + 1)) firstTour rowWay rowSeen prints homeward (at_ x4.toNatClampNeg) ((upd goes x4.toNatClampNeg ((goes x4.toNatClampNeg) + 1)) x4.toNatClampNeg) _ hc_16) nx_FA qV_RX11_123 ⟨rfl, rfl⟩ ⟨Nat.le_of_ble_eq_true rfl, Nat.le_of_ble_eq_true rfl⟩ ⟨Nat.zero_le _, Nat.zero_le _⟩ 0 rfl rfl rfl rfl hl.1 (Nat.le_of_ble_eq_true rfl) dX11_layTours_117) hS nx_FA (fun H locs hP hS => ?_)
        exact J120 _ _ _ _ _ _ _ h H locs ls hP hS (lv_sub hl [0, 1, 2, 3] rfl)
      · have h := nx_if h hc
        refine lv_bipush (v := (-9)) hx hb dX11_layTours_97 (by decide) ?_
        refine lv_goto (tgt := 120) hx hb dX11_layTours_99 (by decide) ?_
        exact J120 _ _ _ _ _ _ _ h H locs ls hP hS (lv_sub hl [0, 1, 2, 3] rfl)
    unfold f_X11_layTours_b43 at h
    refine lv_iload hx hb dX11_layTours_43 (lv_at hl 3 rfl) ?_
    refine lv_if_lt (tgt := 217) hx hb dX11_layTours_45 (by decide) (fun hc => ?_) (fun hc => ?_)
    · have h := nx_it h hc
      obtain rfl := Option.some.inj h
      exact kR H locs ls hP hS (lv_sub hl [0] rfl)
    · have h := nx_if h hc
      refine lv_iload hx hb dX11_layTours_48 (lv_at hl 3 rfl) ?_
      refine lv_aload_n hx hb dX11_layTours_50 rfl (lv_at hl 0 rfl) ?_
      refine nx_gf X hP uw_X11 (ci := 10) rfl 0 rfl 17 (by decide) wf_RX11_162 rfl dX11_layTours_51 ?_
      refine lv_icmp_ne (tgt := 75) hx hb dX11_layTours_54 (by decide) (fun hc => ?_) (fun hc => ?_)
      · have h := nx_if h hc
        exact J75 _ _ _ _ _ _ h H locs ls hP hS (lv_sub hl [0, 1, 2, 3] rfl)
      · have h := nx_it h hc
        refine lv_aload_n hx hb dX11_layTours_57 rfl (lv_at hl 0 rfl) ?_
        refine nx_gf X hP uw_X11 (ci := 10) rfl 0 rfl 14 (by decide) wf_RX11_51 rfl dX11_layTours_58 ?_
        refine lv_iload hx hb dX11_layTours_61 (lv_at hl 3 rfl) ?_
        obtain ⟨hv_18, h⟩ := nx_rb h
        refine nx_ld X hP 12 rfl hv_18 dX11_layTours_63 ?_
        refine lv_iconst (v := (-1)) hx hb dX11_layTours_64 (by decide) ?_
        refine lv_icmp_ne (tgt := 75) hx hb dX11_layTours_65 (by decide) (fun hc => ?_) (fun hc => ?_)
        · have h := nx_if h hc
          exact J75 _ _ _ _ _ _ h H locs ls hP hS (lv_sub hl [0, 1, 2, 3] rfl)
        · have h := nx_it h hc
          refine lv_aload_n hx hb dX11_layTours_68 rfl (lv_at hl 0 rfl) ?_
          refine lv_iload hx hb dX11_layTours_69 (lv_at hl 3 rfl) ?_
          refine lv_iload_n hx hb dX11_layTours_71 rfl (lv_at hl 1 rfl) ?_
          obtain ⟨⟨k_21, k_22⟩, hc_20, h⟩ := nx_bd h
          refine nx_kv (nx_runV (As := [.int x4, .int x2]) (rest := []) X hS hP (c_X11_endTour l N E H.size a wide tall groups tours tourLength rowMany cameBy top east south rolled off kind mark rolls many onward at_ goes firstTour rowWay rowSeen prints homeward x4 x2 hI _ hc_20) (nx_Am hS.1) qV_RX11_165 ⟨rfl, rfl⟩ ⟨Nat.le_of_ble_eq_true rfl, Nat.le_of_ble_eq_true rfl⟩ ⟨Nat.zero_le _, Nat.zero_le _⟩ 0 rfl rfl rfl rfl hl.1 (Nat.le_of_ble_eq_true rfl) dX11_layTours_72) hS (nx_Am hS.1) (fun H locs hP hS => ?_)
          have hP : va_P E.1 vwCl (mW E a wide tall groups k_21 tourLength rowMany cameBy top east south rolled off kind mark rolls many onward at_ goes k_22 rowWay rowSeen prints homeward) H := hP
          exact J75 _ _ _ _ _ _ h H locs ls hP hS (lv_sub hl [0, 1, 2, 3] rfl)
  unfold f_X11_layTours at h
  suffices hw : ∀ (H : Heap) (locs : List Loc), va_P E.1 vwCl (mW E a wide tall groups tours tourLength rowMany cameBy top east south rolled off kind mark rolls many onward at_ goes firstTour rowWay rowSeen prints homeward) H → va_S (nx_A a 18 s.heap.size) s.heap H locs → W p l e (nx_rm 3 73) s m args below meth c H locs 0 0 Q (F0 m 0 ls []) from hw _ _ hP va_S.rf
  intro H locs hP hS
  refine lv_aload_n hx hb dX11_layTours_0 rfl (lv_at hl 0 rfl) ?_
  refine lv_iconst (v := 0) hx hb dX11_layTours_1 (by decide) ?_
  refine nx_pf (ty := .int) (v := .int 0) X hI mW_ad hP hS uw_X11 tyX11 tyX11_ok nmX11 (ci := 10) rfl 0 rfl 16 (by decide) wf_RX11_159 rfl (by decide +kernel) rfl rfl (Nat.le_of_ble_eq_true rfl) dX11_layTours_2 (fun H locs hP hS => ?_)
  have hP : va_P E.1 vwCl (mW E a wide tall groups 0 tourLength rowMany cameBy top east south rolled off kind mark rolls many onward at_ goes firstTour rowWay rowSeen prints homeward) H := hP
  refine lv_aload_n hx hb dX11_layTours_5 rfl (lv_at hl 0 rfl) ?_
  refine lv_aload_n hx hb dX11_layTours_6 rfl (lv_at hl 0 rfl) ?_
  refine lv_aload_n hx hb dX11_layTours_7 rfl (lv_at hl 0 rfl) ?_
  refine nx_gf X hP uw_X11 (ci := 10) rfl 0 rfl 9 (by decide) wf_RX11_108 rfl dX11_layTours_8 ?_
  obtain ⟨r_25, hc_24, h⟩ := nx_bd h
  refine nx_ki (nx_runV (As := [.int groups]) (rest := [.ref (a 0)]) X hS hP (c_X11_openCells l N E H.size a wide tall groups 0 tourLength rowMany cameBy top east south rolled off kind mark rolls many onward at_ goes firstTour rowWay rowSeen prints homeward groups _ hc_24) nx_FA qV_RX11_156 ⟨rfl, rfl⟩ ⟨Nat.le_of_ble_eq_true rfl, Nat.le_of_ble_eq_true rfl⟩ ⟨Nat.zero_le _, Nat.zero_le _⟩ 0 rfl rfl rfl rfl hl.1 (Nat.le_of_ble_eq_true rfl) dX11_layTours_11) hS nx_FA (fun H locs hP hS => ?_)
  refine lv_iconst (v := 1) hx hb dX11_layTours_14 (by decide) ?_
  refine lv_isub hx hb dX11_layTours_15 ?_
  refine nx_pf (ty := .int) (v := .int (r_25 - 1)) X hI mW_ad hP hS uw_X11 tyX11 tyX11_ok nmX11 (ci := 10) rfl 0 rfl 17 (by decide) wf_RX11_162 rfl (by decide +kernel) rfl rfl (Nat.le_of_ble_eq_true rfl) dX11_layTours_16 (fun H locs hP hS => ?_)
  have hP : va_P E.1 vwCl (mW E a wide tall groups 0 (r_25 - 1) rowMany cameBy top east south rolled off kind mark rolls many onward at_ goes firstTour rowWay rowSeen prints homeward) H := hP
  refine lv_iconst (v := 1) hx hb dX11_layTours_19 (by decide) ?_
  refine lv_iload_n hx hb dX11_layTours_20 rfl (lv_at hl 1 rfl) ?_
  refine lv_bipush (v := 24) hx hb dX11_layTours_21 (by decide) ?_
  refine lv_idiv hx hb dX11_layTours_23 (by decide) ?_
  refine lv_ishl hx hb dX11_layTours_24 ?_
  refine lv_istore_n (lv' := [(3, .int (1 <<< ((x1 / 24) &&& 31))), (0, .ref (a 0)), (1, .int x1), (2, .int x2)]) hx hb dX11_layTours_25 rfl hl (by decide) rfl (fun ls hl => ?_)
  refine lv_iconst (v := 0) hx hb dX11_layTours_26 (by decide) ?_
  refine lv_istore (lv' := [(4, .int 0), (3, .int (1 <<< ((x1 / 24) &&& 31))), (0, .ref (a 0)), (1, .int x1), (2, .int x2)]) hx hb dX11_layTours_27 hl (by decide) rfl (fun ls hl => ?_)
  refine lv_aload_n hx hb dX11_layTours_29 rfl (lv_at hl 2 rfl) ?_
  refine nx_gf X hP uw_X11 (ci := 10) rfl 0 rfl 13 (by decide) wf_RX11_48 rfl dX11_layTours_30 ?_
  refine lv_iconst (v := 0) hx hb dX11_layTours_33 (by decide) ?_
  refine lv_iload_n hx hb dX11_layTours_34 rfl (lv_at hl 3 rfl) ?_
  obtain ⟨hv_26, h⟩ := nx_cb h
  refine nx_st X hI mW_ad hP hS 11 rfl hv_26 dX11_layTours_35 (fun H locs hP hS => ?_)
  have hP : va_P E.1 vwCl (mW E a wide tall groups 0 (r_25 - 1) rowMany cameBy top east south rolled off kind mark rolls many onward (upd at_ (0 : Int32).toNatClampNeg x1) goes firstTour rowWay rowSeen prints homeward) H := hP
  refine lv_aload_n hx hb dX11_layTours_36 rfl (lv_at hl 2 rfl) ?_
  refine nx_gf X hP uw_X11 (ci := 10) rfl 0 rfl 14 (by decide) wf_RX11_51 rfl dX11_layTours_37 ?_
  refine lv_iconst (v := 0) hx hb dX11_layTours_40 (by decide) ?_
  refine lv_iconst (v := (-1)) hx hb dX11_layTours_41 (by decide) ?_
  obtain ⟨hv_27, h⟩ := nx_cb h
  refine nx_st X hI mW_ad hP hS 12 rfl hv_27 dX11_layTours_42 (fun H locs hP hS => ?_)
  have hP : va_P E.1 vwCl (mW E a wide tall groups 0 (r_25 - 1) rowMany cameBy top east south rolled off kind mark rolls many onward (upd at_ (0 : Int32).toNatClampNeg x1) (upd goes (0 : Int32).toNatClampNeg (-1)) firstTour rowWay rowSeen prints homeward) H := hP
  obtain ⟨z_28, hz_29, h⟩ := nx_bd h
  refine L43 _ _ N _ _ _ _ _ _ _ hz_29 H locs ls hP hS (lv_sub hl [2, 4, 1, 0] rfl) (fun H locs ls hP hS hl => ?_)
  exact kr 217 ls (z_28.1, (r_25 - 1), z_28.2.1, z_28.2.2.1, z_28.2.2.2) H locs dX11_layTours_217 (Option.some.inj h) hP hS
