def f_X11_homeWay_b71 (N : Nat) (x3 : Int32) (wide : Int32) (tall : Int32) (kind : Nat → Int32) (homeward : Nat → Int32) (rec : (Int32 × Int32 × Int32) → Option (Int32)) (x4 : Int32) (x5 : Int32) (cameBy : Int32) : Option (Int32) :=
  if x3 < x5 then (some cameBy) else ((f_X11_homeStep N x4 wide tall cameBy kind homeward).bind fun t_4 => rec (t_4.1, (x5 + 1), t_4.2))
def f_X11_homeWay_l71 (N : Nat) (x3 : Int32) (wide : Int32) (tall : Int32) (kind : Nat → Int32) (homeward : Nat → Int32) : Nat → (Int32 × Int32 × Int32) → Option (Int32) := nx_lp (fun rec z => f_X11_homeWay_b71 N x3 wide tall kind homeward rec z.1 z.2.1 z.2.2)
def f_X11_homeWay (N : Nat) (x1 : Int32) (x2 : Int32) (x3 : Int32) (wide : Int32) (tall : Int32) (groups : Int32) (cameBy : Int32) (kind : Nat → Int32) (homeward : Nat → Int32) : Option (Int32 × (Int32 × (Nat → Int32))) :=
  (f_X11_isPlace x1 wide tall).bind fun r_6 => if r_6 = 0 then (some ((-1), (cameBy, homeward))) else ((f_X11_isCell x2 wide tall).bind fun r_8 => if r_8 = 0 then (some ((-1), (cameBy, homeward))) else ((f_X11_layHome N x2 wide tall kind homeward).bind fun k_10 => (nx_rd k_10 600 ((8 * x1) + groups)).bind fun _ => if (k_10 ((8 * x1) + groups).toNatClampNeg) = 100000000 then (some ((-9), (cameBy, k_10))) else ((nx_rd k_10 600 ((8 * x1) + groups)).bind fun _ => (f_X11_in ((x3 : Int32).toInt64) 0 ((((k_10 ((8 * x1) + groups).toNatClampNeg) - 1) : Int32).toInt64)).bind fun r_16 => if r_16 = 0 then (some ((-9), (cameBy, k_10))) else ((f_X11_homeWay_l71 N x3 wide tall kind k_10 N (((8 * x1) + groups), 0, cameBy)).bind fun z_17 => some (z_17, (z_17, k_10))))))
set_option maxHeartbeats 4000000 in
set_option maxRecDepth 100000 in
theorem c_X11_homeWay (l : Launch) (N : Nat) (E : nx_E) (sz : Nat) (a : Nat → Nat) (wide : Int32) (tall : Int32) (groups : Int32) (tours : Int32) (tourLength : Int32) (rowMany : Int32) (cameBy : Int32) (top : Nat → Int32) (east : Nat → Int32) (south : Nat → Int32) (rolled : Nat → Int32) (off : Nat → Int32) (kind : Nat → Int32) (mark : Nat → Int32) (rolls : Nat → Int32) (many : Nat → Int64) (onward : Nat → Int32) (at_ : Nat → Int32) (goes : Nat → Int32) (firstTour : Nat → Int32) (rowWay : Nat → Int32) (rowSeen : Nat → Int32) (prints : Nat → Int32) (homeward : Nat → Int32) (x1 : Int32) (x2 : Int32) (x3 : Int32) (hI : nx_inj a 18) (o : Int32 × (Int32 × (Nat → Int32))) (h : f_X11_homeWay N x1 x2 x3 wide tall groups cameBy kind homeward = some o) : Met l yX11_homeWay (.code yX11_homeWay cX11_homeWay 6 (some .int) :: nx_T) (nx_rm 6 144) (va_Pc [.ref (a 0), .int x1, .int x2, .int x3] (nx_P E (nx_A a 18 sz) sz (mW E a wide tall groups tours tourLength rowMany cameBy top east south rolled off kind mark rolls many onward at_ goes firstTour rowWay rowSeen prints homeward))) (va_Qi (fun v u => (v, u) = o) (fun u t => va_P E.1 vwCl (mW E a wide tall groups tours tourLength rowMany (u.1) top east south rolled off kind mark rolls many onward at_ goes firstTour rowWay rowSeen prints (u.2)) t.heap) (nx_A a 18 sz)) 0 0 (nx_A a 18 sz) := by
  refine nx_enI (fun v u => (v, u) = o) (fun (u : Int32 × (Nat → Int32)) => (mW E a wide tall groups tours tourLength rowMany (u.1) top east south rolled off kind mark rolls many onward at_ goes firstTour rowWay rowSeen prints (u.2))) (by decide) (Nat.le_of_ble_eq_true rfl) ?_
  intro p e s m below meth c Q X kr hsz hP ls hl
  subst hsz
  generalize hargs : (List.toArray [.ref (a 0), .int x1, .int x2, .int x3] : Array Value) = args at X kr ⊢
  clear hargs
  obtain ⟨⟨hx, hb, hml, hown, hts⟩, hK, hSt, hNz⟩ := id X
  have hS : va_S (nx_A a 18 s.heap.size) s.heap s.heap [] := va_S.rf
  have hl : lv_has ls 6 [(0, .ref (a 0)), (1, .int x1), (2, .int x2), (3, .int x3)] := hl
  have L71 : ∀ (x3 : Int32) (homeward : Nat → Int32) (n : Nat) (x4 : Int32) (x5 : Int32) (cameBy : Int32) (z : (Int32)), f_X11_homeWay_l71 N x3 wide tall kind homeward n (x4, x5, cameBy) = some z → ∀ (H : Heap) (locs : List Loc) (ls : Array Slot), va_P E.1 vwCl (mW E a wide tall groups tours tourLength rowMany cameBy top east south rolled off kind mark rolls many onward at_ goes firstTour rowWay rowSeen prints homeward) H → va_S (nx_A a 18 s.heap.size) s.heap H locs → lv_has ls 6 [(0, .ref (a 0)), (3, .int x3), (4, .int x4), (5, .int x5)] → ∀ (kR : ∀ (H : Heap) (locs : List Loc) (ls : Array Slot), va_P E.1 vwCl (mW E a wide tall groups tours tourLength rowMany z top east south rolled off kind mark rolls many onward at_ goes firstTour rowWay rowSeen prints homeward) H → va_S (nx_A a 18 s.heap.size) s.heap H locs → lv_has ls 6 [(0, .ref (a 0))] → W p l e (nx_rm 6 144) s m args below meth c H locs 0 0 Q (F0 m 91 ls [])), W p l e (nx_rm 6 144) s m args below meth c H locs 0 0 Q (F0 m 71 ls []) := by
   intro x3 homeward n
   induction n with
   | zero => intro x4 x5 cameBy z h; exact nomatch (show none = some z from h)
   | succ n ih =>
    intro x4 x5 cameBy z h H locs ls hP hS hl kR
    have h : f_X11_homeWay_b71 N x3 wide tall kind homeward (f_X11_homeWay_l71 N x3 wide tall kind homeward n) x4 x5 cameBy = some z := h
    unfold f_X11_homeWay_b71 at h
    refine lv_iload hx hb dX11_homeWay_71 (lv_at hl 3 rfl) ?_
    refine lv_iload_n hx hb dX11_homeWay_73 rfl (lv_at hl 1 rfl) ?_
    refine lv_icmp_gt (tgt := 91) hx hb dX11_homeWay_74 (by decide) (fun hc => ?_) (fun hc => ?_)
    · have h := nx_it h hc
      obtain rfl := Option.some.inj h
      exact kR H locs ls hP hS (lv_sub hl [0] rfl)
    · have h := nx_if h hc
      refine lv_aload_n hx hb dX11_homeWay_77 rfl (lv_at hl 0 rfl) ?_
      refine lv_iload hx hb dX11_homeWay_78 (lv_at hl 2 rfl) ?_
      obtain ⟨⟨r_2, k_3⟩, hc_1, h⟩ := nx_bd h
      refine nx_kwi (nx_runV (As := [.int x4]) (rest := []) X hS hP (c_X11_homeStep l N E H.size a wide tall groups tours tourLength rowMany cameBy top east south rolled off kind mark rolls many onward at_ goes firstTour rowWay rowSeen prints homeward x4 hI _ hc_1) (nx_Am hS.1) qV_RX11_205 ⟨rfl, rfl⟩ ⟨Nat.le_of_ble_eq_true rfl, Nat.le_of_ble_eq_true rfl⟩ ⟨Nat.zero_le _, Nat.zero_le _⟩ 0 rfl rfl rfl rfl hl.1 (Nat.le_of_ble_eq_true rfl) dX11_homeWay_80) hS (nx_Am hS.1) (fun H locs hP hS => ?_)
      have hP : va_P E.1 vwCl (mW E a wide tall groups tours tourLength rowMany k_3 top east south rolled off kind mark rolls many onward at_ goes firstTour rowWay rowSeen prints homeward) H := hP
      refine lv_istore (lv' := [(4, .int r_2), (0, .ref (a 0)), (3, .int x3), (5, .int x5)]) hx hb dX11_homeWay_83 hl (by decide) rfl (fun ls hl => ?_)
      refine lv_iinc (v := (x5 + 1)) (lv' := [(5, .int (x5 + 1)), (4, .int r_2), (0, .ref (a 0)), (3, .int x3)]) hx hb dX11_homeWay_85 hl (k := 3) rfl rfl (by decide) rfl (fun ls hl => ?_)
      refine lv_goto (tgt := 71) hx hb dX11_homeWay_88 (by decide) ?_
      exact ih _ _ _ z h H locs ls hP hS (lv_sub hl [2, 3, 1, 0] rfl) kR
  unfold f_X11_homeWay at h
  suffices hw : ∀ (H : Heap) (locs : List Loc), va_P E.1 vwCl (mW E a wide tall groups tours tourLength rowMany cameBy top east south rolled off kind mark rolls many onward at_ goes firstTour rowWay rowSeen prints homeward) H → va_S (nx_A a 18 s.heap.size) s.heap H locs → W p l e (nx_rm 6 144) s m args below meth c H locs 0 0 Q (F0 m 0 ls []) from hw _ _ hP va_S.rf
  intro H locs hP hS
  refine lv_aload_n hx hb dX11_homeWay_0 rfl (lv_at hl 0 rfl) ?_
  refine lv_iload_n hx hb dX11_homeWay_1 rfl (lv_at hl 1 rfl) ?_
  obtain ⟨r_6, hc_5, h⟩ := nx_bd h
  refine nx_ki (nx_runV (As := [.int x1]) (rest := []) X hS hP (c_X11_isPlace l E H.size a wide tall groups tours tourLength rowMany cameBy top east south rolled off kind mark rolls many onward at_ goes firstTour rowWay rowSeen prints homeward x1 _ hc_5) nx_FA qV_RX11_187 ⟨rfl, rfl⟩ ⟨Nat.le_of_ble_eq_true rfl, Nat.le_of_ble_eq_true rfl⟩ ⟨Nat.zero_le _, Nat.zero_le _⟩ 0 rfl rfl rfl rfl hl.1 (Nat.le_of_ble_eq_true rfl) dX11_homeWay_2) hS nx_FA (fun H locs hP hS => ?_)
  refine lv_if_eq (tgt := 16) hx hb dX11_homeWay_5 (by decide) (fun hc => ?_) (fun hc => ?_)
  · have h := nx_it h hc
    refine lv_iconst (v := (-1)) hx hb dX11_homeWay_16 (by decide) ?_
    exact kr 17 ls (-1) (cameBy, homeward) H locs dX11_homeWay_17 (Option.some.inj h) hP hS
  · have h := nx_if h hc
    refine lv_aload_n hx hb dX11_homeWay_8 rfl (lv_at hl 0 rfl) ?_
    refine lv_iload_n hx hb dX11_homeWay_9 rfl (lv_at hl 2 rfl) ?_
    obtain ⟨r_8, hc_7, h⟩ := nx_bd h
    refine nx_ki (nx_runV (As := [.int x2]) (rest := []) X hS hP (c_X11_isCell l E H.size a wide tall groups tours tourLength rowMany cameBy top east south rolled off kind mark rolls many onward at_ goes firstTour rowWay rowSeen prints homeward x2 _ hc_7) nx_FA qV_RX11_111 ⟨rfl, rfl⟩ ⟨Nat.le_of_ble_eq_true rfl, Nat.le_of_ble_eq_true rfl⟩ ⟨Nat.zero_le _, Nat.zero_le _⟩ 0 rfl rfl rfl rfl hl.1 (Nat.le_of_ble_eq_true rfl) dX11_homeWay_10) hS nx_FA (fun H locs hP hS => ?_)
    refine lv_if_ne (tgt := 18) hx hb dX11_homeWay_13 (by decide) (fun hc => ?_) (fun hc => ?_)
    · have h := nx_if h hc
      refine lv_aload_n hx hb dX11_homeWay_18 rfl (lv_at hl 0 rfl) ?_
      refine lv_iload_n hx hb dX11_homeWay_19 rfl (lv_at hl 2 rfl) ?_
      obtain ⟨k_10, hc_9, h⟩ := nx_bd h
      refine nx_kv (nx_runV (As := [.int x2]) (rest := []) X hS hP (c_X11_layHome l N E H.size a wide tall groups tours tourLength rowMany cameBy top east south rolled off kind mark rolls many onward at_ goes firstTour rowWay rowSeen prints homeward x2 hI _ hc_9) (nx_Am hS.1) qV_RX11_199 ⟨rfl, rfl⟩ ⟨Nat.le_of_ble_eq_true rfl, Nat.le_of_ble_eq_true rfl⟩ ⟨Nat.zero_le _, Nat.zero_le _⟩ 0 rfl rfl rfl rfl hl.1 (Nat.le_of_ble_eq_true rfl) dX11_homeWay_20) hS (nx_Am hS.1) (fun H locs hP hS => ?_)
      have hP : va_P E.1 vwCl (mW E a wide tall groups tours tourLength rowMany cameBy top east south rolled off kind mark rolls many onward at_ goes firstTour rowWay rowSeen prints k_10) H := hP
      refine lv_bipush (v := 8) hx hb dX11_homeWay_23 (by decide) ?_
      refine lv_iload_n hx hb dX11_homeWay_25 rfl (lv_at hl 1 rfl) ?_
      refine lv_imul hx hb dX11_homeWay_26 ?_
      refine lv_aload_n hx hb dX11_homeWay_27 rfl (lv_at hl 0 rfl) ?_
      refine nx_gf X hP uw_X11 (ci := 10) rfl 0 rfl 9 (by decide) wf_RX11_108 rfl dX11_homeWay_28 ?_
      refine lv_iadd hx hb dX11_homeWay_31 ?_
      refine lv_istore (lv' := [(4, .int ((8 * x1) + groups)), (0, .ref (a 0)), (1, .int x1), (2, .int x2), (3, .int x3)]) hx hb dX11_homeWay_32 hl (by decide) rfl (fun ls hl => ?_)
      refine lv_aload_n hx hb dX11_homeWay_34 rfl (lv_at hl 1 rfl) ?_
      refine nx_gf X hP uw_X11 (ci := 10) rfl 0 rfl 22 (by decide) wf_RX11_66 rfl dX11_homeWay_35 ?_
      refine lv_iload hx hb dX11_homeWay_38 (lv_at hl 0 rfl) ?_
      obtain ⟨hv_11, h⟩ := nx_rb h
      refine nx_ld X hP 17 rfl hv_11 dX11_homeWay_40 ?_
      refine lv_ldc hx hb hown (hts _ wk_RX11_99) dX11_homeWay_41 ?_
      refine lv_icmp_eq (tgt := 65) hx hb dX11_homeWay_43 (by decide) (fun hc => ?_) (fun hc => ?_)
      · have h := nx_it h hc
        refine lv_bipush (v := (-9)) hx hb dX11_homeWay_65 (by decide) ?_
        exact kr 67 ls (-9) (cameBy, k_10) H locs dX11_homeWay_67 (Option.some.inj h) hP hS
      · have h := nx_if h hc
        refine lv_iload_n hx hb dX11_homeWay_46 rfl (lv_at hl 4 rfl) ?_
        refine lv_i2l (v := (x3 : Int32).toInt64) hx hb dX11_homeWay_47 rfl ?_
        refine lv_lconst (v := 0) hx hb dX11_homeWay_48 (by decide) ?_
        refine lv_aload_n hx hb dX11_homeWay_49 rfl (lv_at hl 1 rfl) ?_
        refine nx_gf X hP uw_X11 (ci := 10) rfl 0 rfl 22 (by decide) wf_RX11_66 rfl dX11_homeWay_50 ?_
        refine lv_iload hx hb dX11_homeWay_53 (lv_at hl 0 rfl) ?_
        obtain ⟨hv_13, h⟩ := nx_rb h
        refine nx_ld X hP 17 rfl hv_13 dX11_homeWay_55 ?_
        refine lv_iconst (v := 1) hx hb dX11_homeWay_56 (by decide) ?_
        refine lv_isub hx hb dX11_homeWay_57 ?_
        refine lv_i2l (v := (((k_10 ((8 * x1) + groups).toNatClampNeg) - 1) : Int32).toInt64) hx hb dX11_homeWay_58 rfl ?_
        obtain ⟨r_16, hc_15, h⟩ := nx_bd h
        refine nx_ki (nx_runS (As := [.long ((x3 : Int32).toInt64), .long 0, .long ((((k_10 ((8 * x1) + groups).toNatClampNeg) - 1) : Int32).toInt64)]) (rest := []) X hS hP (c_X11_in l E H.size a wide tall groups tours tourLength rowMany cameBy top east south rolled off kind mark rolls many onward at_ goes firstTour rowWay rowSeen prints k_10 ((x3 : Int32).toInt64) 0 ((((k_10 ((8 * x1) + groups).toNatClampNeg) - 1) : Int32).toInt64) _ hc_15) nx_FA qS_RX11_84 ⟨rfl, rfl⟩ ⟨Nat.le_of_ble_eq_true rfl, Nat.le_of_ble_eq_true rfl⟩ ⟨Nat.zero_le _, Nat.zero_le _⟩ rfl rfl hl.1 (Nat.le_of_ble_eq_true rfl) dX11_homeWay_59) hS nx_FA (fun H locs hP hS => ?_)
        refine lv_if_ne (tgt := 68) hx hb dX11_homeWay_62 (by decide) (fun hc => ?_) (fun hc => ?_)
        · have h := nx_if h hc
          refine lv_iconst (v := 0) hx hb dX11_homeWay_68 (by decide) ?_
          refine lv_istore (lv' := [(5, .int 0), (4, .int ((8 * x1) + groups)), (0, .ref (a 0)), (1, .int x1), (2, .int x2), (3, .int x3)]) hx hb dX11_homeWay_69 hl (by decide) rfl (fun ls hl => ?_)
          obtain ⟨z_17, hz_18, h⟩ := nx_bd h
          refine L71 _ _ N _ _ _ _ hz_18 H locs ls hP hS (lv_sub hl [2, 5, 1, 0] rfl) (fun H locs ls hP hS hl => ?_)
          refine lv_aload_n hx hb dX11_homeWay_91 rfl (lv_at hl 0 rfl) ?_
          refine nx_gf X hP uw_X11 (ci := 10) rfl 0 rfl 23 (by decide) wf_RX11_202 rfl dX11_homeWay_92 ?_
          exact kr 95 ls z_17 (z_17, k_10) H locs dX11_homeWay_95 (Option.some.inj h) hP hS
        · have h := nx_it h hc
          refine lv_bipush (v := (-9)) hx hb dX11_homeWay_65 (by decide) ?_
          exact kr 67 ls (-9) (cameBy, k_10) H locs dX11_homeWay_67 (Option.some.inj h) hP hS
    · have h := nx_it h hc
      refine lv_iconst (v := (-1)) hx hb dX11_homeWay_16 (by decide) ?_
      exact kr 17 ls (-1) (cameBy, homeward) H locs dX11_homeWay_17 (Option.some.inj h) hP hS
def f_X11_homeGroups_b47 (N : Nat) (wide : Int32) (tall : Int32) (kind : Nat → Int32) (homeward : Nat → Int32) (rec : (Int32 × Int32) → Option (Int32 × Int32)) (x3 : Int32) (cameBy : Int32) : Option (Int32 × Int32) :=
  (nx_rd homeward 600 x3).bind fun _ => if (homeward x3.toNatClampNeg) ≤ 0 then (some (x3, cameBy)) else ((f_X11_homeStep N x3 wide tall cameBy kind homeward).bind fun t_6 => rec (t_6.1, t_6.2))
def f_X11_homeGroups_l47 (N : Nat) (wide : Int32) (tall : Int32) (kind : Nat → Int32) (homeward : Nat → Int32) : Nat → (Int32 × Int32) → Option (Int32 × Int32) := nx_lp (fun rec z => f_X11_homeGroups_b47 N wide tall kind homeward rec z.1 z.2)
def f_X11_homeGroups (N : Nat) (x1 : Int32) (x2 : Int32) (wide : Int32) (tall : Int32) (groups : Int32) (cameBy : Int32) (kind : Nat → Int32) (homeward : Nat → Int32) : Option (Int32 × (Int32 × (Nat → Int32))) :=
  (f_X11_isPlace x1 wide tall).bind fun r_8 => if r_8 = 0 then (some ((-1), (cameBy, homeward))) else ((f_X11_isCell x2 wide tall).bind fun r_10 => if r_10 = 0 then (some ((-1), (cameBy, homeward))) else ((f_X11_layHome N x2 wide tall kind homeward).bind fun k_12 => (nx_rd k_12 600 ((8 * x1) + groups)).bind fun _ => if (k_12 ((8 * x1) + groups).toNatClampNeg) = 100000000 then (some ((-9), (cameBy, k_12))) else ((f_X11_homeGroups_l47 N wide tall kind k_12 N (((8 * x1) + groups), cameBy)).bind fun z_15 => some ((z_15.1 - z_15.1 / 8 * 8), (z_15.2, k_12)))))
set_option maxHeartbeats 4000000 in
set_option maxRecDepth 100000 in
theorem c_X11_homeGroups (l : Launch) (N : Nat) (E : nx_E) (sz : Nat) (a : Nat → Nat) (wide : Int32) (tall : Int32) (groups : Int32) (tours : Int32) (tourLength : Int32) (rowMany : Int32) (cameBy : Int32) (top : Nat → Int32) (east : Nat → Int32) (south : Nat → Int32) (rolled : Nat → Int32) (off : Nat → Int32) (kind : Nat → Int32) (mark : Nat → Int32) (rolls : Nat → Int32) (many : Nat → Int64) (onward : Nat → Int32) (at_ : Nat → Int32) (goes : Nat → Int32) (firstTour : Nat → Int32) (rowWay : Nat → Int32) (rowSeen : Nat → Int32) (prints : Nat → Int32) (homeward : Nat → Int32) (x1 : Int32) (x2 : Int32) (hI : nx_inj a 18) (o : Int32 × (Int32 × (Nat → Int32))) (h : f_X11_homeGroups N x1 x2 wide tall groups cameBy kind homeward = some o) : Met l yX11_homeGroups (.code yX11_homeGroups cX11_homeGroups 4 (some .int) :: nx_T) (nx_rm 6 144) (va_Pc [.ref (a 0), .int x1, .int x2] (nx_P E (nx_A a 18 sz) sz (mW E a wide tall groups tours tourLength rowMany cameBy top east south rolled off kind mark rolls many onward at_ goes firstTour rowWay rowSeen prints homeward))) (va_Qi (fun v u => (v, u) = o) (fun u t => va_P E.1 vwCl (mW E a wide tall groups tours tourLength rowMany (u.1) top east south rolled off kind mark rolls many onward at_ goes firstTour rowWay rowSeen prints (u.2)) t.heap) (nx_A a 18 sz)) 0 0 (nx_A a 18 sz) := by
  refine nx_enI (fun v u => (v, u) = o) (fun (u : Int32 × (Nat → Int32)) => (mW E a wide tall groups tours tourLength rowMany (u.1) top east south rolled off kind mark rolls many onward at_ goes firstTour rowWay rowSeen prints (u.2))) (by decide) (Nat.le_of_ble_eq_true rfl) ?_
  intro p e s m below meth c Q X kr hsz hP ls hl
  subst hsz
  generalize hargs : (List.toArray [.ref (a 0), .int x1, .int x2] : Array Value) = args at X kr ⊢
  clear hargs
  obtain ⟨⟨hx, hb, hml, hown, hts⟩, hK, hSt, hNz⟩ := id X
  have hS : va_S (nx_A a 18 s.heap.size) s.heap s.heap [] := va_S.rf
  have hl : lv_has ls 4 [(0, .ref (a 0)), (1, .int x1), (2, .int x2)] := hl
  have L47 : ∀ (homeward : Nat → Int32) (n : Nat) (x3 : Int32) (cameBy : Int32) (z : (Int32 × Int32)), f_X11_homeGroups_l47 N wide tall kind homeward n (x3, cameBy) = some z → ∀ (H : Heap) (locs : List Loc) (ls : Array Slot), va_P E.1 vwCl (mW E a wide tall groups tours tourLength rowMany cameBy top east south rolled off kind mark rolls many onward at_ goes firstTour rowWay rowSeen prints homeward) H → va_S (nx_A a 18 s.heap.size) s.heap H locs → lv_has ls 4 [(0, .ref (a 0)), (3, .int x3)] → ∀ (kR : ∀ (H : Heap) (locs : List Loc) (ls : Array Slot), va_P E.1 vwCl (mW E a wide tall groups tours tourLength rowMany (z.2) top east south rolled off kind mark rolls many onward at_ goes firstTour rowWay rowSeen prints homeward) H → va_S (nx_A a 18 s.heap.size) s.heap H locs → lv_has ls 4 [(0, .ref (a 0)), (3, .int z.1)] → W p l e (nx_rm 6 144) s m args below meth c H locs 0 0 Q (F0 m 65 ls [])), W p l e (nx_rm 6 144) s m args below meth c H locs 0 0 Q (F0 m 47 ls []) := by
   intro homeward n
   induction n with
   | zero => intro x3 cameBy z h; exact nomatch (show none = some z from h)
   | succ n ih =>
    intro x3 cameBy z h H locs ls hP hS hl kR
    have h : f_X11_homeGroups_b47 N wide tall kind homeward (f_X11_homeGroups_l47 N wide tall kind homeward n) x3 cameBy = some z := h
    unfold f_X11_homeGroups_b47 at h
    refine lv_aload_n hx hb dX11_homeGroups_47 rfl (lv_at hl 0 rfl) ?_
    refine nx_gf X hP uw_X11 (ci := 10) rfl 0 rfl 22 (by decide) wf_RX11_66 rfl dX11_homeGroups_48 ?_
    refine lv_iload_n hx hb dX11_homeGroups_51 rfl (lv_at hl 1 rfl) ?_
    obtain ⟨hv_1, h⟩ := nx_rb h
    refine nx_ld X hP 17 rfl hv_1 dX11_homeGroups_52 ?_
    refine lv_if_le (tgt := 65) hx hb dX11_homeGroups_53 (by decide) (fun hc => ?_) (fun hc => ?_)
    · have h := nx_it h hc
      obtain rfl := Option.some.inj h
      exact kR H locs ls hP hS (lv_sub hl [0, 1] rfl)
    · have h := nx_if h hc
      refine lv_aload_n hx hb dX11_homeGroups_56 rfl (lv_at hl 0 rfl) ?_
      refine lv_iload_n hx hb dX11_homeGroups_57 rfl (lv_at hl 1 rfl) ?_
      obtain ⟨⟨r_4, k_5⟩, hc_3, h⟩ := nx_bd h
      refine nx_kwi (nx_runV (As := [.int x3]) (rest := []) X hS hP (c_X11_homeStep l N E H.size a wide tall groups tours tourLength rowMany cameBy top east south rolled off kind mark rolls many onward at_ goes firstTour rowWay rowSeen prints homeward x3 hI _ hc_3) (nx_Am hS.1) qV_RX11_205 ⟨rfl, rfl⟩ ⟨Nat.le_of_ble_eq_true rfl, Nat.le_of_ble_eq_true rfl⟩ ⟨Nat.zero_le _, Nat.zero_le _⟩ 0 rfl rfl rfl rfl hl.1 (Nat.le_of_ble_eq_true rfl) dX11_homeGroups_58) hS (nx_Am hS.1) (fun H locs hP hS => ?_)
      have hP : va_P E.1 vwCl (mW E a wide tall groups tours tourLength rowMany k_5 top east south rolled off kind mark rolls many onward at_ goes firstTour rowWay rowSeen prints homeward) H := hP
      refine lv_istore_n (lv' := [(3, .int r_4), (0, .ref (a 0))]) hx hb dX11_homeGroups_61 rfl hl (by decide) rfl (fun ls hl => ?_)
      refine lv_goto (tgt := 47) hx hb dX11_homeGroups_62 (by decide) ?_
      exact ih _ _ z h H locs ls hP hS (lv_sub hl [1, 0] rfl) kR
  unfold f_X11_homeGroups at h
  suffices hw : ∀ (H : Heap) (locs : List Loc), va_P E.1 vwCl (mW E a wide tall groups tours tourLength rowMany cameBy top east south rolled off kind mark rolls many onward at_ goes firstTour rowWay rowSeen prints homeward) H → va_S (nx_A a 18 s.heap.size) s.heap H locs → W p l e (nx_rm 6 144) s m args below meth c H locs 0 0 Q (F0 m 0 ls []) from hw _ _ hP va_S.rf
  intro H locs hP hS
  refine lv_aload_n hx hb dX11_homeGroups_0 rfl (lv_at hl 0 rfl) ?_
  refine lv_iload_n hx hb dX11_homeGroups_1 rfl (lv_at hl 1 rfl) ?_
  obtain ⟨r_8, hc_7, h⟩ := nx_bd h
  refine nx_ki (nx_runV (As := [.int x1]) (rest := []) X hS hP (c_X11_isPlace l E H.size a wide tall groups tours tourLength rowMany cameBy top east south rolled off kind mark rolls many onward at_ goes firstTour rowWay rowSeen prints homeward x1 _ hc_7) nx_FA qV_RX11_187 ⟨rfl, rfl⟩ ⟨Nat.le_of_ble_eq_true rfl, Nat.le_of_ble_eq_true rfl⟩ ⟨Nat.zero_le _, Nat.zero_le _⟩ 0 rfl rfl rfl rfl hl.1 (Nat.le_of_ble_eq_true rfl) dX11_homeGroups_2) hS nx_FA (fun H locs hP hS => ?_)
  refine lv_if_eq (tgt := 16) hx hb dX11_homeGroups_5 (by decide) (fun hc => ?_) (fun hc => ?_)
  · have h := nx_it h hc
    refine lv_iconst (v := (-1)) hx hb dX11_homeGroups_16 (by decide) ?_
    exact kr 17 ls (-1) (cameBy, homeward) H locs dX11_homeGroups_17 (Option.some.inj h) hP hS
  · have h := nx_if h hc
    refine lv_aload_n hx hb dX11_homeGroups_8 rfl (lv_at hl 0 rfl) ?_
    refine lv_iload_n hx hb dX11_homeGroups_9 rfl (lv_at hl 2 rfl) ?_
    obtain ⟨r_10, hc_9, h⟩ := nx_bd h
    refine nx_ki (nx_runV (As := [.int x2]) (rest := []) X hS hP (c_X11_isCell l E H.size a wide tall groups tours tourLength rowMany cameBy top east south rolled off kind mark rolls many onward at_ goes firstTour rowWay rowSeen prints homeward x2 _ hc_9) nx_FA qV_RX11_111 ⟨rfl, rfl⟩ ⟨Nat.le_of_ble_eq_true rfl, Nat.le_of_ble_eq_true rfl⟩ ⟨Nat.zero_le _, Nat.zero_le _⟩ 0 rfl rfl rfl rfl hl.1 (Nat.le_of_ble_eq_true rfl) dX11_homeGroups_10) hS nx_FA (fun H locs hP hS => ?_)
    refine lv_if_ne (tgt := 18) hx hb dX11_homeGroups_13 (by decide) (fun hc => ?_) (fun hc => ?_)
    · have h := nx_if h hc
      refine lv_aload_n hx hb dX11_homeGroups_18 rfl (lv_at hl 0 rfl) ?_
      refine lv_iload_n hx hb dX11_homeGroups_19 rfl (lv_at hl 2 rfl) ?_
      obtain ⟨k_12, hc_11, h⟩ := nx_bd h
      refine nx_kv (nx_runV (As := [.int x2]) (rest := []) X hS hP (c_X11_layHome l N E H.size a wide tall groups tours tourLength rowMany cameBy top east south rolled off kind mark rolls many onward at_ goes firstTour rowWay rowSeen prints homeward x2 hI _ hc_11) (nx_Am hS.1) qV_RX11_199 ⟨rfl, rfl⟩ ⟨Nat.le_of_ble_eq_true rfl, Nat.le_of_ble_eq_true rfl⟩ ⟨Nat.zero_le _, Nat.zero_le _⟩ 0 rfl rfl rfl rfl hl.1 (Nat.le_of_ble_eq_true rfl) dX11_homeGroups_20) hS (nx_Am hS.1) (fun H locs hP hS => ?_)
      have hP : va_P E.1 vwCl (mW E a wide tall groups tours tourLength rowMany cameBy top east south rolled off kind mark rolls many onward at_ goes firstTour rowWay rowSeen prints k_12) H := hP
      refine lv_bipush (v := 8) hx hb dX11_homeGroups_23 (by decide) ?_
      refine lv_iload_n hx hb dX11_homeGroups_25 rfl (lv_at hl 1 rfl) ?_
      refine lv_imul hx hb dX11_homeGroups_26 ?_
      refine lv_aload_n hx hb dX11_homeGroups_27 rfl (lv_at hl 0 rfl) ?_
      refine nx_gf X hP uw_X11 (ci := 10) rfl 0 rfl 9 (by decide) wf_RX11_108 rfl dX11_homeGroups_28 ?_
      refine lv_iadd hx hb dX11_homeGroups_31 ?_
      refine lv_istore_n (lv' := [(3, .int ((8 * x1) + groups)), (0, .ref (a 0)), (1, .int x1), (2, .int x2)]) hx hb dX11_homeGroups_32 rfl hl (by decide) rfl (fun ls hl => ?_)
      refine lv_aload_n hx hb dX11_homeGroups_33 rfl (lv_at hl 1 rfl) ?_
      refine nx_gf X hP uw_X11 (ci := 10) rfl 0 rfl 22 (by decide) wf_RX11_66 rfl dX11_homeGroups_34 ?_
      refine lv_iload_n hx hb dX11_homeGroups_37 rfl (lv_at hl 0 rfl) ?_
      obtain ⟨hv_13, h⟩ := nx_rb h
      refine nx_ld X hP 17 rfl hv_13 dX11_homeGroups_38 ?_
      refine lv_ldc hx hb hown (hts _ wk_RX11_99) dX11_homeGroups_39 ?_
      refine lv_icmp_ne (tgt := 47) hx hb dX11_homeGroups_41 (by decide) (fun hc => ?_) (fun hc => ?_)
      · have h := nx_if h hc
        obtain ⟨z_15, hz_16, h⟩ := nx_bd h
        refine L47 _ N _ _ _ hz_16 H locs ls hP hS (lv_sub hl [1, 0] rfl) (fun H locs ls hP hS hl => ?_)
        refine lv_iload_n hx hb dX11_homeGroups_65 rfl (lv_at hl 1 rfl) ?_
        refine lv_bipush (v := 8) hx hb dX11_homeGroups_66 (by decide) ?_
        refine lv_irem hx hb dX11_homeGroups_68 (by decide) ?_
        exact kr 69 ls (z_15.1 - z_15.1 / 8 * 8) (z_15.2, k_12) H locs dX11_homeGroups_69 (Option.some.inj h) hP hS
      · have h := nx_it h hc
        refine lv_bipush (v := (-9)) hx hb dX11_homeGroups_44 (by decide) ?_
        exact kr 46 ls (-9) (cameBy, k_12) H locs dX11_homeGroups_46 (Option.some.inj h) hP hS
    · have h := nx_it h hc
      refine lv_iconst (v := (-1)) hx hb dX11_homeGroups_16 (by decide) ?_
      exact kr 17 ls (-1) (cameBy, homeward) H locs dX11_homeGroups_17 (Option.some.inj h) hP hS
def f_X11_whence_j91 (rec : (Int32 × Int32 × Int32 × Int32) → Option (Int32 × Int32)) (x2 : Int32) (x3 : Int32) (x5 : Int32) (x6 : Int32) (x7 : Int32) (s0 : Int32) : Option (Int32 × Int32) :=
  if 100000000 ≤ x7 then (rec (x3, s0, x5, (x6 + 1))) else (if x7 ≤ x5 then (rec (x3, s0, x5, (x6 + 1))) else (rec (x3, s0, x7, (x6 + 1))))
def f_X11_whence_j68 (rec : (Int32 × Int32 × Int32 × Int32) → Option (Int32 × Int32)) (x2 : Int32) (x4 : Int32) (x5 : Int32) (x6 : Int32) (x7 : Int32) (s0 : Int32) (s1 : Int32) : Option (Int32 × Int32) :=
  if 100000000 ≤ x7 then (f_X11_whence_j91 rec x2 (s1 + s0) x5 x6 x7 x4) else (if x7 ≤ x5 then (f_X11_whence_j91 rec x2 (s1 + s0) x5 x6 x7 x4) else (f_X11_whence_j91 rec x2 (s1 + s0) x5 x6 x7 x6))
def f_X11_whence_b27 (x2 : Int32) (wide : Int32) (tall : Int32) (groups : Int32) (homeward : Nat → Int32) (rec : (Int32 × Int32 × Int32 × Int32) → Option (Int32 × Int32)) (x3 : Int32) (x4 : Int32) (x5 : Int32) (x6 : Int32) : Option (Int32 × Int32) :=
  (f_X11_cells wide tall).bind fun r_2 => if (3 * r_2) ≤ x6 then (some (x3, x4)) else ((nx_rd homeward 600 ((8 * x6) + groups)).bind fun _ => if 100000000 ≤ (homeward ((8 * x6) + groups).toNatClampNeg) then (f_X11_whence_j68 rec x2 x4 x5 x6 (homeward ((8 * x6) + groups).toNatClampNeg) 0 x3) else (f_X11_whence_j68 rec x2 x4 x5 x6 (homeward ((8 * x6) + groups).toNatClampNeg) 1 x3))
def f_X11_whence_l27 (x2 : Int32) (wide : Int32) (tall : Int32) (groups : Int32) (homeward : Nat → Int32) : Nat → (Int32 × Int32 × Int32 × Int32) → Option (Int32 × Int32) := nx_lp (fun rec z => f_X11_whence_b27 x2 wide tall groups homeward rec z.1 z.2.1 z.2.2.1 z.2.2.2)
def f_X11_whence (N : Nat) (x1 : Int32) (x2 : Int32) (wide : Int32) (tall : Int32) (groups : Int32) (kind : Nat → Int32) (homeward : Nat → Int32) : Option (Int32 × ((Nat → Int32))) :=
  (f_X11_isCell x1 wide tall).bind fun r_6 => if r_6 = 0 then (some ((-1), homeward)) else ((f_X11_layHome N x1 wide tall kind homeward).bind fun k_8 => (f_X11_whence_l27 x2 wide tall groups k_8 N (0, (-9), (-1), 0)).bind fun z_9 => if x2 = 0 then (some (z_9.1, k_8)) else (some (z_9.2, k_8)))
set_option maxHeartbeats 4000000 in
set_option maxRecDepth 100000 in
theorem c_X11_whence (l : Launch) (N : Nat) (E : nx_E) (sz : Nat) (a : Nat → Nat) (wide : Int32) (tall : Int32) (groups : Int32) (tours : Int32) (tourLength : Int32) (rowMany : Int32) (cameBy : Int32) (top : Nat → Int32) (east : Nat → Int32) (south : Nat → Int32) (rolled : Nat → Int32) (off : Nat → Int32) (kind : Nat → Int32) (mark : Nat → Int32) (rolls : Nat → Int32) (many : Nat → Int64) (onward : Nat → Int32) (at_ : Nat → Int32) (goes : Nat → Int32) (firstTour : Nat → Int32) (rowWay : Nat → Int32) (rowSeen : Nat → Int32) (prints : Nat → Int32) (homeward : Nat → Int32) (x1 : Int32) (x2 : Int32) (hI : nx_inj a 18) (o : Int32 × ((Nat → Int32))) (h : f_X11_whence N x1 x2 wide tall groups kind homeward = some o) : Met l yX11_whence (.code yX11_whence cX11_whence 8 (some .int) :: nx_T) (nx_rm 6 144) (va_Pc [.ref (a 0), .int x1, .int x2] (nx_P E (nx_A a 18 sz) sz (mW E a wide tall groups tours tourLength rowMany cameBy top east south rolled off kind mark rolls many onward at_ goes firstTour rowWay rowSeen prints homeward))) (va_Qi (fun v u => (v, u) = o) (fun u t => va_P E.1 vwCl (mW E a wide tall groups tours tourLength rowMany cameBy top east south rolled off kind mark rolls many onward at_ goes firstTour rowWay rowSeen prints u) t.heap) (nx_A a 18 sz)) 0 0 (nx_A a 18 sz) := by
  refine nx_enI (fun v u => (v, u) = o) (fun (u : (Nat → Int32)) => (mW E a wide tall groups tours tourLength rowMany cameBy top east south rolled off kind mark rolls many onward at_ goes firstTour rowWay rowSeen prints u)) (by decide) (Nat.le_of_ble_eq_true rfl) ?_
  intro p e s m below meth c Q X kr hsz hP ls hl
  subst hsz
  generalize hargs : (List.toArray [.ref (a 0), .int x1, .int x2] : Array Value) = args at X kr ⊢
  clear hargs
  obtain ⟨⟨hx, hb, hml, hown, hts⟩, hK, hSt, hNz⟩ := id X
  have hS : va_S (nx_A a 18 s.heap.size) s.heap s.heap [] := va_S.rf
  have hl : lv_has ls 8 [(0, .ref (a 0)), (1, .int x1), (2, .int x2)] := hl
  have L27 : ∀ (x2 : Int32) (homeward : Nat → Int32) (n : Nat) (x3 : Int32) (x4 : Int32) (x5 : Int32) (x6 : Int32) (z : (Int32 × Int32)), f_X11_whence_l27 x2 wide tall groups homeward n (x3, x4, x5, x6) = some z → ∀ (H : Heap) (locs : List Loc) (ls : Array Slot), va_P E.1 vwCl (mW E a wide tall groups tours tourLength rowMany cameBy top east south rolled off kind mark rolls many onward at_ goes firstTour rowWay rowSeen prints homeward) H → va_S (nx_A a 18 s.heap.size) s.heap H locs → lv_has ls 8 [(0, .ref (a 0)), (2, .int x2), (3, .int x3), (4, .int x4), (5, .int x5), (6, .int x6)] → ∀ (kR : ∀ (H : Heap) (locs : List Loc) (ls : Array Slot), va_P E.1 vwCl (mW E a wide tall groups tours tourLength rowMany cameBy top east south rolled off kind mark rolls many onward at_ goes firstTour rowWay rowSeen prints homeward) H → va_S (nx_A a 18 s.heap.size) s.heap H locs → lv_has ls 8 [(0, .ref (a 0)), (2, .int x2), (3, .int z.1), (4, .int z.2)] → W p l e (nx_rm 6 144) s m args below meth c H locs 0 0 Q (F0 m 122 ls [])), W p l e (nx_rm 6 144) s m args below meth c H locs 0 0 Q (F0 m 27 ls []) := by
   intro x2 homeward n
   induction n with
   | zero => intro x3 x4 x5 x6 z h; exact nomatch (show none = some z from h)
   | succ n ih =>
    intro x3 x4 x5 x6 z h H locs ls hP hS hl kR
    have h : f_X11_whence_b27 x2 wide tall groups homeward (f_X11_whence_l27 x2 wide tall groups homeward n) x3 x4 x5 x6 = some z := h
    have J91 : ∀ (x3 : Int32) (x5 : Int32) (x6 : Int32) (x7 : Int32) (s0 : Int32), f_X11_whence_j91 (f_X11_whence_l27 x2 wide tall groups homeward n) x2 x3 x5 x6 x7 s0 = some z → ∀ (H : Heap) (locs : List Loc) (ls : Array Slot), va_P E.1 vwCl (mW E a wide tall groups tours tourLength rowMany cameBy top east south rolled off kind mark rolls many onward at_ goes firstTour rowWay rowSeen prints homeward) H → va_S (nx_A a 18 s.heap.size) s.heap H locs → lv_has ls 8 [(0, .ref (a 0)), (2, .int x2), (3, .int x3), (5, .int x5), (6, .int x6), (7, .int x7)] → W p l e (nx_rm 6 144) s m args below meth c H locs 0 0 Q (F0 m 91 ls [.int s0]) := by
      intro x3 x5 x6 x7 s0 h H locs ls hP hS hl
      unfold f_X11_whence_j91 at h
      refine lv_istore (lv' := [(4, .int s0), (0, .ref (a 0)), (2, .int x2), (3, .int x3), (5, .int x5), (6, .int x6), (7, .int x7)]) hx hb dX11_whence_91 hl (by decide) rfl (fun ls hl => ?_)
      refine lv_iload hx hb dX11_whence_93 (lv_at hl 6 rfl) ?_
      refine lv_ldc hx hb hown (hts _ wk_RX11_99) dX11_whence_95 ?_
      refine lv_icmp_ge (tgt := 112) hx hb dX11_whence_97 (by decide) (fun hc => ?_) (fun hc => ?_)
      · have h := nx_it h hc
        refine lv_iload hx hb dX11_whence_112 (lv_at hl 4 rfl) ?_
        refine lv_istore (lv' := [(5, .int x5), (4, .int s0), (0, .ref (a 0)), (2, .int x2), (3, .int x3), (6, .int x6), (7, .int x7)]) hx hb dX11_whence_114 hl (by decide) rfl (fun ls hl => ?_)
        refine lv_iinc (v := (x6 + 1)) (lv' := [(6, .int (x6 + 1)), (5, .int x5), (4, .int s0), (0, .ref (a 0)), (2, .int x2), (3, .int x3), (7, .int x7)]) hx hb dX11_whence_116 hl (k := 5) rfl rfl (by decide) rfl (fun ls hl => ?_)
        refine lv_goto (tgt := 27) hx hb dX11_whence_119 (by decide) ?_
        exact ih _ _ _ _ z h H locs ls hP hS (lv_sub hl [3, 4, 5, 2, 1, 0] rfl) kR
      · have h := nx_if h hc
        refine lv_iload hx hb dX11_whence_100 (lv_at hl 6 rfl) ?_
        refine lv_iload hx hb dX11_whence_102 (lv_at hl 4 rfl) ?_
        refine lv_icmp_le (tgt := 112) hx hb dX11_whence_104 (by decide) (fun hc => ?_) (fun hc => ?_)
        · have h := nx_it h hc
          refine lv_iload hx hb dX11_whence_112 (lv_at hl 4 rfl) ?_
          refine lv_istore (lv' := [(5, .int x5), (4, .int s0), (0, .ref (a 0)), (2, .int x2), (3, .int x3), (6, .int x6), (7, .int x7)]) hx hb dX11_whence_114 hl (by decide) rfl (fun ls hl => ?_)
          refine lv_iinc (v := (x6 + 1)) (lv' := [(6, .int (x6 + 1)), (5, .int x5), (4, .int s0), (0, .ref (a 0)), (2, .int x2), (3, .int x3), (7, .int x7)]) hx hb dX11_whence_116 hl (k := 5) rfl rfl (by decide) rfl (fun ls hl => ?_)
          refine lv_goto (tgt := 27) hx hb dX11_whence_119 (by decide) ?_
          exact ih _ _ _ _ z h H locs ls hP hS (lv_sub hl [3, 4, 5, 2, 1, 0] rfl) kR
        · have h := nx_if h hc
          refine lv_iload hx hb dX11_whence_107 (lv_at hl 6 rfl) ?_
          refine lv_goto (tgt := 114) hx hb dX11_whence_109 (by decide) ?_
          refine lv_istore (lv' := [(5, .int x7), (4, .int s0), (0, .ref (a 0)), (2, .int x2), (3, .int x3), (6, .int x6), (7, .int x7)]) hx hb dX11_whence_114 hl (by decide) rfl (fun ls hl => ?_)
          refine lv_iinc (v := (x6 + 1)) (lv' := [(6, .int (x6 + 1)), (5, .int x7), (4, .int s0), (0, .ref (a 0)), (2, .int x2), (3, .int x3), (7, .int x7)]) hx hb dX11_whence_116 hl (k := 5) rfl rfl (by decide) rfl (fun ls hl => ?_)
          refine lv_goto (tgt := 27) hx hb dX11_whence_119 (by decide) ?_
          exact ih _ _ _ _ z h H locs ls hP hS (lv_sub hl [3, 4, 5, 2, 1, 0] rfl) kR
    have J68 : ∀ (x4 : Int32) (x5 : Int32) (x6 : Int32) (x7 : Int32) (s0 : Int32) (s1 : Int32), f_X11_whence_j68 (f_X11_whence_l27 x2 wide tall groups homeward n) x2 x4 x5 x6 x7 s0 s1 = some z → ∀ (H : Heap) (locs : List Loc) (ls : Array Slot), va_P E.1 vwCl (mW E a wide tall groups tours tourLength rowMany cameBy top east south rolled off kind mark rolls many onward at_ goes firstTour rowWay rowSeen prints homeward) H → va_S (nx_A a 18 s.heap.size) s.heap H locs → lv_has ls 8 [(0, .ref (a 0)), (2, .int x2), (4, .int x4), (5, .int x5), (6, .int x6), (7, .int x7)] → W p l e (nx_rm 6 144) s m args below meth c H locs 0 0 Q (F0 m 68 ls [.int s0, .int s1]) := by
      intro x4 x5 x6 x7 s0 s1 h H locs ls hP hS hl
      unfold f_X11_whence_j68 at h
      refine lv_iadd hx hb dX11_whence_68 ?_
      refine lv_istore_n (lv' := [(3, .int (s1 + s0)), (0, .ref (a 0)), (2, .int x2), (4, .int x4), (5, .int x5), (6, .int x6), (7, .int x7)]) hx hb dX11_whence_69 rfl hl (by decide) rfl (fun ls hl => ?_)
      refine lv_iload hx hb dX11_whence_70 (lv_at hl 6 rfl) ?_
      refine lv_ldc hx hb hown (hts _ wk_RX11_99) dX11_whence_72 ?_
      refine lv_icmp_ge (tgt := 89) hx hb dX11_whence_74 (by decide) (fun hc => ?_) (fun hc => ?_)
      · have h := nx_it h hc
        refine lv_iload hx hb dX11_whence_89 (lv_at hl 3 rfl) ?_
        exact J91 _ _ _ _ _ h H locs ls hP hS (lv_sub hl [1, 2, 0, 4, 5, 6] rfl)
      · have h := nx_if h hc
        refine lv_iload hx hb dX11_whence_77 (lv_at hl 6 rfl) ?_
        refine lv_iload hx hb dX11_whence_79 (lv_at hl 4 rfl) ?_
        refine lv_icmp_le (tgt := 89) hx hb dX11_whence_81 (by decide) (fun hc => ?_) (fun hc => ?_)
        · have h := nx_it h hc
          refine lv_iload hx hb dX11_whence_89 (lv_at hl 3 rfl) ?_
          exact J91 _ _ _ _ _ h H locs ls hP hS (lv_sub hl [1, 2, 0, 4, 5, 6] rfl)
        · have h := nx_if h hc
          refine lv_iload hx hb dX11_whence_84 (lv_at hl 5 rfl) ?_
          refine lv_goto (tgt := 91) hx hb dX11_whence_86 (by decide) ?_
          exact J91 _ _ _ _ _ h H locs ls hP hS (lv_sub hl [1, 2, 0, 4, 5, 6] rfl)
    unfold f_X11_whence_b27 at h
    refine lv_iload hx hb dX11_whence_27 (lv_at hl 5 rfl) ?_
    refine lv_iconst (v := 3) hx hb dX11_whence_29 (by decide) ?_
    refine lv_aload_n hx hb dX11_whence_30 rfl (lv_at hl 0 rfl) ?_
    obtain ⟨r_2, hc_1, h⟩ := nx_bd h
    refine nx_ki (nx_runV (As := []) (rest := [.int 3, .int x6]) X hS hP (c_X11_cells l E H.size a wide tall groups tours tourLength rowMany cameBy top east south rolled off kind mark rolls many onward at_ goes firstTour rowWay rowSeen prints homeward _ hc_1) nx_FA qV_RX11_100 ⟨rfl, rfl⟩ ⟨Nat.le_of_ble_eq_true rfl, Nat.le_of_ble_eq_true rfl⟩ ⟨Nat.zero_le _, Nat.zero_le _⟩ 0 rfl rfl rfl rfl hl.1 (Nat.le_of_ble_eq_true rfl) dX11_whence_31) hS nx_FA (fun H locs hP hS => ?_)
    refine lv_imul hx hb dX11_whence_34 ?_
    refine lv_icmp_ge (tgt := 122) hx hb dX11_whence_35 (by decide) (fun hc => ?_) (fun hc => ?_)
    · have h := nx_it h hc
      obtain rfl := Option.some.inj h
      exact kR H locs ls hP hS (lv_sub hl [0, 1, 2, 3] rfl)
    · have h := nx_if h hc
      refine lv_aload_n hx hb dX11_whence_38 rfl (lv_at hl 0 rfl) ?_
      refine nx_gf X hP uw_X11 (ci := 10) rfl 0 rfl 22 (by decide) wf_RX11_66 rfl dX11_whence_39 ?_
      refine lv_bipush (v := 8) hx hb dX11_whence_42 (by decide) ?_
      refine lv_iload hx hb dX11_whence_44 (lv_at hl 5 rfl) ?_
      refine lv_imul hx hb dX11_whence_46 ?_
      refine lv_aload_n hx hb dX11_whence_47 rfl (lv_at hl 0 rfl) ?_
      refine nx_gf X hP uw_X11 (ci := 10) rfl 0 rfl 9 (by decide) wf_RX11_108 rfl dX11_whence_48 ?_
      refine lv_iadd hx hb dX11_whence_51 ?_
      obtain ⟨hv_3, h⟩ := nx_rb h
      refine nx_ld X hP 17 rfl hv_3 dX11_whence_52 ?_
      refine lv_istore (lv' := [(7, .int (homeward ((8 * x6) + groups).toNatClampNeg)), (0, .ref (a 0)), (2, .int x2), (3, .int x3), (4, .int x4), (5, .int x5), (6, .int x6)]) hx hb dX11_whence_53 hl (by decide) rfl (fun ls hl => ?_)
      refine lv_iload_n hx hb dX11_whence_55 rfl (lv_at hl 3 rfl) ?_
      refine lv_iload hx hb dX11_whence_56 (lv_at hl 0 rfl) ?_
      refine lv_ldc hx hb hown (hts _ wk_RX11_99) dX11_whence_58 ?_
      refine lv_icmp_ge (tgt := 67) hx hb dX11_whence_60 (by decide) (fun hc => ?_) (fun hc => ?_)
      · have h := nx_it h hc
        refine lv_iconst (v := 0) hx hb dX11_whence_67 (by decide) ?_
        exact J68 _ _ _ _ _ _ h H locs ls hP hS (lv_sub hl [1, 2, 4, 5, 6, 0] rfl)
      · have h := nx_if h hc
        refine lv_iconst (v := 1) hx hb dX11_whence_63 (by decide) ?_
        refine lv_goto (tgt := 68) hx hb dX11_whence_64 (by decide) ?_
        exact J68 _ _ _ _ _ _ h H locs ls hP hS (lv_sub hl [1, 2, 4, 5, 6, 0] rfl)
  unfold f_X11_whence at h
  suffices hw : ∀ (H : Heap) (locs : List Loc), va_P E.1 vwCl (mW E a wide tall groups tours tourLength rowMany cameBy top east south rolled off kind mark rolls many onward at_ goes firstTour rowWay rowSeen prints homeward) H → va_S (nx_A a 18 s.heap.size) s.heap H locs → W p l e (nx_rm 6 144) s m args below meth c H locs 0 0 Q (F0 m 0 ls []) from hw _ _ hP va_S.rf
  intro H locs hP hS
  refine lv_aload_n hx hb dX11_whence_0 rfl (lv_at hl 0 rfl) ?_
  refine lv_iload_n hx hb dX11_whence_1 rfl (lv_at hl 1 rfl) ?_
  obtain ⟨r_6, hc_5, h⟩ := nx_bd h
  refine nx_ki (nx_runV (As := [.int x1]) (rest := []) X hS hP (c_X11_isCell l E H.size a wide tall groups tours tourLength rowMany cameBy top east south rolled off kind mark rolls many onward at_ goes firstTour rowWay rowSeen prints homeward x1 _ hc_5) nx_FA qV_RX11_111 ⟨rfl, rfl⟩ ⟨Nat.le_of_ble_eq_true rfl, Nat.le_of_ble_eq_true rfl⟩ ⟨Nat.zero_le _, Nat.zero_le _⟩ 0 rfl rfl rfl rfl hl.1 (Nat.le_of_ble_eq_true rfl) dX11_whence_2) hS nx_FA (fun H locs hP hS => ?_)
  refine lv_if_ne (tgt := 10) hx hb dX11_whence_5 (by decide) (fun hc => ?_) (fun hc => ?_)
  · have h := nx_if h hc
    refine lv_aload_n hx hb dX11_whence_10 rfl (lv_at hl 0 rfl) ?_
    refine lv_iload_n hx hb dX11_whence_11 rfl (lv_at hl 1 rfl) ?_
    obtain ⟨k_8, hc_7, h⟩ := nx_bd h
    refine nx_kv (nx_runV (As := [.int x1]) (rest := []) X hS hP (c_X11_layHome l N E H.size a wide tall groups tours tourLength rowMany cameBy top east south rolled off kind mark rolls many onward at_ goes firstTour rowWay rowSeen prints homeward x1 hI _ hc_7) (nx_Am hS.1) qV_RX11_199 ⟨rfl, rfl⟩ ⟨Nat.le_of_ble_eq_true rfl, Nat.le_of_ble_eq_true rfl⟩ ⟨Nat.zero_le _, Nat.zero_le _⟩ 0 rfl rfl rfl rfl hl.1 (Nat.le_of_ble_eq_true rfl) dX11_whence_12) hS (nx_Am hS.1) (fun H locs hP hS => ?_)
    have hP : va_P E.1 vwCl (mW E a wide tall groups tours tourLength rowMany cameBy top east south rolled off kind mark rolls many onward at_ goes firstTour rowWay rowSeen prints k_8) H := hP
    refine lv_iconst (v := 0) hx hb dX11_whence_15 (by decide) ?_
    refine lv_istore_n (lv' := [(3, .int 0), (0, .ref (a 0)), (1, .int x1), (2, .int x2)]) hx hb dX11_whence_16 rfl hl (by decide) rfl (fun ls hl => ?_)
    refine lv_bipush (v := (-9)) hx hb dX11_whence_17 (by decide) ?_
    refine lv_istore (lv' := [(4, .int (-9)), (3, .int 0), (0, .ref (a 0)), (1, .int x1), (2, .int x2)]) hx hb dX11_whence_19 hl (by decide) rfl (fun ls hl => ?_)
    refine lv_iconst (v := (-1)) hx hb dX11_whence_21 (by decide) ?_
    refine lv_istore (lv' := [(5, .int (-1)), (4, .int (-9)), (3, .int 0), (0, .ref (a 0)), (1, .int x1), (2, .int x2)]) hx hb dX11_whence_22 hl (by decide) rfl (fun ls hl => ?_)
    refine lv_iconst (v := 0) hx hb dX11_whence_24 (by decide) ?_
    refine lv_istore (lv' := [(6, .int 0), (5, .int (-1)), (4, .int (-9)), (3, .int 0), (0, .ref (a 0)), (1, .int x1), (2, .int x2)]) hx hb dX11_whence_25 hl (by decide) rfl (fun ls hl => ?_)
    obtain ⟨z_9, hz_10, h⟩ := nx_bd h
    refine L27 _ _ N _ _ _ _ _ hz_10 H locs ls hP hS (lv_sub hl [4, 6, 3, 2, 1, 0] rfl) (fun H locs ls hP hS hl => ?_)
    refine lv_iload_n hx hb dX11_whence_122 rfl (lv_at hl 1 rfl) ?_
    refine lv_if_eq (tgt := 131) hx hb dX11_whence_123 (by decide) (fun hc => ?_) (fun hc => ?_)
    · have h := nx_it h hc
      refine lv_iload_n hx hb dX11_whence_131 rfl (lv_at hl 2 rfl) ?_
      exact kr 132 ls z_9.1 k_8 H locs dX11_whence_132 (Option.some.inj h) hP hS
    · have h := nx_if h hc
      refine lv_iload hx hb dX11_whence_126 (lv_at hl 3 rfl) ?_
      refine lv_goto (tgt := 132) hx hb dX11_whence_128 (by decide) ?_
      exact kr 132 ls z_9.2 k_8 H locs dX11_whence_132 (Option.some.inj h) hP hS
  · have h := nx_it h hc
    refine lv_iconst (v := (-1)) hx hb dX11_whence_8 (by decide) ?_
    exact kr 9 ls (-1) homeward H locs dX11_whence_9 (Option.some.inj h) hP hS
def f_X11_must_j96 (x3 : Int32) (x4 : Int32) (s0 : Int32) (kind : Nat → Int32) (homeward : Nat → Int32) : Option (Int32 × ((Nat → Int32) × (Nat → Int32))) :=
  (nx_ck 25 x3).bind fun _ => if s0 = 0 then (some (1, ((upd kind x3.toNatClampNeg x4), homeward))) else (some (0, ((upd kind x3.toNatClampNeg x4), homeward)))
def f_X11_must (N : Nat) (x1 : Int32) (x2 : Int32) (x3 : Int32) (wide : Int32) (tall : Int32) (groups : Int32) (kind : Nat → Int32) (homeward : Nat → Int32) : Option (Int32 × ((Nat → Int32) × (Nat → Int32))) :=
  (f_X11_isPlace x1 wide tall).bind fun r_3 => if r_3 = 0 then (some ((-1), (kind, homeward))) else ((f_X11_isCell x2 wide tall).bind fun r_5 => if r_5 = 0 then (some ((-1), (kind, homeward))) else ((f_X11_isCell x3 wide tall).bind fun r_7 => if r_7 = 0 then (some ((-1), (kind, homeward))) else ((f_X11_layHome N x2 wide tall kind homeward).bind fun k_9 => (nx_rd k_9 600 ((8 * x1) + groups)).bind fun _ => if (k_9 ((8 * x1) + groups).toNatClampNeg) = 100000000 then (some (0, (kind, k_9))) else ((nx_rd kind 25 x3).bind fun _ => (nx_ck 25 x3).bind fun _ => (f_X11_layHome N x2 wide tall (upd kind x3.toNatClampNeg 1) k_9).bind fun k_16 => (nx_rd k_16 600 ((8 * x1) + groups)).bind fun _ => if 100000000 ≤ (k_16 ((8 * x1) + groups).toNatClampNeg) then (f_X11_must_j96 x3 (kind x3.toNatClampNeg) 0 (upd kind x3.toNatClampNeg 1) k_16) else (f_X11_must_j96 x3 (kind x3.toNatClampNeg) 1 (upd kind x3.toNatClampNeg 1) k_16)))))
set_option maxHeartbeats 4000000 in
set_option maxRecDepth 100000 in
theorem c_X11_must (l : Launch) (N : Nat) (E : nx_E) (sz : Nat) (a : Nat → Nat) (wide : Int32) (tall : Int32) (groups : Int32) (tours : Int32) (tourLength : Int32) (rowMany : Int32) (cameBy : Int32) (top : Nat → Int32) (east : Nat → Int32) (south : Nat → Int32) (rolled : Nat → Int32) (off : Nat → Int32) (kind : Nat → Int32) (mark : Nat → Int32) (rolls : Nat → Int32) (many : Nat → Int64) (onward : Nat → Int32) (at_ : Nat → Int32) (goes : Nat → Int32) (firstTour : Nat → Int32) (rowWay : Nat → Int32) (rowSeen : Nat → Int32) (prints : Nat → Int32) (homeward : Nat → Int32) (x1 : Int32) (x2 : Int32) (x3 : Int32) (hI : nx_inj a 18) (o : Int32 × ((Nat → Int32) × (Nat → Int32))) (h : f_X11_must N x1 x2 x3 wide tall groups kind homeward = some o) : Met l yX11_must (.code yX11_must cX11_must 6 (some .int) :: nx_T) (nx_rm 6 144) (va_Pc [.ref (a 0), .int x1, .int x2, .int x3] (nx_P E (nx_A a 18 sz) sz (mW E a wide tall groups tours tourLength rowMany cameBy top east south rolled off kind mark rolls many onward at_ goes firstTour rowWay rowSeen prints homeward))) (va_Qi (fun v u => (v, u) = o) (fun u t => va_P E.1 vwCl (mW E a wide tall groups tours tourLength rowMany cameBy top east south rolled off (u.1) mark rolls many onward at_ goes firstTour rowWay rowSeen prints (u.2)) t.heap) (nx_A a 18 sz)) 0 0 (nx_A a 18 sz) := by
  refine nx_enI (fun v u => (v, u) = o) (fun (u : (Nat → Int32) × (Nat → Int32)) => (mW E a wide tall groups tours tourLength rowMany cameBy top east south rolled off (u.1) mark rolls many onward at_ goes firstTour rowWay rowSeen prints (u.2))) (by decide) (Nat.le_of_ble_eq_true rfl) ?_
  intro p e s m below meth c Q X kr hsz hP ls hl
  subst hsz
  generalize hargs : (List.toArray [.ref (a 0), .int x1, .int x2, .int x3] : Array Value) = args at X kr ⊢
  clear hargs
  obtain ⟨⟨hx, hb, hml, hown, hts⟩, hK, hSt, hNz⟩ := id X
  have hS : va_S (nx_A a 18 s.heap.size) s.heap s.heap [] := va_S.rf
  have hl : lv_has ls 6 [(0, .ref (a 0)), (1, .int x1), (2, .int x2), (3, .int x3)] := hl
  have J96 : ∀ (x3 : Int32) (x4 : Int32) (s0 : Int32) (kind : Nat → Int32) (homeward : Nat → Int32), f_X11_must_j96 x3 x4 s0 kind homeward = some o → ∀ (H : Heap) (locs : List Loc) (ls : Array Slot), va_P E.1 vwCl (mW E a wide tall groups tours tourLength rowMany cameBy top east south rolled off kind mark rolls many onward at_ goes firstTour rowWay rowSeen prints homeward) H → va_S (nx_A a 18 s.heap.size) s.heap H locs → lv_has ls 6 [(0, .ref (a 0)), (3, .int x3), (4, .int x4)] → W p l e (nx_rm 6 144) s m args below meth c H locs 0 0 Q (F0 m 96 ls [.int s0]) := by
    intro x3 x4 s0 kind homeward h H locs ls hP hS hl
    unfold f_X11_must_j96 at h
    refine lv_istore (lv' := [(5, .int s0), (0, .ref (a 0)), (3, .int x3), (4, .int x4)]) hx hb dX11_must_96 hl (by decide) rfl (fun ls hl => ?_)
    refine lv_aload_n hx hb dX11_must_98 rfl (lv_at hl 1 rfl) ?_
    refine nx_gf X hP uw_X11 (ci := 10) rfl 0 rfl 7 (by decide) wf_RX11_32 rfl dX11_must_99 ?_
    refine lv_iload_n hx hb dX11_must_102 rfl (lv_at hl 2 rfl) ?_
    refine lv_iload hx hb dX11_must_103 (lv_at hl 3 rfl) ?_
    obtain ⟨hv_1, h⟩ := nx_cb h
    refine nx_st X hI mW_ad hP hS 6 rfl hv_1 dX11_must_105 (fun H locs hP hS => ?_)
    have hP : va_P E.1 vwCl (mW E a wide tall groups tours tourLength rowMany cameBy top east south rolled off (upd kind x3.toNatClampNeg x4) mark rolls many onward at_ goes firstTour rowWay rowSeen prints homeward) H := hP
    refine lv_iload hx hb dX11_must_106 (lv_at hl 0 rfl) ?_
    refine lv_if_eq (tgt := 115) hx hb dX11_must_108 (by decide) (fun hc => ?_) (fun hc => ?_)
    · have h := nx_it h hc
      refine lv_iconst (v := 1) hx hb dX11_must_115 (by decide) ?_
      exact kr 116 ls 1 ((upd kind x3.toNatClampNeg x4), homeward) H locs dX11_must_116 (Option.some.inj h) hP hS
    · have h := nx_if h hc
      refine lv_iconst (v := 0) hx hb dX11_must_111 (by decide) ?_
      refine lv_goto (tgt := 116) hx hb dX11_must_112 (by decide) ?_
      exact kr 116 ls 0 ((upd kind x3.toNatClampNeg x4), homeward) H locs dX11_must_116 (Option.some.inj h) hP hS
  unfold f_X11_must at h
  suffices hw : ∀ (H : Heap) (locs : List Loc), va_P E.1 vwCl (mW E a wide tall groups tours tourLength rowMany cameBy top east south rolled off kind mark rolls many onward at_ goes firstTour rowWay rowSeen prints homeward) H → va_S (nx_A a 18 s.heap.size) s.heap H locs → W p l e (nx_rm 6 144) s m args below meth c H locs 0 0 Q (F0 m 0 ls []) from hw _ _ hP va_S.rf
  intro H locs hP hS
  refine lv_aload_n hx hb dX11_must_0 rfl (lv_at hl 0 rfl) ?_
  refine lv_iload_n hx hb dX11_must_1 rfl (lv_at hl 1 rfl) ?_
  obtain ⟨r_3, hc_2, h⟩ := nx_bd h
  refine nx_ki (nx_runV (As := [.int x1]) (rest := []) X hS hP (c_X11_isPlace l E H.size a wide tall groups tours tourLength rowMany cameBy top east south rolled off kind mark rolls many onward at_ goes firstTour rowWay rowSeen prints homeward x1 _ hc_2) nx_FA qV_RX11_187 ⟨rfl, rfl⟩ ⟨Nat.le_of_ble_eq_true rfl, Nat.le_of_ble_eq_true rfl⟩ ⟨Nat.zero_le _, Nat.zero_le _⟩ 0 rfl rfl rfl rfl hl.1 (Nat.le_of_ble_eq_true rfl) dX11_must_2) hS nx_FA (fun H locs hP hS => ?_)
  refine lv_if_eq (tgt := 24) hx hb dX11_must_5 (by decide) (fun hc => ?_) (fun hc => ?_)
  · have h := nx_it h hc
    refine lv_iconst (v := (-1)) hx hb dX11_must_24 (by decide) ?_
    exact kr 25 ls (-1) (kind, homeward) H locs dX11_must_25 (Option.some.inj h) hP hS
  · have h := nx_if h hc
    refine lv_aload_n hx hb dX11_must_8 rfl (lv_at hl 0 rfl) ?_
    refine lv_iload_n hx hb dX11_must_9 rfl (lv_at hl 2 rfl) ?_
    obtain ⟨r_5, hc_4, h⟩ := nx_bd h
    refine nx_ki (nx_runV (As := [.int x2]) (rest := []) X hS hP (c_X11_isCell l E H.size a wide tall groups tours tourLength rowMany cameBy top east south rolled off kind mark rolls many onward at_ goes firstTour rowWay rowSeen prints homeward x2 _ hc_4) nx_FA qV_RX11_111 ⟨rfl, rfl⟩ ⟨Nat.le_of_ble_eq_true rfl, Nat.le_of_ble_eq_true rfl⟩ ⟨Nat.zero_le _, Nat.zero_le _⟩ 0 rfl rfl rfl rfl hl.1 (Nat.le_of_ble_eq_true rfl) dX11_must_10) hS nx_FA (fun H locs hP hS => ?_)
    refine lv_if_eq (tgt := 24) hx hb dX11_must_13 (by decide) (fun hc => ?_) (fun hc => ?_)
    · have h := nx_it h hc
      refine lv_iconst (v := (-1)) hx hb dX11_must_24 (by decide) ?_
      exact kr 25 ls (-1) (kind, homeward) H locs dX11_must_25 (Option.some.inj h) hP hS
    · have h := nx_if h hc
      refine lv_aload_n hx hb dX11_must_16 rfl (lv_at hl 0 rfl) ?_
      refine lv_iload_n hx hb dX11_must_17 rfl (lv_at hl 3 rfl) ?_
      obtain ⟨r_7, hc_6, h⟩ := nx_bd h
      refine nx_ki (nx_runV (As := [.int x3]) (rest := []) X hS hP (c_X11_isCell l E H.size a wide tall groups tours tourLength rowMany cameBy top east south rolled off kind mark rolls many onward at_ goes firstTour rowWay rowSeen prints homeward x3 _ hc_6) nx_FA qV_RX11_111 ⟨rfl, rfl⟩ ⟨Nat.le_of_ble_eq_true rfl, Nat.le_of_ble_eq_true rfl⟩ ⟨Nat.zero_le _, Nat.zero_le _⟩ 0 rfl rfl rfl rfl hl.1 (Nat.le_of_ble_eq_true rfl) dX11_must_18) hS nx_FA (fun H locs hP hS => ?_)
      refine lv_if_ne (tgt := 26) hx hb dX11_must_21 (by decide) (fun hc => ?_) (fun hc => ?_)
      · have h := nx_if h hc
        refine lv_aload_n hx hb dX11_must_26 rfl (lv_at hl 0 rfl) ?_
        refine lv_iload_n hx hb dX11_must_27 rfl (lv_at hl 2 rfl) ?_
        obtain ⟨k_9, hc_8, h⟩ := nx_bd h
        refine nx_kv (nx_runV (As := [.int x2]) (rest := []) X hS hP (c_X11_layHome l N E H.size a wide tall groups tours tourLength rowMany cameBy top east south rolled off kind mark rolls many onward at_ goes firstTour rowWay rowSeen prints homeward x2 hI _ hc_8) (nx_Am hS.1) qV_RX11_199 ⟨rfl, rfl⟩ ⟨Nat.le_of_ble_eq_true rfl, Nat.le_of_ble_eq_true rfl⟩ ⟨Nat.zero_le _, Nat.zero_le _⟩ 0 rfl rfl rfl rfl hl.1 (Nat.le_of_ble_eq_true rfl) dX11_must_28) hS (nx_Am hS.1) (fun H locs hP hS => ?_)
        have hP : va_P E.1 vwCl (mW E a wide tall groups tours tourLength rowMany cameBy top east south rolled off kind mark rolls many onward at_ goes firstTour rowWay rowSeen prints k_9) H := hP
        refine lv_aload_n hx hb dX11_must_31 rfl (lv_at hl 0 rfl) ?_
        refine nx_gf X hP uw_X11 (ci := 10) rfl 0 rfl 22 (by decide) wf_RX11_66 rfl dX11_must_32 ?_
        refine lv_bipush (v := 8) hx hb dX11_must_35 (by decide) ?_
        refine lv_iload_n hx hb dX11_must_37 rfl (lv_at hl 1 rfl) ?_
        refine lv_imul hx hb dX11_must_38 ?_
        refine lv_aload_n hx hb dX11_must_39 rfl (lv_at hl 0 rfl) ?_
        refine nx_gf X hP uw_X11 (ci := 10) rfl 0 rfl 9 (by decide) wf_RX11_108 rfl dX11_must_40 ?_
        refine lv_iadd hx hb dX11_must_43 ?_
        obtain ⟨hv_10, h⟩ := nx_rb h
        refine nx_ld X hP 17 rfl hv_10 dX11_must_44 ?_
        refine lv_ldc hx hb hown (hts _ wk_RX11_99) dX11_must_45 ?_
        refine lv_icmp_ne (tgt := 52) hx hb dX11_must_47 (by decide) (fun hc => ?_) (fun hc => ?_)
        · have h := nx_if h hc
          refine lv_aload_n hx hb dX11_must_52 rfl (lv_at hl 0 rfl) ?_
          refine nx_gf X hP uw_X11 (ci := 10) rfl 0 rfl 7 (by decide) wf_RX11_32 rfl dX11_must_53 ?_
          refine lv_iload_n hx hb dX11_must_56 rfl (lv_at hl 3 rfl) ?_
          obtain ⟨hv_12, h⟩ := nx_rb h
          refine nx_ld X hP 6 rfl hv_12 dX11_must_57 ?_
          refine lv_istore (lv' := [(4, .int (kind x3.toNatClampNeg)), (0, .ref (a 0)), (1, .int x1), (2, .int x2), (3, .int x3)]) hx hb dX11_must_58 hl (by decide) rfl (fun ls hl => ?_)
          refine lv_aload_n hx hb dX11_must_60 rfl (lv_at hl 1 rfl) ?_
          refine nx_gf X hP uw_X11 (ci := 10) rfl 0 rfl 7 (by decide) wf_RX11_32 rfl dX11_must_61 ?_
          refine lv_iload_n hx hb dX11_must_64 rfl (lv_at hl 4 rfl) ?_
          refine lv_iconst (v := 1) hx hb dX11_must_65 (by decide) ?_
          obtain ⟨hv_14, h⟩ := nx_cb h
          refine nx_st X hI mW_ad hP hS 6 rfl hv_14 dX11_must_66 (fun H locs hP hS => ?_)
          have hP : va_P E.1 vwCl (mW E a wide tall groups tours tourLength rowMany cameBy top east south rolled off (upd kind x3.toNatClampNeg 1) mark rolls many onward at_ goes firstTour rowWay rowSeen prints k_9) H := hP
          refine lv_aload_n hx hb dX11_must_67 rfl (lv_at hl 1 rfl) ?_
          refine lv_iload_n hx hb dX11_must_68 rfl (lv_at hl 3 rfl) ?_
          obtain ⟨k_16, hc_15, h⟩ := nx_bd h
          refine nx_kv (nx_runV (As := [.int x2]) (rest := []) X hS hP (c_X11_layHome l N E H.size a wide tall groups tours tourLength rowMany cameBy top east south rolled off (upd kind x3.toNatClampNeg 1) mark rolls many onward at_ goes firstTour rowWay rowSeen prints k_9 x2 hI _ hc_15) (nx_Am hS.1) qV_RX11_199 ⟨rfl, rfl⟩ ⟨Nat.le_of_ble_eq_true rfl, Nat.le_of_ble_eq_true rfl⟩ ⟨Nat.zero_le _, Nat.zero_le _⟩ 0 rfl rfl rfl rfl hl.1 (Nat.le_of_ble_eq_true rfl) dX11_must_69) hS (nx_Am hS.1) (fun H locs hP hS => ?_)
          have hP : va_P E.1 vwCl (mW E a wide tall groups tours tourLength rowMany cameBy top east south rolled off (upd kind x3.toNatClampNeg 1) mark rolls many onward at_ goes firstTour rowWay rowSeen prints k_16) H := hP
          refine lv_aload_n hx hb dX11_must_72 rfl (lv_at hl 1 rfl) ?_
          refine nx_gf X hP uw_X11 (ci := 10) rfl 0 rfl 22 (by decide) wf_RX11_66 rfl dX11_must_73 ?_
          refine lv_bipush (v := 8) hx hb dX11_must_76 (by decide) ?_
          refine lv_iload_n hx hb dX11_must_78 rfl (lv_at hl 2 rfl) ?_
          refine lv_imul hx hb dX11_must_79 ?_
          refine lv_aload_n hx hb dX11_must_80 rfl (lv_at hl 1 rfl) ?_
          refine nx_gf X hP uw_X11 (ci := 10) rfl 0 rfl 9 (by decide) wf_RX11_108 rfl dX11_must_81 ?_
          refine lv_iadd hx hb dX11_must_84 ?_
          obtain ⟨hv_17, h⟩ := nx_rb h
          refine nx_ld X hP 17 rfl hv_17 dX11_must_85 ?_
          refine lv_ldc hx hb hown (hts _ wk_RX11_99) dX11_must_86 ?_
          refine lv_icmp_ge (tgt := 95) hx hb dX11_must_88 (by decide) (fun hc => ?_) (fun hc => ?_)
          · have h := nx_it h hc
            refine lv_iconst (v := 0) hx hb dX11_must_95 (by decide) ?_
            exact J96 _ _ _ _ _ h H locs ls hP hS (lv_sub hl [1, 4, 0] rfl)
          · have h := nx_if h hc
            refine lv_iconst (v := 1) hx hb dX11_must_91 (by decide) ?_
            refine lv_goto (tgt := 96) hx hb dX11_must_92 (by decide) ?_
            exact J96 _ _ _ _ _ h H locs ls hP hS (lv_sub hl [1, 4, 0] rfl)
        · have h := nx_it h hc
          refine lv_iconst (v := 0) hx hb dX11_must_50 (by decide) ?_
          exact kr 51 ls 0 (kind, k_9) H locs dX11_must_51 (Option.some.inj h) hP hS
      · have h := nx_it h hc
        refine lv_iconst (v := (-1)) hx hb dX11_must_24 (by decide) ?_
        exact kr 25 ls (-1) (kind, homeward) H locs dX11_must_25 (Option.some.inj h) hP hS
def f_X11_count_b10 (x1 : Int32) (x3 : Int32) (x4 : Int32) (groups : Int32) (rec : (Int32 × Int32) → Option (Int32)) (x2 : Int32) (x5 : Int32) : Option (Int32) :=
  if 3 ≤ x5 then (some x2) else (rec ((x2 + ((groups >>> (x5 &&& 31)) &&& 1)), (x5 + 1)))
def f_X11_count_l10 (x1 : Int32) (x3 : Int32) (x4 : Int32) (groups : Int32) : Nat → (Int32 × Int32) → Option (Int32) := nx_lp (fun rec z => f_X11_count_b10 x1 x3 x4 groups rec z.1 z.2)
def f_X11_count_j62 (rec : (Int32 × Int32) → Option (Int32)) (x1 : Int32) (x2 : Int32) (x4 : Int32) (x5 : Int32) (s0 : Int32) (s1 : Int32) : Option (Int32) :=
  rec ((s1 + s0), (x5 + 1))
def f_X11_count_b37 (x1 : Int32) (x2 : Int32) (x4 : Int32) (wide : Int32) (tall : Int32) (mark : Nat → Int32) (rec : (Int32 × Int32) → Option (Int32)) (x3 : Int32) (x5 : Int32) : Option (Int32) :=
  (f_X11_cells wide tall).bind fun r_2 => if r_2 ≤ x5 then (some x3) else ((nx_rd mark 25 x5).bind fun _ => if (mark x5.toNatClampNeg) ≤ 0 then (f_X11_count_j62 rec x1 x2 x4 x5 0 x3) else (f_X11_count_j62 rec x1 x2 x4 x5 1 x3))
def f_X11_count_l37 (x1 : Int32) (x2 : Int32) (x4 : Int32) (wide : Int32) (tall : Int32) (mark : Nat → Int32) : Nat → (Int32 × Int32) → Option (Int32) := nx_lp (fun rec z => f_X11_count_b37 x1 x2 x4 wide tall mark rec z.1 z.2)
def f_X11_count_j104 (rec : (Int32 × Int32) → Option (Int32)) (x1 : Int32) (x2 : Int32) (x3 : Int32) (x5 : Int32) (s0 : Int32) (s1 : Int32) : Option (Int32) :=
  rec ((s1 + s0), (x5 + 1))
def f_X11_count_b73 (x1 : Int32) (x2 : Int32) (x3 : Int32) (wide : Int32) (tall : Int32) (groups : Int32) (kind : Nat → Int32) (rec : (Int32 × Int32) → Option (Int32)) (x4 : Int32) (x5 : Int32) : Option (Int32) :=
  (f_X11_cells wide tall).bind fun r_6 => if (3 * r_6) ≤ x5 then (some x4) else ((f_X11_isSound x5 groups wide tall kind).bind fun r_8 => if r_8 = 0 then (f_X11_count_j104 rec x1 x2 x3 x5 0 x4) else (f_X11_count_j104 rec x1 x2 x3 x5 1 x4))
def f_X11_count_l73 (x1 : Int32) (x2 : Int32) (x3 : Int32) (wide : Int32) (tall : Int32) (groups : Int32) (kind : Nat → Int32) : Nat → (Int32 × Int32) → Option (Int32) := nx_lp (fun rec z => f_X11_count_b73 x1 x2 x3 wide tall groups kind rec z.1 z.2)
def f_X11_count (N : Nat) (x1 : Int32) (wide : Int32) (tall : Int32) (groups : Int32) (rowMany : Int32) (kind : Nat → Int32) (mark : Nat → Int32) : Option (Int32) :=
  (f_X11_count_l10 x1 0 0 groups N (0, 0)).bind fun z_9 => (f_X11_count_l37 x1 z_9 0 wide tall mark N (0, 0)).bind fun z_11 => (f_X11_count_l73 x1 z_9 z_11 wide tall groups kind N (0, 0)).bind fun z_13 => if x1 = 0 then ((f_X11_cells wide tall).bind fun r_16 => some r_16) else (if x1 = 1 then ((f_X11_openCells N groups wide tall kind).bind fun r_18 => some r_18) else (if x1 = 2 then (some z_9) else (if x1 = 3 then (some rowMany) else (if x1 = 4 then (some z_11) else (if x1 = 5 then (some z_13) else (some (-2)))))))
set_option maxHeartbeats 4000000 in
set_option maxRecDepth 100000 in
theorem c_X11_count (l : Launch) (N : Nat) (E : nx_E) (sz : Nat) (a : Nat → Nat) (wide : Int32) (tall : Int32) (groups : Int32) (tours : Int32) (tourLength : Int32) (rowMany : Int32) (cameBy : Int32) (top : Nat → Int32) (east : Nat → Int32) (south : Nat → Int32) (rolled : Nat → Int32) (off : Nat → Int32) (kind : Nat → Int32) (mark : Nat → Int32) (rolls : Nat → Int32) (many : Nat → Int64) (onward : Nat → Int32) (at_ : Nat → Int32) (goes : Nat → Int32) (firstTour : Nat → Int32) (rowWay : Nat → Int32) (rowSeen : Nat → Int32) (prints : Nat → Int32) (homeward : Nat → Int32) (x1 : Int32) (o : Int32) (h : f_X11_count N x1 wide tall groups rowMany kind mark = some o) : Met l yX11_count (.code yX11_count cX11_count 6 (some .int) :: nx_T) (nx_rm 4 93) (va_Pc [.ref (a 0), .int x1] (nx_P E (nx_F) sz (mW E a wide tall groups tours tourLength rowMany cameBy top east south rolled off kind mark rolls many onward at_ goes firstTour rowWay rowSeen prints homeward))) (va_Qi (fun v (_ : Unit) => v = o) (fun _ t => va_P E.1 vwCl (mW E a wide tall groups tours tourLength rowMany cameBy top east south rolled off kind mark rolls many onward at_ goes firstTour rowWay rowSeen prints homeward) t.heap) (nx_F)) 0 0 (nx_F) := by
  refine nx_enI (fun v (_ : Unit) => v = o) (fun (_ : Unit) => (mW E a wide tall groups tours tourLength rowMany cameBy top east south rolled off kind mark rolls many onward at_ goes firstTour rowWay rowSeen prints homeward)) (by decide) (Nat.le_of_ble_eq_true rfl) ?_
  intro p e s m below meth c Q X kr hsz hP ls hl
  subst hsz
  generalize hargs : (List.toArray [.ref (a 0), .int x1] : Array Value) = args at X kr ⊢
  clear hargs
  obtain ⟨⟨hx, hb, hml, hown, hts⟩, hK, hSt, hNz⟩ := id X
  have hS : va_S (nx_F) s.heap s.heap [] := va_S.rf
  have hl : lv_has ls 6 [(0, .ref (a 0)), (1, .int x1)] := hl
  have L10 : ∀ (x1 : Int32) (x3 : Int32) (x4 : Int32) (n : Nat) (x2 : Int32) (x5 : Int32) (z : (Int32)), f_X11_count_l10 x1 x3 x4 groups n (x2, x5) = some z → ∀ (H : Heap) (locs : List Loc) (ls : Array Slot), va_P E.1 vwCl (mW E a wide tall groups tours tourLength rowMany cameBy top east south rolled off kind mark rolls many onward at_ goes firstTour rowWay rowSeen prints homeward) H → va_S (nx_F) s.heap H locs → lv_has ls 6 [(0, .ref (a 0)), (1, .int x1), (2, .int x2), (3, .int x3), (4, .int x4), (5, .int x5)] → ∀ (kR : ∀ (H : Heap) (locs : List Loc) (ls : Array Slot), va_P E.1 vwCl (mW E a wide tall groups tours tourLength rowMany cameBy top east south rolled off kind mark rolls many onward at_ goes firstTour rowWay rowSeen prints homeward) H → va_S (nx_F) s.heap H locs → lv_has ls 6 [(0, .ref (a 0)), (1, .int x1), (2, .int z), (3, .int x3), (4, .int x4)] → W p l e (nx_rm 4 93) s m args below meth c H locs 0 0 Q (F0 m 34 ls [])), W p l e (nx_rm 4 93) s m args below meth c H locs 0 0 Q (F0 m 10 ls []) := by
   intro x1 x3 x4 n
   induction n with
   | zero => intro x2 x5 z h; exact nomatch (show none = some z from h)
   | succ n ih =>
    intro x2 x5 z h H locs ls hP hS hl kR
    have h : f_X11_count_b10 x1 x3 x4 groups (f_X11_count_l10 x1 x3 x4 groups n) x2 x5 = some z := h
    unfold f_X11_count_b10 at h
    refine lv_iload hx hb dX11_count_10 (lv_at hl 5 rfl) ?_
    refine lv_iconst (v := 3) hx hb dX11_count_12 (by decide) ?_
    refine lv_icmp_ge (tgt := 34) hx hb dX11_count_13 (by decide) (fun hc => ?_) (fun hc => ?_)
    · have h := nx_it h hc
      obtain rfl := Option.some.inj h
      exact kR H locs ls hP hS (lv_sub hl [0, 1, 2, 3, 4] rfl)
    · have h := nx_if h hc
      refine lv_iload_n hx hb dX11_count_16 rfl (lv_at hl 2 rfl) ?_
      refine lv_aload_n hx hb dX11_count_17 rfl (lv_at hl 0 rfl) ?_
      refine nx_gf X hP uw_X11 (ci := 10) rfl 0 rfl 9 (by decide) wf_RX11_108 rfl dX11_count_18 ?_
      refine lv_iload hx hb dX11_count_21 (lv_at hl 5 rfl) ?_
      refine lv_ishr hx hb dX11_count_23 ?_
      refine lv_iconst (v := 1) hx hb dX11_count_24 (by decide) ?_
      refine lv_iand hx hb dX11_count_25 ?_
      refine lv_iadd hx hb dX11_count_26 ?_
      refine lv_istore_n (lv' := [(2, .int (x2 + ((groups >>> (x5 &&& 31)) &&& 1))), (0, .ref (a 0)), (1, .int x1), (3, .int x3), (4, .int x4), (5, .int x5)]) hx hb dX11_count_27 rfl hl (by decide) rfl (fun ls hl => ?_)
      refine lv_iinc (v := (x5 + 1)) (lv' := [(5, .int (x5 + 1)), (2, .int (x2 + ((groups >>> (x5 &&& 31)) &&& 1))), (0, .ref (a 0)), (1, .int x1), (3, .int x3), (4, .int x4)]) hx hb dX11_count_28 hl (k := 5) rfl rfl (by decide) rfl (fun ls hl => ?_)
      refine lv_goto (tgt := 10) hx hb dX11_count_31 (by decide) ?_
      exact ih _ _ z h H locs ls hP hS (lv_sub hl [2, 3, 1, 4, 5, 0] rfl) kR
  have L37 : ∀ (x1 : Int32) (x2 : Int32) (x4 : Int32) (n : Nat) (x3 : Int32) (x5 : Int32) (z : (Int32)), f_X11_count_l37 x1 x2 x4 wide tall mark n (x3, x5) = some z → ∀ (H : Heap) (locs : List Loc) (ls : Array Slot), va_P E.1 vwCl (mW E a wide tall groups tours tourLength rowMany cameBy top east south rolled off kind mark rolls many onward at_ goes firstTour rowWay rowSeen prints homeward) H → va_S (nx_F) s.heap H locs → lv_has ls 6 [(0, .ref (a 0)), (1, .int x1), (2, .int x2), (3, .int x3), (4, .int x4), (5, .int x5)] → ∀ (kR : ∀ (H : Heap) (locs : List Loc) (ls : Array Slot), va_P E.1 vwCl (mW E a wide tall groups tours tourLength rowMany cameBy top east south rolled off kind mark rolls many onward at_ goes firstTour rowWay rowSeen prints homeward) H → va_S (nx_F) s.heap H locs → lv_has ls 6 [(0, .ref (a 0)), (1, .int x1), (2, .int x2), (3, .int z), (4, .int x4)] → W p l e (nx_rm 4 93) s m args below meth c H locs 0 0 Q (F0 m 70 ls [])), W p l e (nx_rm 4 93) s m args below meth c H locs 0 0 Q (F0 m 37 ls []) := by
   intro x1 x2 x4 n
   induction n with
   | zero => intro x3 x5 z h; exact nomatch (show none = some z from h)
   | succ n ih =>
    intro x3 x5 z h H locs ls hP hS hl kR
    have h : f_X11_count_b37 x1 x2 x4 wide tall mark (f_X11_count_l37 x1 x2 x4 wide tall mark n) x3 x5 = some z := h
    have J62 : ∀ (x5 : Int32) (s0 : Int32) (s1 : Int32), f_X11_count_j62 (f_X11_count_l37 x1 x2 x4 wide tall mark n) x1 x2 x4 x5 s0 s1 = some z → ∀ (H : Heap) (locs : List Loc) (ls : Array Slot), va_P E.1 vwCl (mW E a wide tall groups tours tourLength rowMany cameBy top east south rolled off kind mark rolls many onward at_ goes firstTour rowWay rowSeen prints homeward) H → va_S (nx_F) s.heap H locs → lv_has ls 6 [(0, .ref (a 0)), (1, .int x1), (2, .int x2), (4, .int x4), (5, .int x5)] → W p l e (nx_rm 4 93) s m args below meth c H locs 0 0 Q (F0 m 62 ls [.int s0, .int s1]) := by
      intro x5 s0 s1 h H locs ls hP hS hl
      unfold f_X11_count_j62 at h
      refine lv_iadd hx hb dX11_count_62 ?_
      refine lv_istore_n (lv' := [(3, .int (s1 + s0)), (0, .ref (a 0)), (1, .int x1), (2, .int x2), (4, .int x4), (5, .int x5)]) hx hb dX11_count_63 rfl hl (by decide) rfl (fun ls hl => ?_)
      refine lv_iinc (v := (x5 + 1)) (lv' := [(5, .int (x5 + 1)), (3, .int (s1 + s0)), (0, .ref (a 0)), (1, .int x1), (2, .int x2), (4, .int x4)]) hx hb dX11_count_64 hl (k := 5) rfl rfl (by decide) rfl (fun ls hl => ?_)
      refine lv_goto (tgt := 37) hx hb dX11_count_67 (by decide) ?_
      exact ih _ _ z h H locs ls hP hS (lv_sub hl [2, 3, 4, 1, 5, 0] rfl) kR
    unfold f_X11_count_b37 at h
    refine lv_iload hx hb dX11_count_37 (lv_at hl 5 rfl) ?_
    refine lv_aload_n hx hb dX11_count_39 rfl (lv_at hl 0 rfl) ?_
    obtain ⟨r_2, hc_1, h⟩ := nx_bd h
    refine nx_ki (nx_runV (As := []) (rest := [.int x5]) X hS hP (c_X11_cells l E H.size a wide tall groups tours tourLength rowMany cameBy top east south rolled off kind mark rolls many onward at_ goes firstTour rowWay rowSeen prints homeward _ hc_1) nx_FA qV_RX11_100 ⟨rfl, rfl⟩ ⟨Nat.le_of_ble_eq_true rfl, Nat.le_of_ble_eq_true rfl⟩ ⟨Nat.zero_le _, Nat.zero_le _⟩ 0 rfl rfl rfl rfl hl.1 (Nat.le_of_ble_eq_true rfl) dX11_count_40) hS nx_FA (fun H locs hP hS => ?_)
    refine lv_icmp_ge (tgt := 70) hx hb dX11_count_43 (by decide) (fun hc => ?_) (fun hc => ?_)
    · have h := nx_it h hc
      obtain rfl := Option.some.inj h
      exact kR H locs ls hP hS (lv_sub hl [0, 1, 2, 3, 4] rfl)
    · have h := nx_if h hc
      refine lv_iload_n hx hb dX11_count_46 rfl (lv_at hl 3 rfl) ?_
      refine lv_aload_n hx hb dX11_count_47 rfl (lv_at hl 0 rfl) ?_
      refine nx_gf X hP uw_X11 (ci := 10) rfl 0 rfl 8 (by decide) wf_RX11_35 rfl dX11_count_48 ?_
      refine lv_iload hx hb dX11_count_51 (lv_at hl 5 rfl) ?_
      obtain ⟨hv_3, h⟩ := nx_rb h
      refine nx_ld X hP 7 rfl hv_3 dX11_count_53 ?_
      refine lv_if_le (tgt := 61) hx hb dX11_count_54 (by decide) (fun hc => ?_) (fun hc => ?_)
      · have h := nx_it h hc
        refine lv_iconst (v := 0) hx hb dX11_count_61 (by decide) ?_
        exact J62 _ _ _ h H locs ls hP hS (lv_sub hl [0, 1, 2, 4, 5] rfl)
      · have h := nx_if h hc
        refine lv_iconst (v := 1) hx hb dX11_count_57 (by decide) ?_
        refine lv_goto (tgt := 62) hx hb dX11_count_58 (by decide) ?_
        exact J62 _ _ _ h H locs ls hP hS (lv_sub hl [0, 1, 2, 4, 5] rfl)
  have L73 : ∀ (x1 : Int32) (x2 : Int32) (x3 : Int32) (n : Nat) (x4 : Int32) (x5 : Int32) (z : (Int32)), f_X11_count_l73 x1 x2 x3 wide tall groups kind n (x4, x5) = some z → ∀ (H : Heap) (locs : List Loc) (ls : Array Slot), va_P E.1 vwCl (mW E a wide tall groups tours tourLength rowMany cameBy top east south rolled off kind mark rolls many onward at_ goes firstTour rowWay rowSeen prints homeward) H → va_S (nx_F) s.heap H locs → lv_has ls 6 [(0, .ref (a 0)), (1, .int x1), (2, .int x2), (3, .int x3), (4, .int x4), (5, .int x5)] → ∀ (kR : ∀ (H : Heap) (locs : List Loc) (ls : Array Slot), va_P E.1 vwCl (mW E a wide tall groups tours tourLength rowMany cameBy top east south rolled off kind mark rolls many onward at_ goes firstTour rowWay rowSeen prints homeward) H → va_S (nx_F) s.heap H locs → lv_has ls 6 [(0, .ref (a 0)), (1, .int x1), (2, .int x2), (3, .int x3), (4, .int z)] → W p l e (nx_rm 4 93) s m args below meth c H locs 0 0 Q (F0 m 113 ls [])), W p l e (nx_rm 4 93) s m args below meth c H locs 0 0 Q (F0 m 73 ls []) := by
   intro x1 x2 x3 n
   induction n with
   | zero => intro x4 x5 z h; exact nomatch (show none = some z from h)
   | succ n ih =>
    intro x4 x5 z h H locs ls hP hS hl kR
    have h : f_X11_count_b73 x1 x2 x3 wide tall groups kind (f_X11_count_l73 x1 x2 x3 wide tall groups kind n) x4 x5 = some z := h
    have J104 : ∀ (x5 : Int32) (s0 : Int32) (s1 : Int32), f_X11_count_j104 (f_X11_count_l73 x1 x2 x3 wide tall groups kind n) x1 x2 x3 x5 s0 s1 = some z → ∀ (H : Heap) (locs : List Loc) (ls : Array Slot), va_P E.1 vwCl (mW E a wide tall groups tours tourLength rowMany cameBy top east south rolled off kind mark rolls many onward at_ goes firstTour rowWay rowSeen prints homeward) H → va_S (nx_F) s.heap H locs → lv_has ls 6 [(0, .ref (a 0)), (1, .int x1), (2, .int x2), (3, .int x3), (5, .int x5)] → W p l e (nx_rm 4 93) s m args below meth c H locs 0 0 Q (F0 m 104 ls [.int s0, .int s1]) := by
      intro x5 s0 s1 h H locs ls hP hS hl
      unfold f_X11_count_j104 at h
      refine lv_iadd hx hb dX11_count_104 ?_
      refine lv_istore (lv' := [(4, .int (s1 + s0)), (0, .ref (a 0)), (1, .int x1), (2, .int x2), (3, .int x3), (5, .int x5)]) hx hb dX11_count_105 hl (by decide) rfl (fun ls hl => ?_)
      refine lv_iinc (v := (x5 + 1)) (lv' := [(5, .int (x5 + 1)), (4, .int (s1 + s0)), (0, .ref (a 0)), (1, .int x1), (2, .int x2), (3, .int x3)]) hx hb dX11_count_107 hl (k := 5) rfl rfl (by decide) rfl (fun ls hl => ?_)
      refine lv_goto (tgt := 73) hx hb dX11_count_110 (by decide) ?_
      exact ih _ _ z h H locs ls hP hS (lv_sub hl [2, 3, 4, 5, 1, 0] rfl) kR
    unfold f_X11_count_b73 at h
    refine lv_iload hx hb dX11_count_73 (lv_at hl 5 rfl) ?_
    refine lv_iconst (v := 3) hx hb dX11_count_75 (by decide) ?_
    refine lv_aload_n hx hb dX11_count_76 rfl (lv_at hl 0 rfl) ?_
    obtain ⟨r_6, hc_5, h⟩ := nx_bd h
    refine nx_ki (nx_runV (As := []) (rest := [.int 3, .int x5]) X hS hP (c_X11_cells l E H.size a wide tall groups tours tourLength rowMany cameBy top east south rolled off kind mark rolls many onward at_ goes firstTour rowWay rowSeen prints homeward _ hc_5) nx_FA qV_RX11_100 ⟨rfl, rfl⟩ ⟨Nat.le_of_ble_eq_true rfl, Nat.le_of_ble_eq_true rfl⟩ ⟨Nat.zero_le _, Nat.zero_le _⟩ 0 rfl rfl rfl rfl hl.1 (Nat.le_of_ble_eq_true rfl) dX11_count_77) hS nx_FA (fun H locs hP hS => ?_)
    refine lv_imul hx hb dX11_count_80 ?_
    refine lv_icmp_ge (tgt := 113) hx hb dX11_count_81 (by decide) (fun hc => ?_) (fun hc => ?_)
    · have h := nx_it h hc
      obtain rfl := Option.some.inj h
      exact kR H locs ls hP hS (lv_sub hl [0, 1, 2, 3, 4] rfl)
    · have h := nx_if h hc
      refine lv_iload hx hb dX11_count_84 (lv_at hl 4 rfl) ?_
      refine lv_aload_n hx hb dX11_count_86 rfl (lv_at hl 0 rfl) ?_
      refine lv_iload hx hb dX11_count_87 (lv_at hl 5 rfl) ?_
      refine lv_aload_n hx hb dX11_count_89 rfl (lv_at hl 0 rfl) ?_
      refine nx_gf X hP uw_X11 (ci := 10) rfl 0 rfl 9 (by decide) wf_RX11_108 rfl dX11_count_90 ?_
      obtain ⟨r_8, hc_7, h⟩ := nx_bd h
      refine nx_ki (nx_runV (As := [.int x5, .int groups]) (rest := [.int x4]) X hS hP (c_X11_isSound l E H.size a wide tall groups tours tourLength rowMany cameBy top east south rolled off kind mark rolls many onward at_ goes firstTour rowWay rowSeen prints homeward x5 groups _ hc_7) nx_FA qV_RX11_190 ⟨rfl, rfl⟩ ⟨Nat.le_of_ble_eq_true rfl, Nat.le_of_ble_eq_true rfl⟩ ⟨Nat.zero_le _, Nat.zero_le _⟩ 0 rfl rfl rfl rfl hl.1 (Nat.le_of_ble_eq_true rfl) dX11_count_93) hS nx_FA (fun H locs hP hS => ?_)
      refine lv_if_eq (tgt := 103) hx hb dX11_count_96 (by decide) (fun hc => ?_) (fun hc => ?_)
      · have h := nx_it h hc
        refine lv_iconst (v := 0) hx hb dX11_count_103 (by decide) ?_
        exact J104 _ _ _ h H locs ls hP hS (lv_sub hl [0, 1, 2, 3, 5] rfl)
      · have h := nx_if h hc
        refine lv_iconst (v := 1) hx hb dX11_count_99 (by decide) ?_
        refine lv_goto (tgt := 104) hx hb dX11_count_100 (by decide) ?_
        exact J104 _ _ _ h H locs ls hP hS (lv_sub hl [0, 1, 2, 3, 5] rfl)
  unfold f_X11_count at h
  suffices hw : ∀ (H : Heap) (locs : List Loc), va_P E.1 vwCl (mW E a wide tall groups tours tourLength rowMany cameBy top east south rolled off kind mark rolls many onward at_ goes firstTour rowWay rowSeen prints homeward) H → va_S (nx_F) s.heap H locs → W p l e (nx_rm 4 93) s m args below meth c H locs 0 0 Q (F0 m 0 ls []) from hw _ _ hP va_S.rf
  intro H locs hP hS
  refine lv_iconst (v := 0) hx hb dX11_count_0 (by decide) ?_
  refine lv_istore_n (lv' := [(2, .int 0), (0, .ref (a 0)), (1, .int x1)]) hx hb dX11_count_1 rfl hl (by decide) rfl (fun ls hl => ?_)
  refine lv_iconst (v := 0) hx hb dX11_count_2 (by decide) ?_
  refine lv_istore_n (lv' := [(3, .int 0), (2, .int 0), (0, .ref (a 0)), (1, .int x1)]) hx hb dX11_count_3 rfl hl (by decide) rfl (fun ls hl => ?_)
  refine lv_iconst (v := 0) hx hb dX11_count_4 (by decide) ?_
  refine lv_istore (lv' := [(4, .int 0), (3, .int 0), (2, .int 0), (0, .ref (a 0)), (1, .int x1)]) hx hb dX11_count_5 hl (by decide) rfl (fun ls hl => ?_)
  refine lv_iconst (v := 0) hx hb dX11_count_7 (by decide) ?_
  refine lv_istore (lv' := [(5, .int 0), (4, .int 0), (3, .int 0), (2, .int 0), (0, .ref (a 0)), (1, .int x1)]) hx hb dX11_count_8 hl (by decide) rfl (fun ls hl => ?_)
  obtain ⟨z_9, hz_10, h⟩ := nx_bd h
  refine L10 _ _ _ N _ _ _ hz_10 H locs ls hP hS (lv_sub hl [4, 5, 3, 2, 1, 0] rfl) (fun H locs ls hP hS hl => ?_)
  refine lv_iconst (v := 0) hx hb dX11_count_34 (by decide) ?_
  refine lv_istore (lv' := [(5, .int 0), (0, .ref (a 0)), (1, .int x1), (2, .int z_9), (3, .int 0), (4, .int 0)]) hx hb dX11_count_35 hl (by decide) rfl (fun ls hl => ?_)
  obtain ⟨z_11, hz_12, h⟩ := nx_bd h
  refine L37 _ _ _ N _ _ _ hz_12 H locs ls hP hS (lv_sub hl [1, 2, 3, 4, 5, 0] rfl) (fun H locs ls hP hS hl => ?_)
  refine lv_iconst (v := 0) hx hb dX11_count_70 (by decide) ?_
  refine lv_istore (lv' := [(5, .int 0), (0, .ref (a 0)), (1, .int x1), (2, .int z_9), (3, .int z_11), (4, .int 0)]) hx hb dX11_count_71 hl (by decide) rfl (fun ls hl => ?_)
  obtain ⟨z_13, hz_14, h⟩ := nx_bd h
  refine L73 _ _ _ N _ _ _ hz_14 H locs ls hP hS (lv_sub hl [1, 2, 3, 4, 5, 0] rfl) (fun H locs ls hP hS hl => ?_)
  refine lv_iload_n hx hb dX11_count_113 rfl (lv_at hl 1 rfl) ?_
  by_cases hc0 : x1 = 0
  · have h := nx_it h hc0
    refine lv_tableIn (off := 38) (tgt := 152) hx hb dX11_count_114 (by rw [hc0]; decide) (by rw [hc0]; decide) (by rw [hc0]; decide) (by decide) ?_
    refine lv_aload_n hx hb dX11_count_152 rfl (lv_at hl 0 rfl) ?_
    obtain ⟨r_16, hc_15, h⟩ := nx_bd h
    refine nx_ki (nx_runV (As := []) (rest := []) X hS hP (c_X11_cells l E H.size a wide tall groups tours tourLength rowMany cameBy top east south rolled off kind mark rolls many onward at_ goes firstTour rowWay rowSeen prints homeward _ hc_15) nx_FA qV_RX11_100 ⟨rfl, rfl⟩ ⟨Nat.le_of_ble_eq_true rfl, Nat.le_of_ble_eq_true rfl⟩ ⟨Nat.zero_le _, Nat.zero_le _⟩ 0 rfl rfl rfl rfl hl.1 (Nat.le_of_ble_eq_true rfl) dX11_count_153) hS nx_FA (fun H locs hP hS => ?_)
    exact kr 156 ls r_16 () H locs dX11_count_156 (Option.some.inj h) hP hS
  have h := nx_if h hc0
  by_cases hc1 : x1 = 1
  · have h := nx_it h hc1
    refine lv_tableIn (off := 43) (tgt := 157) hx hb dX11_count_114 (by rw [hc1]; decide) (by rw [hc1]; decide) (by rw [hc1]; decide) (by decide) ?_
    refine lv_aload_n hx hb dX11_count_157 rfl (lv_at hl 0 rfl) ?_
    refine lv_aload_n hx hb dX11_count_158 rfl (lv_at hl 0 rfl) ?_
    refine nx_gf X hP uw_X11 (ci := 10) rfl 0 rfl 9 (by decide) wf_RX11_108 rfl dX11_count_159 ?_
    obtain ⟨r_18, hc_17, h⟩ := nx_bd h
    refine nx_ki (nx_runV (As := [.int groups]) (rest := []) X hS hP (c_X11_openCells l N E H.size a wide tall groups tours tourLength rowMany cameBy top east south rolled off kind mark rolls many onward at_ goes firstTour rowWay rowSeen prints homeward groups _ hc_17) nx_FA qV_RX11_156 ⟨rfl, rfl⟩ ⟨Nat.le_of_ble_eq_true rfl, Nat.le_of_ble_eq_true rfl⟩ ⟨Nat.zero_le _, Nat.zero_le _⟩ 0 rfl rfl rfl rfl hl.1 (Nat.le_of_ble_eq_true rfl) dX11_count_162) hS nx_FA (fun H locs hP hS => ?_)
    exact kr 165 ls r_18 () H locs dX11_count_165 (Option.some.inj h) hP hS
  have h := nx_if h hc1
  by_cases hc2 : x1 = 2
  · have h := nx_it h hc2
    refine lv_tableIn (off := 52) (tgt := 166) hx hb dX11_count_114 (by rw [hc2]; decide) (by rw [hc2]; decide) (by rw [hc2]; decide) (by decide) ?_
    refine lv_iload_n hx hb dX11_count_166 rfl (lv_at hl 2 rfl) ?_
    exact kr 167 ls z_9 () H locs dX11_count_167 (Option.some.inj h) hP hS
  have h := nx_if h hc2
  by_cases hc3 : x1 = 3
  · have h := nx_it h hc3
    refine lv_tableIn (off := 54) (tgt := 168) hx hb dX11_count_114 (by rw [hc3]; decide) (by rw [hc3]; decide) (by rw [hc3]; decide) (by decide) ?_
    refine lv_aload_n hx hb dX11_count_168 rfl (lv_at hl 0 rfl) ?_
    refine nx_gf X hP uw_X11 (ci := 10) rfl 0 rfl 18 (by decide) wf_RX11_175 rfl dX11_count_169 ?_
    exact kr 172 ls rowMany () H locs dX11_count_172 (Option.some.inj h) hP hS
  have h := nx_if h hc3
  by_cases hc4 : x1 = 4
  · have h := nx_it h hc4
    refine lv_tableIn (off := 59) (tgt := 173) hx hb dX11_count_114 (by rw [hc4]; decide) (by rw [hc4]; decide) (by rw [hc4]; decide) (by decide) ?_
    refine lv_iload_n hx hb dX11_count_173 rfl (lv_at hl 3 rfl) ?_
    exact kr 174 ls z_11 () H locs dX11_count_174 (Option.some.inj h) hP hS
  have h := nx_if h hc4
  by_cases hc5 : x1 = 5
  · have h := nx_it h hc5
    refine lv_tableIn (off := 61) (tgt := 175) hx hb dX11_count_114 (by rw [hc5]; decide) (by rw [hc5]; decide) (by rw [hc5]; decide) (by decide) ?_
    refine lv_iload hx hb dX11_count_175 (lv_at hl 4 rfl) ?_
    exact kr 177 ls z_13 () H locs dX11_count_177 (Option.some.inj h) hP hS
  have h := nx_if h hc5
  refine lv_tableOut (tgt := 178) hx hb dX11_count_114 (nx_sw6 hc0 hc1 hc2 hc3 hc4 hc5) (by decide) ?_
  refine lv_bipush (v := (-2)) hx hb dX11_count_178 (by decide) ?_
  exact kr 180 ls (-2) () H locs dX11_count_180 (Option.some.inj h) hP hS
