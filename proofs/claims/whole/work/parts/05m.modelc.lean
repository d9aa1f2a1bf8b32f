def f_X11_group_j49 (x3 : Int32) (s0 : Int32) (groups : Int32) : Option (Int32 × (Int32)) :=
  some (x3, s0)
def f_X11_group (x1 : Int32) (x2 : Int32) (groups : Int32) : Option (Int32 × (Int32)) :=
  (f_X11_in ((x1 : Int32).toInt64) 0 2).bind fun r_2 => if r_2 = 0 then (some ((-1), groups)) else (if x2 = 0 then (f_X11_group_j49 ((groups >>> (x1 &&& 31)) &&& 1) (groups &&& ((1 <<< (x1 &&& 31)) ^^^ (-1))) groups) else (f_X11_group_j49 ((groups >>> (x1 &&& 31)) &&& 1) (groups ||| (1 <<< (x1 &&& 31))) groups))
set_option maxHeartbeats 4000000 in
set_option maxRecDepth 100000 in
theorem c_X11_group (l : Launch) (E : nx_E) (sz : Nat) (a : Nat → Nat) (wide : Int32) (tall : Int32) (groups : Int32) (tours : Int32) (tourLength : Int32) (rowMany : Int32) (cameBy : Int32) (top : Nat → Int32) (east : Nat → Int32) (south : Nat → Int32) (rolled : Nat → Int32) (off : Nat → Int32) (kind : Nat → Int32) (mark : Nat → Int32) (rolls : Nat → Int32) (many : Nat → Int64) (onward : Nat → Int32) (at_ : Nat → Int32) (goes : Nat → Int32) (firstTour : Nat → Int32) (rowWay : Nat → Int32) (rowSeen : Nat → Int32) (prints : Nat → Int32) (homeward : Nat → Int32) (x1 : Int32) (x2 : Int32) (hI : nx_inj a 18) (o : Int32 × (Int32)) (h : f_X11_group x1 x2 groups = some o) : Met l yX11_group (.code yX11_group cX11_group 4 (some .int) :: nx_T) (nx_rm 1 25) (va_Pc [.ref (a 0), .int x1, .int x2] (nx_P E (nx_A a 18 sz) sz (mW E a wide tall groups tours tourLength rowMany cameBy top east south rolled off kind mark rolls many onward at_ goes firstTour rowWay rowSeen prints homeward))) (va_Qi (fun v u => (v, u) = o) (fun u t => va_P E.1 vwCl (mW E a wide tall u tours tourLength rowMany cameBy top east south rolled off kind mark rolls many onward at_ goes firstTour rowWay rowSeen prints homeward) t.heap) (nx_A a 18 sz)) 0 0 (nx_A a 18 sz) := by
  refine nx_enI (fun v u => (v, u) = o) (fun (u : Int32) => (mW E a wide tall u tours tourLength rowMany cameBy top east south rolled off kind mark rolls many onward at_ goes firstTour rowWay rowSeen prints homeward)) (by decide) (Nat.le_of_ble_eq_true rfl) ?_
  intro p e s m below meth c Q X kr hsz hP ls hl
  subst hsz
  generalize hargs : (List.toArray [.ref (a 0), .int x1, .int x2] : Array Value) = args at X kr ⊢
  clear hargs
  obtain ⟨⟨hx, hb, hml, hown, hts⟩, hK, hSt, hNz⟩ := id X
  have hS : va_S (nx_A a 18 s.heap.size) s.heap s.heap [] := va_S.rf
  have hl : lv_has ls 4 [(0, .ref (a 0)), (1, .int x1), (2, .int x2)] := hl
  have J49 : ∀ (x3 : Int32) (s0 : Int32) (groups : Int32), f_X11_group_j49 x3 s0 groups = some o → ∀ (H : Heap) (locs : List Loc) (ls : Array Slot), va_P E.1 vwCl (mW E a wide tall groups tours tourLength rowMany cameBy top east south rolled off kind mark rolls many onward at_ goes firstTour rowWay rowSeen prints homeward) H → va_S (nx_A a 18 s.heap.size) s.heap H locs → lv_has ls 4 [(0, .ref (a 0)), (3, .int x3)] → W p l e (nx_rm 1 25) s m args below meth c H locs 0 0 Q (F0 m 49 ls [.int s0, .ref (a 0)]) := by
    intro x3 s0 groups h H locs ls hP hS hl
    unfold f_X11_group_j49 at h
    refine nx_pf (ty := .int) (v := .int s0) X hI mW_ad hP hS uw_X11 tyX11 tyX11_ok nmX11 (ci := 10) rfl 0 rfl 9 (by decide) wf_RX11_108 rfl (by decide +kernel) rfl rfl (Nat.le_of_ble_eq_true rfl) dX11_group_49 (fun H locs hP hS => ?_)
    have hP : va_P E.1 vwCl (mW E a wide tall s0 tours tourLength rowMany cameBy top east south rolled off kind mark rolls many onward at_ goes firstTour rowWay rowSeen prints homeward) H := hP
    refine lv_iload_n hx hb dX11_group_52 rfl (lv_at hl 1 rfl) ?_
    exact kr 53 ls x3 s0 H locs dX11_group_53 (Option.some.inj h) hP hS
  unfold f_X11_group at h
  suffices hw : ∀ (H : Heap) (locs : List Loc), va_P E.1 vwCl (mW E a wide tall groups tours tourLength rowMany cameBy top east south rolled off kind mark rolls many onward at_ goes firstTour rowWay rowSeen prints homeward) H → va_S (nx_A a 18 s.heap.size) s.heap H locs → W p l e (nx_rm 1 25) s m args below meth c H locs 0 0 Q (F0 m 0 ls []) from hw _ _ hP va_S.rf
  intro H locs hP hS
  refine lv_iload_n hx hb dX11_group_0 rfl (lv_at hl 1 rfl) ?_
  refine lv_i2l (v := (x1 : Int32).toInt64) hx hb dX11_group_1 rfl ?_
  refine lv_lconst (v := 0) hx hb dX11_group_2 (by decide) ?_
  refine lv_ldc2 hx hb hown (hts _ wl_RX11_104) dX11_group_3 ?_
  obtain ⟨r_2, hc_1, h⟩ := nx_bd h
  refine nx_ki (nx_runS (As := [.long ((x1 : Int32).toInt64), .long 0, .long 2]) (rest := []) X hS hP (c_X11_in l E H.size a wide tall groups tours tourLength rowMany cameBy top east south rolled off kind mark rolls many onward at_ goes firstTour rowWay rowSeen prints homeward ((x1 : Int32).toInt64) 0 2 _ hc_1) nx_FA qS_RX11_84 ⟨rfl, rfl⟩ ⟨Nat.le_of_ble_eq_true rfl, Nat.le_of_ble_eq_true rfl⟩ ⟨Nat.zero_le _, Nat.zero_le _⟩ rfl rfl hl.1 (Nat.le_of_ble_eq_true rfl) dX11_group_6) hS nx_FA (fun H locs hP hS => ?_)
  refine lv_if_ne (tgt := 14) hx hb dX11_group_9 (by decide) (fun hc => ?_) (fun hc => ?_)
  · have h := nx_if h hc
    refine lv_aload_n hx hb dX11_group_14 rfl (lv_at hl 0 rfl) ?_
    refine nx_gf X hP uw_X11 (ci := 10) rfl 0 rfl 9 (by decide) wf_RX11_108 rfl dX11_group_15 ?_
    refine lv_iload_n hx hb dX11_group_18 rfl (lv_at hl 1 rfl) ?_
    refine lv_ishr hx hb dX11_group_19 ?_
    refine lv_iconst (v := 1) hx hb dX11_group_20 (by decide) ?_
    refine lv_iand hx hb dX11_group_21 ?_
    refine lv_istore_n (lv' := [(3, .int ((groups >>> (x1 &&& 31)) &&& 1)), (0, .ref (a 0)), (1, .int x1), (2, .int x2)]) hx hb dX11_group_22 rfl hl (by decide) rfl (fun ls hl => ?_)
    refine lv_aload_n hx hb dX11_group_23 rfl (lv_at hl 1 rfl) ?_
    refine lv_iload_n hx hb dX11_group_24 rfl (lv_at hl 3 rfl) ?_
    refine lv_if_eq (tgt := 39) hx hb dX11_group_25 (by decide) (fun hc => ?_) (fun hc => ?_)
    · have h := nx_it h hc
      refine lv_aload_n hx hb dX11_group_39 rfl (lv_at hl 1 rfl) ?_
      refine nx_gf X hP uw_X11 (ci := 10) rfl 0 rfl 9 (by decide) wf_RX11_108 rfl dX11_group_40 ?_
      refine lv_iconst (v := 1) hx hb dX11_group_43 (by decide) ?_
      refine lv_iload_n hx hb dX11_group_44 rfl (lv_at hl 2 rfl) ?_
      refine lv_ishl hx hb dX11_group_45 ?_
      refine lv_iconst (v := (-1)) hx hb dX11_group_46 (by decide) ?_
      refine lv_ixor hx hb dX11_group_47 ?_
      refine lv_iand hx hb dX11_group_48 ?_
      exact J49 _ _ _ h H locs ls hP hS (lv_sub hl [1, 0] rfl)
    · have h := nx_if h hc
      refine lv_aload_n hx hb dX11_group_28 rfl (lv_at hl 1 rfl) ?_
      refine nx_gf X hP uw_X11 (ci := 10) rfl 0 rfl 9 (by decide) wf_RX11_108 rfl dX11_group_29 ?_
      refine lv_iconst (v := 1) hx hb dX11_group_32 (by decide) ?_
      refine lv_iload_n hx hb dX11_group_33 rfl (lv_at hl 2 rfl) ?_
      refine lv_ishl hx hb dX11_group_34 ?_
      refine lv_ior hx hb dX11_group_35 ?_
      refine lv_goto (tgt := 49) hx hb dX11_group_36 (by decide) ?_
      exact J49 _ _ _ h H locs ls hP hS (lv_sub hl [1, 0] rfl)
  · have h := nx_it h hc
    refine lv_iconst (v := (-1)) hx hb dX11_group_12 (by decide) ?_
    exact kr 13 ls (-1) groups H locs dX11_group_13 (Option.some.inj h) hP hS
def f_X11_isOpen (x1 : Int32) (x2 : Int32) (kind : Nat → Int32) : Option (Int32) :=
  (nx_rd kind 25 x1).bind fun _ => if (kind x1.toNatClampNeg) = 1 then (some 0) else ((nx_rd kind 25 x1).bind fun _ => if (kind x1.toNatClampNeg) < 6 then (some 1) else ((nx_rd kind 25 x1).bind fun _ => if ((x2 >>> (((kind x1.toNatClampNeg) - 6) &&& 31)) &&& 1) = 1 then (some 1) else (some 0)))
set_option maxHeartbeats 4000000 in
set_option maxRecDepth 100000 in
theorem c_X11_isOpen (l : Launch) (E : nx_E) (sz : Nat) (a : Nat → Nat) (wide : Int32) (tall : Int32) (groups : Int32) (tours : Int32) (tourLength : Int32) (rowMany : Int32) (cameBy : Int32) (top : Nat → Int32) (east : Nat → Int32) (south : Nat → Int32) (rolled : Nat → Int32) (off : Nat → Int32) (kind : Nat → Int32) (mark : Nat → Int32) (rolls : Nat → Int32) (many : Nat → Int64) (onward : Nat → Int32) (at_ : Nat → Int32) (goes : Nat → Int32) (firstTour : Nat → Int32) (rowWay : Nat → Int32) (rowSeen : Nat → Int32) (prints : Nat → Int32) (homeward : Nat → Int32) (x1 : Int32) (x2 : Int32) (o : Int32) (h : f_X11_isOpen x1 x2 kind = some o) : Met l yX11_isOpen (.code yX11_isOpen cX11_isOpen 3 (some .boolean) :: nx_T) (nx_rm 0 0) (va_Pc [.ref (a 0), .int x1, .int x2] (nx_P E (nx_F) sz (mW E a wide tall groups tours tourLength rowMany cameBy top east south rolled off kind mark rolls many onward at_ goes firstTour rowWay rowSeen prints homeward))) (va_Qi (fun v (_ : Unit) => v = o) (fun _ t => va_P E.1 vwCl (mW E a wide tall groups tours tourLength rowMany cameBy top east south rolled off kind mark rolls many onward at_ goes firstTour rowWay rowSeen prints homeward) t.heap) (nx_F)) 0 0 (nx_F) := by
  refine nx_enZ (fun v (_ : Unit) => v = o) (fun (_ : Unit) => (mW E a wide tall groups tours tourLength rowMany cameBy top east south rolled off kind mark rolls many onward at_ goes firstTour rowWay rowSeen prints homeward)) (by decide) (Nat.le_of_ble_eq_true rfl) ?_
  intro p e s m below meth c Q X kr hsz hP ls hl
  subst hsz
  generalize hargs : (List.toArray [.ref (a 0), .int x1, .int x2] : Array Value) = args at X kr ⊢
  clear hargs
  obtain ⟨⟨hx, hb, hml, hown, hts⟩, hK, hSt, hNz⟩ := id X
  have hS : va_S (nx_F) s.heap s.heap [] := va_S.rf
  have hl : lv_has ls 3 [(0, .ref (a 0)), (1, .int x1), (2, .int x2)] := hl
  unfold f_X11_isOpen at h
  suffices hw : ∀ (H : Heap) (locs : List Loc), va_P E.1 vwCl (mW E a wide tall groups tours tourLength rowMany cameBy top east south rolled off kind mark rolls many onward at_ goes firstTour rowWay rowSeen prints homeward) H → va_S (nx_F) s.heap H locs → W p l e (nx_rm 0 0) s m args below meth c H locs 0 0 Q (F0 m 0 ls []) from hw _ _ hP va_S.rf
  intro H locs hP hS
  refine lv_aload_n hx hb dX11_isOpen_0 rfl (lv_at hl 0 rfl) ?_
  refine nx_gf X hP uw_X11 (ci := 10) rfl 0 rfl 7 (by decide) wf_RX11_32 rfl dX11_isOpen_1 ?_
  refine lv_iload_n hx hb dX11_isOpen_4 rfl (lv_at hl 1 rfl) ?_
  obtain ⟨hv_1, h⟩ := nx_rb h
  refine nx_ld X hP 6 rfl hv_1 dX11_isOpen_5 ?_
  refine lv_iconst (v := 1) hx hb dX11_isOpen_6 (by decide) ?_
  refine lv_icmp_eq (tgt := 42) hx hb dX11_isOpen_7 (by decide) (fun hc => ?_) (fun hc => ?_)
  · have h := nx_it h hc
    refine lv_iconst (v := 0) hx hb dX11_isOpen_42 (by decide) ?_
    exact kr 43 ls 0 () H locs dX11_isOpen_43 (Or.inl rfl) (Option.some.inj h) hP hS
  · have h := nx_if h hc
    refine lv_aload_n hx hb dX11_isOpen_10 rfl (lv_at hl 0 rfl) ?_
    refine nx_gf X hP uw_X11 (ci := 10) rfl 0 rfl 7 (by decide) wf_RX11_32 rfl dX11_isOpen_11 ?_
    refine lv_iload_n hx hb dX11_isOpen_14 rfl (lv_at hl 1 rfl) ?_
    obtain ⟨hv_3, h⟩ := nx_rb h
    refine nx_ld X hP 6 rfl hv_3 dX11_isOpen_15 ?_
    refine lv_bipush (v := 6) hx hb dX11_isOpen_16 (by decide) ?_
    refine lv_icmp_lt (tgt := 38) hx hb dX11_isOpen_18 (by decide) (fun hc => ?_) (fun hc => ?_)
    · have h := nx_it h hc
      refine lv_iconst (v := 1) hx hb dX11_isOpen_38 (by decide) ?_
      refine lv_goto (tgt := 43) hx hb dX11_isOpen_39 (by decide) ?_
      exact kr 43 ls 1 () H locs dX11_isOpen_43 (Or.inr rfl) (Option.some.inj h) hP hS
    · have h := nx_if h hc
      refine lv_iload_n hx hb dX11_isOpen_21 rfl (lv_at hl 2 rfl) ?_
      refine lv_aload_n hx hb dX11_isOpen_22 rfl (lv_at hl 0 rfl) ?_
      refine nx_gf X hP uw_X11 (ci := 10) rfl 0 rfl 7 (by decide) wf_RX11_32 rfl dX11_isOpen_23 ?_
      refine lv_iload_n hx hb dX11_isOpen_26 rfl (lv_at hl 1 rfl) ?_
      obtain ⟨hv_5, h⟩ := nx_rb h
      refine nx_ld X hP 6 rfl hv_5 dX11_isOpen_27 ?_
      refine lv_bipush (v := 6) hx hb dX11_isOpen_28 (by decide) ?_
      refine lv_isub hx hb dX11_isOpen_30 ?_
      refine lv_ishr hx hb dX11_isOpen_31 ?_
      refine lv_iconst (v := 1) hx hb dX11_isOpen_32 (by decide) ?_
      refine lv_iand hx hb dX11_isOpen_33 ?_
      refine lv_iconst (v := 1) hx hb dX11_isOpen_34 (by decide) ?_
      refine lv_icmp_ne (tgt := 42) hx hb dX11_isOpen_35 (by decide) (fun hc => ?_) (fun hc => ?_)
      · have h := nx_if h hc
        refine lv_iconst (v := 0) hx hb dX11_isOpen_42 (by decide) ?_
        exact kr 43 ls 0 () H locs dX11_isOpen_43 (Or.inl rfl) (Option.some.inj h) hP hS
      · have h := nx_it h hc
        refine lv_iconst (v := 1) hx hb dX11_isOpen_38 (by decide) ?_
        refine lv_goto (tgt := 43) hx hb dX11_isOpen_39 (by decide) ?_
        exact kr 43 ls 1 () H locs dX11_isOpen_43 (Or.inr rfl) (Option.some.inj h) hP hS
def f_X11_open (x1 : Int32) (wide : Int32) (tall : Int32) (groups : Int32) (kind : Nat → Int32) : Option (Int32) :=
  (f_X11_isCell x1 wide tall).bind fun r_2 => if r_2 = 0 then (some (-1)) else ((f_X11_isOpen x1 groups kind).bind fun r_4 => if r_4 = 0 then (some 0) else (some 1))
set_option maxHeartbeats 4000000 in
set_option maxRecDepth 100000 in
theorem c_X11_open (l : Launch) (E : nx_E) (sz : Nat) (a : Nat → Nat) (wide : Int32) (tall : Int32) (groups : Int32) (tours : Int32) (tourLength : Int32) (rowMany : Int32) (cameBy : Int32) (top : Nat → Int32) (east : Nat → Int32) (south : Nat → Int32) (rolled : Nat → Int32) (off : Nat → Int32) (kind : Nat → Int32) (mark : Nat → Int32) (rolls : Nat → Int32) (many : Nat → Int64) (onward : Nat → Int32) (at_ : Nat → Int32) (goes : Nat → Int32) (firstTour : Nat → Int32) (rowWay : Nat → Int32) (rowSeen : Nat → Int32) (prints : Nat → Int32) (homeward : Nat → Int32) (x1 : Int32) (o : Int32) (h : f_X11_open x1 wide tall groups kind = some o) : Met l yX11_open (.code yX11_open cX11_open 2 (some .int) :: nx_T) (nx_rm 2 46) (va_Pc [.ref (a 0), .int x1] (nx_P E (nx_F) sz (mW E a wide tall groups tours tourLength rowMany cameBy top east south rolled off kind mark rolls many onward at_ goes firstTour rowWay rowSeen prints homeward))) (va_Qi (fun v (_ : Unit) => v = o) (fun _ t => va_P E.1 vwCl (mW E a wide tall groups tours tourLength rowMany cameBy top east south rolled off kind mark rolls many onward at_ goes firstTour rowWay rowSeen prints homeward) t.heap) (nx_F)) 0 0 (nx_F) := by
  refine nx_enI (fun v (_ : Unit) => v = o) (fun (_ : Unit) => (mW E a wide tall groups tours tourLength rowMany cameBy top east south rolled off kind mark rolls many onward at_ goes firstTour rowWay rowSeen prints homeward)) (by decide) (Nat.le_of_ble_eq_true rfl) ?_
  intro p e s m below meth c Q X kr hsz hP ls hl
  subst hsz
  generalize hargs : (List.toArray [.ref (a 0), .int x1] : Array Value) = args at X kr ⊢
  clear hargs
  obtain ⟨⟨hx, hb, hml, hown, hts⟩, hK, hSt, hNz⟩ := id X
  have hS : va_S (nx_F) s.heap s.heap [] := va_S.rf
  have hl : lv_has ls 2 [(0, .ref (a 0)), (1, .int x1)] := hl
  unfold f_X11_open at h
  suffices hw : ∀ (H : Heap) (locs : List Loc), va_P E.1 vwCl (mW E a wide tall groups tours tourLength rowMany cameBy top east south rolled off kind mark rolls many onward at_ goes firstTour rowWay rowSeen prints homeward) H → va_S (nx_F) s.heap H locs → W p l e (nx_rm 2 46) s m args below meth c H locs 0 0 Q (F0 m 0 ls []) from hw _ _ hP va_S.rf
  intro H locs hP hS
  refine lv_aload_n hx hb dX11_open_0 rfl (lv_at hl 0 rfl) ?_
  refine lv_iload_n hx hb dX11_open_1 rfl (lv_at hl 1 rfl) ?_
  obtain ⟨r_2, hc_1, h⟩ := nx_bd h
  refine nx_ki (nx_runV (As := [.int x1]) (rest := []) X hS hP (c_X11_isCell l E H.size a wide tall groups tours tourLength rowMany cameBy top east south rolled off kind mark rolls many onward at_ goes firstTour rowWay rowSeen prints homeward x1 _ hc_1) nx_FA qV_RX11_111 ⟨rfl, rfl⟩ ⟨Nat.le_of_ble_eq_true rfl, Nat.le_of_ble_eq_true rfl⟩ ⟨Nat.zero_le _, Nat.zero_le _⟩ 0 rfl rfl rfl rfl hl.1 (Nat.le_of_ble_eq_true rfl) dX11_open_2) hS nx_FA (fun H locs hP hS => ?_)
  refine lv_if_ne (tgt := 12) hx hb dX11_open_5 (by decide) (fun hc => ?_) (fun hc => ?_)
  · have h := nx_if h hc
    refine lv_aload_n hx hb dX11_open_12 rfl (lv_at hl 0 rfl) ?_
    refine lv_iload_n hx hb dX11_open_13 rfl (lv_at hl 1 rfl) ?_
    refine lv_aload_n hx hb dX11_open_14 rfl (lv_at hl 0 rfl) ?_
    refine nx_gf X hP uw_X11 (ci := 10) rfl 0 rfl 9 (by decide) wf_RX11_108 rfl dX11_open_15 ?_
    obtain ⟨r_4, hc_3, h⟩ := nx_bd h
    refine nx_ki (nx_runV (As := [.int x1, .int groups]) (rest := []) X hS hP (c_X11_isOpen l E H.size a wide tall groups tours tourLength rowMany cameBy top east south rolled off kind mark rolls many onward at_ goes firstTour rowWay rowSeen prints homeward x1 groups _ hc_3) nx_FA qV_RX11_116 ⟨rfl, rfl⟩ ⟨Nat.le_of_ble_eq_true rfl, Nat.le_of_ble_eq_true rfl⟩ ⟨Nat.zero_le _, Nat.zero_le _⟩ 0 rfl rfl rfl rfl hl.1 (Nat.le_of_ble_eq_true rfl) dX11_open_18) hS nx_FA (fun H locs hP hS => ?_)
    refine lv_if_eq (tgt := 28) hx hb dX11_open_21 (by decide) (fun hc => ?_) (fun hc => ?_)
    · have h := nx_it h hc
      refine lv_iconst (v := 0) hx hb dX11_open_28 (by decide) ?_
      exact kr 29 ls 0 () H locs dX11_open_29 (Option.some.inj h) hP hS
    · have h := nx_if h hc
      refine lv_iconst (v := 1) hx hb dX11_open_24 (by decide) ?_
      refine lv_goto (tgt := 29) hx hb dX11_open_25 (by decide) ?_
      exact kr 29 ls 1 () H locs dX11_open_29 (Option.some.inj h) hP hS
  · have h := nx_it h hc
    refine lv_iconst (v := (-1)) hx hb dX11_open_8 (by decide) ?_
    refine lv_goto (tgt := 29) hx hb dX11_open_9 (by decide) ?_
    exact kr 29 ls (-1) () H locs dX11_open_29 (Option.some.inj h) hP hS
def f_X11_beside_j51 (x3 : Int32) (s0 : Int32) (s1 : Int32) (wide : Int32) (tall : Int32) : Option (Int32) :=
  (f_X11_in ((x3 : Int32).toInt64) 0 (((wide - 1) : Int32).toInt64)).bind fun r_2 => if r_2 = 0 then (some (-9)) else ((f_X11_in (((s1 + s0) : Int32).toInt64) 0 (((tall - 1) : Int32).toInt64)).bind fun r_4 => if r_4 = 0 then (some (-9)) else (some (((s1 + s0) * wide) + x3)))
def f_X11_beside_j24 (x1 : Int32) (x2 : Int32) (s0 : Int32) (s1 : Int32) (wide : Int32) (tall : Int32) : Option (Int32) :=
  if wide = 0 then none else if x2 = 1 then (f_X11_beside_j51 (s1 + s0) 1 (x1 / wide) wide tall) else (if x2 = 3 then (f_X11_beside_j51 (s1 + s0) (-1) (x1 / wide) wide tall) else (f_X11_beside_j51 (s1 + s0) 0 (x1 / wide) wide tall))
def f_X11_beside (x1 : Int32) (x2 : Int32) (wide : Int32) (tall : Int32) : Option (Int32) :=
  if wide = 0 then none else if x2 = 0 then (f_X11_beside_j24 x1 x2 1 (x1 - x1 / wide * wide) wide tall) else (if x2 = 2 then (f_X11_beside_j24 x1 x2 (-1) (x1 - x1 / wide * wide) wide tall) else (f_X11_beside_j24 x1 x2 0 (x1 - x1 / wide * wide) wide tall))
set_option maxHeartbeats 4000000 in
set_option maxRecDepth 100000 in
theorem c_X11_beside (l : Launch) (E : nx_E) (sz : Nat) (a : Nat → Nat) (wide : Int32) (tall : Int32) (groups : Int32) (tours : Int32) (tourLength : Int32) (rowMany : Int32) (cameBy : Int32) (top : Nat → Int32) (east : Nat → Int32) (south : Nat → Int32) (rolled : Nat → Int32) (off : Nat → Int32) (kind : Nat → Int32) (mark : Nat → Int32) (rolls : Nat → Int32) (many : Nat → Int64) (onward : Nat → Int32) (at_ : Nat → Int32) (goes : Nat → Int32) (firstTour : Nat → Int32) (rowWay : Nat → Int32) (rowSeen : Nat → Int32) (prints : Nat → Int32) (homeward : Nat → Int32) (x1 : Int32) (x2 : Int32) (o : Int32) (h : f_X11_beside x1 x2 wide tall = some o) : Met l yX11_beside (.code yX11_beside cX11_beside 5 (some .int) :: nx_T) (nx_rm 1 25) (va_Pc [.ref (a 0), .int x1, .int x2] (nx_P E (nx_F) sz (mW E a wide tall groups tours tourLength rowMany cameBy top east south rolled off kind mark rolls many onward at_ goes firstTour rowWay rowSeen prints homeward))) (va_Qi (fun v (_ : Unit) => v = o) (fun _ t => va_P E.1 vwCl (mW E a wide tall groups tours tourLength rowMany cameBy top east south rolled off kind mark rolls many onward at_ goes firstTour rowWay rowSeen prints homeward) t.heap) (nx_F)) 0 0 (nx_F) := by
  refine nx_enI (fun v (_ : Unit) => v = o) (fun (_ : Unit) => (mW E a wide tall groups tours tourLength rowMany cameBy top east south rolled off kind mark rolls many onward at_ goes firstTour rowWay rowSeen prints homeward)) (by decide) (Nat.le_of_ble_eq_true rfl) ?_
  intro p e s m below meth c Q X kr hsz hP ls hl
  subst hsz
  generalize hargs : (List.toArray [.ref (a 0), .int x1, .int x2] : Array Value) = args at X kr ⊢
  clear hargs
  obtain ⟨⟨hx, hb, hml, hown, hts⟩, hK, hSt, hNz⟩ := id X
  have hS : va_S (nx_F) s.heap s.heap [] := va_S.rf
  have hl : lv_has ls 5 [(0, .ref (a 0)), (1, .int x1), (2, .int x2)] := hl
  have J51 : ∀ (x3 : Int32) (s0 : Int32) (s1 : Int32), f_X11_beside_j51 x3 s0 s1 wide tall = some o → ∀ (H : Heap) (locs : List Loc) (ls : Array Slot), va_P E.1 vwCl (mW E a wide tall groups tours tourLength rowMany cameBy top east south rolled off kind mark rolls many onward at_ goes firstTour rowWay rowSeen prints homeward) H → va_S (nx_F) s.heap H locs → lv_has ls 5 [(0, .ref (a 0)), (3, .int x3)] → W p l e (nx_rm 1 25) s m args below meth c H locs 0 0 Q (F0 m 51 ls [.int s0, .int s1]) := by
    intro x3 s0 s1 h H locs ls hP hS hl
    unfold f_X11_beside_j51 at h
    refine lv_iadd hx hb dX11_beside_51 ?_
    refine lv_istore (lv' := [(4, .int (s1 + s0)), (0, .ref (a 0)), (3, .int x3)]) hx hb dX11_beside_52 hl (by decide) rfl (fun ls hl => ?_)
    refine lv_iload_n hx hb dX11_beside_54 rfl (lv_at hl 2 rfl) ?_
    refine lv_i2l (v := (x3 : Int32).toInt64) hx hb dX11_beside_55 rfl ?_
    refine lv_lconst (v := 0) hx hb dX11_beside_56 (by decide) ?_
    refine lv_aload_n hx hb dX11_beside_57 rfl (lv_at hl 1 rfl) ?_
    refine nx_gf X hP uw_X11 (ci := 10) rfl 0 rfl 5 (by decide) wf_RX11_25 rfl dX11_beside_58 ?_
    refine lv_iconst (v := 1) hx hb dX11_beside_61 (by decide) ?_
    refine lv_isub hx hb dX11_beside_62 ?_
    refine lv_i2l (v := ((wide - 1) : Int32).toInt64) hx hb dX11_beside_63 rfl ?_
    obtain ⟨r_2, hc_1, h⟩ := nx_bd h
    refine nx_ki (nx_runS (As := [.long ((x3 : Int32).toInt64), .long 0, .long (((wide - 1) : Int32).toInt64)]) (rest := []) X hS hP (c_X11_in l E H.size a wide tall groups tours tourLength rowMany cameBy top east south rolled off kind mark rolls many onward at_ goes firstTour rowWay rowSeen prints homeward ((x3 : Int32).toInt64) 0 (((wide - 1) : Int32).toInt64) _ hc_1) nx_FA qS_RX11_84 ⟨rfl, rfl⟩ ⟨Nat.le_of_ble_eq_true rfl, Nat.le_of_ble_eq_true rfl⟩ ⟨Nat.zero_le _, Nat.zero_le _⟩ rfl rfl hl.1 (Nat.le_of_ble_eq_true rfl) dX11_beside_64) hS nx_FA (fun H locs hP hS => ?_)
    refine lv_if_eq (tgt := 99) hx hb dX11_beside_67 (by decide) (fun hc => ?_) (fun hc => ?_)
    · have h := nx_it h hc
      refine lv_bipush (v := (-9)) hx hb dX11_beside_99 (by decide) ?_
      exact kr 101 ls (-9) () H locs dX11_beside_101 (Option.some.inj h) hP hS
    · have h := nx_if h hc
      refine lv_iload hx hb dX11_beside_70 (lv_at hl 0 rfl) ?_
      refine lv_i2l (v := ((s1 + s0) : Int32).toInt64) hx hb dX11_beside_72 rfl ?_
      refine lv_lconst (v := 0) hx hb dX11_beside_73 (by decide) ?_
      refine lv_aload_n hx hb dX11_beside_74 rfl (lv_at hl 1 rfl) ?_
      refine nx_gf X hP uw_X11 (ci := 10) rfl 0 rfl 6 (by decide) wf_RX11_29 rfl dX11_beside_75 ?_
      refine lv_iconst (v := 1) hx hb dX11_beside_78 (by decide) ?_
      refine lv_isub hx hb dX11_beside_79 ?_
      refine lv_i2l (v := ((tall - 1) : Int32).toInt64) hx hb dX11_beside_80 rfl ?_
      obtain ⟨r_4, hc_3, h⟩ := nx_bd h
      refine nx_ki (nx_runS (As := [.long (((s1 + s0) : Int32).toInt64), .long 0, .long (((tall - 1) : Int32).toInt64)]) (rest := []) X hS hP (c_X11_in l E H.size a wide tall groups tours tourLength rowMany cameBy top east south rolled off kind mark rolls many onward at_ goes firstTour rowWay rowSeen prints homeward (((s1 + s0) : Int32).toInt64) 0 (((tall - 1) : Int32).toInt64) _ hc_3) nx_FA qS_RX11_84 ⟨rfl, rfl⟩ ⟨Nat.le_of_ble_eq_true rfl, Nat.le_of_ble_eq_true rfl⟩ ⟨Nat.zero_le _, Nat.zero_le _⟩ rfl rfl hl.1 (Nat.le_of_ble_eq_true rfl) dX11_beside_81) hS nx_FA (fun H locs hP hS => ?_)
      refine lv_if_eq (tgt := 99) hx hb dX11_beside_84 (by decide) (fun hc => ?_) (fun hc => ?_)
      · have h := nx_it h hc
        refine lv_bipush (v := (-9)) hx hb dX11_beside_99 (by decide) ?_
        exact kr 101 ls (-9) () H locs dX11_beside_101 (Option.some.inj h) hP hS
      · have h := nx_if h hc
        refine lv_iload hx hb dX11_beside_87 (lv_at hl 0 rfl) ?_
        refine lv_aload_n hx hb dX11_beside_89 rfl (lv_at hl 1 rfl) ?_
        refine nx_gf X hP uw_X11 (ci := 10) rfl 0 rfl 5 (by decide) wf_RX11_25 rfl dX11_beside_90 ?_
        refine lv_imul hx hb dX11_beside_93 ?_
        refine lv_iload_n hx hb dX11_beside_94 rfl (lv_at hl 2 rfl) ?_
        refine lv_iadd hx hb dX11_beside_95 ?_
        refine lv_goto (tgt := 101) hx hb dX11_beside_96 (by decide) ?_
        exact kr 101 ls (((s1 + s0) * wide) + x3) () H locs dX11_beside_101 (Option.some.inj h) hP hS
  have J24 : ∀ (x1 : Int32) (x2 : Int32) (s0 : Int32) (s1 : Int32), f_X11_beside_j24 x1 x2 s0 s1 wide tall = some o → ∀ (H : Heap) (locs : List Loc) (ls : Array Slot), va_P E.1 vwCl (mW E a wide tall groups tours tourLength rowMany cameBy top east south rolled off kind mark rolls many onward at_ goes firstTour rowWay rowSeen prints homeward) H → va_S (nx_F) s.heap H locs → lv_has ls 5 [(0, .ref (a 0)), (1, .int x1), (2, .int x2)] → W p l e (nx_rm 1 25) s m args below meth c H locs 0 0 Q (F0 m 24 ls [.int s0, .int s1]) := by
    intro x1 x2 s0 s1 h H locs ls hP hS hl
    unfold f_X11_beside_j24 at h
    refine lv_iadd hx hb dX11_beside_24 ?_
    refine lv_istore_n (lv' := [(3, .int (s1 + s0)), (0, .ref (a 0)), (1, .int x1), (2, .int x2)]) hx hb dX11_beside_25 rfl hl (by decide) rfl (fun ls hl => ?_)
    refine lv_iload_n hx hb dX11_beside_26 rfl (lv_at hl 2 rfl) ?_
    refine lv_aload_n hx hb dX11_beside_27 rfl (lv_at hl 1 rfl) ?_
    refine nx_gf X hP uw_X11 (ci := 10) rfl 0 rfl 5 (by decide) wf_RX11_25 rfl dX11_beside_28 ?_
    obtain ⟨hne, h⟩ := nx_nz h
    refine lv_idiv hx hb dX11_beside_31 hne ?_
    refine lv_iload_n hx hb dX11_beside_32 rfl (lv_at hl 3 rfl) ?_
    refine lv_iconst (v := 1) hx hb dX11_beside_33 (by decide) ?_
    refine lv_icmp_ne (tgt := 41) hx hb dX11_beside_34 (by decide) (fun hc => ?_) (fun hc => ?_)
    · have h := nx_if h hc
      refine lv_iload_n hx hb dX11_beside_41 rfl (lv_at hl 3 rfl) ?_
      refine lv_iconst (v := 3) hx hb dX11_beside_42 (by decide) ?_
      refine lv_icmp_ne (tgt := 50) hx hb dX11_beside_43 (by decide) (fun hc => ?_) (fun hc => ?_)
      · have h := nx_if h hc
        refine lv_iconst (v := 0) hx hb dX11_beside_50 (by decide) ?_
        exact J51 _ _ _ h H locs ls hP hS (lv_sub hl [1, 0] rfl)
      · have h := nx_it h hc
        refine lv_iconst (v := (-1)) hx hb dX11_beside_46 (by decide) ?_
        refine lv_goto (tgt := 51) hx hb dX11_beside_47 (by decide) ?_
        exact J51 _ _ _ h H locs ls hP hS (lv_sub hl [1, 0] rfl)
    · have h := nx_it h hc
      refine lv_iconst (v := 1) hx hb dX11_beside_37 (by decide) ?_
      refine lv_goto (tgt := 51) hx hb dX11_beside_38 (by decide) ?_
      exact J51 _ _ _ h H locs ls hP hS (lv_sub hl [1, 0] rfl)
  unfold f_X11_beside at h
  suffices hw : ∀ (H : Heap) (locs : List Loc), va_P E.1 vwCl (mW E a wide tall groups tours tourLength rowMany cameBy top east south rolled off kind mark rolls many onward at_ goes firstTour rowWay rowSeen prints homeward) H → va_S (nx_F) s.heap H locs → W p l e (nx_rm 1 25) s m args below meth c H locs 0 0 Q (F0 m 0 ls []) from hw _ _ hP va_S.rf
  intro H locs hP hS
  refine lv_iload_n hx hb dX11_beside_0 rfl (lv_at hl 1 rfl) ?_
  refine lv_aload_n hx hb dX11_beside_1 rfl (lv_at hl 0 rfl) ?_
  refine nx_gf X hP uw_X11 (ci := 10) rfl 0 rfl 5 (by decide) wf_RX11_25 rfl dX11_beside_2 ?_
  obtain ⟨hne, h⟩ := nx_nz h
  refine lv_irem hx hb dX11_beside_5 hne ?_
  refine lv_iload_n hx hb dX11_beside_6 rfl (lv_at hl 2 rfl) ?_
  refine lv_if_ne (tgt := 14) hx hb dX11_beside_7 (by decide) (fun hc => ?_) (fun hc => ?_)
  · have h := nx_if h hc
    refine lv_iload_n hx hb dX11_beside_14 rfl (lv_at hl 2 rfl) ?_
    refine lv_iconst (v := 2) hx hb dX11_beside_15 (by decide) ?_
    refine lv_icmp_ne (tgt := 23) hx hb dX11_beside_16 (by decide) (fun hc => ?_) (fun hc => ?_)
    · have h := nx_if h hc
      refine lv_iconst (v := 0) hx hb dX11_beside_23 (by decide) ?_
      exact J24 _ _ _ _ h H locs ls hP hS (lv_sub hl [0, 1, 2] rfl)
    · have h := nx_it h hc
      refine lv_iconst (v := (-1)) hx hb dX11_beside_19 (by decide) ?_
      refine lv_goto (tgt := 24) hx hb dX11_beside_20 (by decide) ?_
      exact J24 _ _ _ _ h H locs ls hP hS (lv_sub hl [0, 1, 2] rfl)
  · have h := nx_it h hc
    refine lv_iconst (v := 1) hx hb dX11_beside_10 (by decide) ?_
    refine lv_goto (tgt := 24) hx hb dX11_beside_11 (by decide) ?_
    exact J24 _ _ _ _ h H locs ls hP hS (lv_sub hl [0, 1, 2] rfl)
def f_X11_rollOf_j71 (x3 : Int32) (x4 : Int32) : Option (Int32) :=
  some ((24 * x3) + x4)
def f_X11_rollOf (x1 : Int32) (x2 : Int32) (wide : Int32) (tall : Int32) (groups : Int32) (top : Nat → Int32) (rolled : Nat → Int32) (kind : Nat → Int32) (mark : Nat → Int32) : Option (Int32) :=
  (f_X11_beside (x1 / 24) x2 wide tall).bind fun r_2 => if r_2 = (-9) then (some (-9)) else ((f_X11_isOpen r_2 groups kind).bind fun r_4 => if r_4 = 0 then (some (-9)) else ((nx_rd rolled 96 ((4 * (x1 - x1 / 24 * 24)) + x2)).bind fun _ => (nx_rd mark 25 r_2).bind fun _ => if (mark r_2.toNatClampNeg) = 0 then (f_X11_rollOf_j71 r_2 (rolled ((4 * (x1 - x1 / 24 * 24)) + x2).toNatClampNeg)) else ((nx_rd mark 25 r_2).bind fun _ => (nx_rd top 24 (rolled ((4 * (x1 - x1 / 24 * 24)) + x2).toNatClampNeg)).bind fun _ => if (mark r_2.toNatClampNeg) = (top (rolled ((4 * (x1 - x1 / 24 * 24)) + x2).toNatClampNeg).toNatClampNeg) then (f_X11_rollOf_j71 r_2 (rolled ((4 * (x1 - x1 / 24 * 24)) + x2).toNatClampNeg)) else (some (-9)))))
set_option maxHeartbeats 4000000 in
set_option maxRecDepth 100000 in
theorem c_X11_rollOf (l : Launch) (E : nx_E) (sz : Nat) (a : Nat → Nat) (wide : Int32) (tall : Int32) (groups : Int32) (tours : Int32) (tourLength : Int32) (rowMany : Int32) (cameBy : Int32) (top : Nat → Int32) (east : Nat → Int32) (south : Nat → Int32) (rolled : Nat → Int32) (off : Nat → Int32) (kind : Nat → Int32) (mark : Nat → Int32) (rolls : Nat → Int32) (many : Nat → Int64) (onward : Nat → Int32) (at_ : Nat → Int32) (goes : Nat → Int32) (firstTour : Nat → Int32) (rowWay : Nat → Int32) (rowSeen : Nat → Int32) (prints : Nat → Int32) (homeward : Nat → Int32) (x1 : Int32) (x2 : Int32) (o : Int32) (h : f_X11_rollOf x1 x2 wide tall groups top rolled kind mark = some o) : Met l yX11_rollOf (.code yX11_rollOf cX11_rollOf 5 (some .int) :: nx_T) (nx_rm 2 49) (va_Pc [.ref (a 0), .int x1, .int x2] (nx_P E (nx_F) sz (mW E a wide tall groups tours tourLength rowMany cameBy top east south rolled off kind mark rolls many onward at_ goes firstTour rowWay rowSeen prints homeward))) (va_Qi (fun v (_ : Unit) => v = o) (fun _ t => va_P E.1 vwCl (mW E a wide tall groups tours tourLength rowMany cameBy top east south rolled off kind mark rolls many onward at_ goes firstTour rowWay rowSeen prints homeward) t.heap) (nx_F)) 0 0 (nx_F) := by
  refine nx_enI (fun v (_ : Unit) => v = o) (fun (_ : Unit) => (mW E a wide tall groups tours tourLength rowMany cameBy top east south rolled off kind mark rolls many onward at_ goes firstTour rowWay rowSeen prints homeward)) (by decide) (Nat.le_of_ble_eq_true rfl) ?_
  intro p e s m below meth c Q X kr hsz hP ls hl
  subst hsz
  generalize hargs : (List.toArray [.ref (a 0), .int x1, .int x2] : Array Value) = args at X kr ⊢
  clear hargs
  obtain ⟨⟨hx, hb, hml, hown, hts⟩, hK, hSt, hNz⟩ := id X
  have hS : va_S (nx_F) s.heap s.heap [] := va_S.rf
  have hl : lv_has ls 5 [(0, .ref (a 0)), (1, .int x1), (2, .int x2)] := hl
  have J71 : ∀ (x3 : Int32) (x4 : Int32), f_X11_rollOf_j71 x3 x4 = some o → ∀ (H : Heap) (locs : List Loc) (ls : Array Slot), va_P E.1 vwCl (mW E a wide tall groups tours tourLength rowMany cameBy top east south rolled off kind mark rolls many onward at_ goes firstTour rowWay rowSeen prints homeward) H → va_S (nx_F) s.heap H locs → lv_has ls 5 [(0, .ref (a 0)), (3, .int x3), (4, .int x4)] → W p l e (nx_rm 2 49) s m args below meth c H locs 0 0 Q (F0 m 71 ls []) := by
    intro x3 x4 h H locs ls hP hS hl
    unfold f_X11_rollOf_j71 at h
    refine lv_bipush (v := 24) hx hb dX11_rollOf_71 (by decide) ?_
    refine lv_iload_n hx hb dX11_rollOf_73 rfl (lv_at hl 1 rfl) ?_
    refine lv_imul hx hb dX11_rollOf_74 ?_
    refine lv_iload hx hb dX11_rollOf_75 (lv_at hl 2 rfl) ?_
    refine lv_iadd hx hb dX11_rollOf_77 ?_
    refine lv_goto (tgt := 83) hx hb dX11_rollOf_78 (by decide) ?_
    exact kr 83 ls ((24 * x3) + x4) () H locs dX11_rollOf_83 (Option.some.inj h) hP hS
  unfold f_X11_rollOf at h
  suffices hw : ∀ (H : Heap) (locs : List Loc), va_P E.1 vwCl (mW E a wide tall groups tours tourLength rowMany cameBy top east south rolled off kind mark rolls many onward at_ goes firstTour rowWay rowSeen prints homeward) H → va_S (nx_F) s.heap H locs → W p l e (nx_rm 2 49) s m args below meth c H locs 0 0 Q (F0 m 0 ls []) from hw _ _ hP va_S.rf
  intro H locs hP hS
  refine lv_aload_n hx hb dX11_rollOf_0 rfl (lv_at hl 0 rfl) ?_
  refine lv_iload_n hx hb dX11_rollOf_1 rfl (lv_at hl 1 rfl) ?_
  refine lv_bipush (v := 24) hx hb dX11_rollOf_2 (by decide) ?_
  refine lv_idiv hx hb dX11_rollOf_4 (by decide) ?_
  refine lv_iload_n hx hb dX11_rollOf_5 rfl (lv_at hl 2 rfl) ?_
  obtain ⟨r_2, hc_1, h⟩ := nx_bd h
  refine nx_ki (nx_runV (As := [.int (x1 / 24), .int x2]) (rest := []) X hS hP (c_X11_beside l E H.size a wide tall groups tours tourLength rowMany cameBy top east south rolled off kind mark rolls many onward at_ goes firstTour rowWay rowSeen prints homeward (x1 / 24) x2 _ hc_1) nx_FA qV_RX11_120 ⟨rfl, rfl⟩ ⟨Nat.le_of_ble_eq_true rfl, Nat.le_of_ble_eq_true rfl⟩ ⟨Nat.zero_le _, Nat.zero_le _⟩ 0 rfl rfl rfl rfl hl.1 (Nat.le_of_ble_eq_true rfl) dX11_rollOf_6) hS nx_FA (fun H locs hP hS => ?_)
  refine lv_istore_n (lv' := [(3, .int r_2), (0, .ref (a 0)), (1, .int x1), (2, .int x2)]) hx hb dX11_rollOf_9 rfl hl (by decide) rfl (fun ls hl => ?_)
  refine lv_iload_n hx hb dX11_rollOf_10 rfl (lv_at hl 0 rfl) ?_
  refine lv_bipush (v := (-9)) hx hb dX11_rollOf_11 (by decide) ?_
  refine lv_icmp_eq (tgt := 28) hx hb dX11_rollOf_13 (by decide) (fun hc => ?_) (fun hc => ?_)
  · have h := nx_it h hc
    refine lv_bipush (v := (-9)) hx hb dX11_rollOf_28 (by decide) ?_
    exact kr 30 ls (-9) () H locs dX11_rollOf_30 (Option.some.inj h) hP hS
  · have h := nx_if h hc
    refine lv_aload_n hx hb dX11_rollOf_16 rfl (lv_at hl 1 rfl) ?_
    refine lv_iload_n hx hb dX11_rollOf_17 rfl (lv_at hl 0 rfl) ?_
    refine lv_aload_n hx hb dX11_rollOf_18 rfl (lv_at hl 1 rfl) ?_
    refine nx_gf X hP uw_X11 (ci := 10) rfl 0 rfl 9 (by decide) wf_RX11_108 rfl dX11_rollOf_19 ?_
    obtain ⟨r_4, hc_3, h⟩ := nx_bd h
    refine nx_ki (nx_runV (As := [.int r_2, .int groups]) (rest := []) X hS hP (c_X11_isOpen l E H.size a wide tall groups tours tourLength rowMany cameBy top east south rolled off kind mark rolls many onward at_ goes firstTour rowWay rowSeen prints homeward r_2 groups _ hc_3) nx_FA qV_RX11_116 ⟨rfl, rfl⟩ ⟨Nat.le_of_ble_eq_true rfl, Nat.le_of_ble_eq_true rfl⟩ ⟨Nat.zero_le _, Nat.zero_le _⟩ 0 rfl rfl rfl rfl hl.1 (Nat.le_of_ble_eq_true rfl) dX11_rollOf_22) hS nx_FA (fun H locs hP hS => ?_)
    refine lv_if_ne (tgt := 31) hx hb dX11_rollOf_25 (by decide) (fun hc => ?_) (fun hc => ?_)
    · have h := nx_if h hc
      refine lv_aload_n hx hb dX11_rollOf_31 rfl (lv_at hl 1 rfl) ?_
      refine nx_gf X hP uw_X11 (ci := 10) rfl 0 rfl 3 (by decide) wf_RX11_19 rfl dX11_rollOf_32 ?_
      refine lv_iconst (v := 4) hx hb dX11_rollOf_35 (by decide) ?_
      refine lv_iload_n hx hb dX11_rollOf_36 rfl (lv_at hl 2 rfl) ?_
      refine lv_bipush (v := 24) hx hb dX11_rollOf_37 (by decide) ?_
      refine lv_irem hx hb dX11_rollOf_39 (by decide) ?_
      refine lv_imul hx hb dX11_rollOf_40 ?_
      refine lv_iload_n hx hb dX11_rollOf_41 rfl (lv_at hl 3 rfl) ?_
      refine lv_iadd hx hb dX11_rollOf_42 ?_
      obtain ⟨hv_5, h⟩ := nx_rb h
      refine nx_ld X hP 4 rfl hv_5 dX11_rollOf_43 ?_
      refine lv_istore (lv' := [(4, .int (rolled ((4 * (x1 - x1 / 24 * 24)) + x2).toNatClampNeg)), (3, .int r_2), (0, .ref (a 0)), (1, .int x1), (2, .int x2)]) hx hb dX11_rollOf_44 hl (by decide) rfl (fun ls hl => ?_)
      refine lv_aload_n hx hb dX11_rollOf_46 rfl (lv_at hl 2 rfl) ?_
      refine nx_gf X hP uw_X11 (ci := 10) rfl 0 rfl 8 (by decide) wf_RX11_35 rfl dX11_rollOf_47 ?_
      refine lv_iload_n hx hb dX11_rollOf_50 rfl (lv_at hl 1 rfl) ?_
      obtain ⟨hv_7, h⟩ := nx_rb h
      refine nx_ld X hP 7 rfl hv_7 dX11_rollOf_51 ?_
      refine lv_if_eq (tgt := 71) hx hb dX11_rollOf_52 (by decide) (fun hc => ?_) (fun hc => ?_)
      · have h := nx_it h hc
        exact J71 _ _ h H locs ls hP hS (lv_sub hl [2, 1, 0] rfl)
      · have h := nx_if h hc
        refine lv_aload_n hx hb dX11_rollOf_55 rfl (lv_at hl 2 rfl) ?_
        refine nx_gf X hP uw_X11 (ci := 10) rfl 0 rfl 8 (by decide) wf_RX11_35 rfl dX11_rollOf_56 ?_
        refine lv_iload_n hx hb dX11_rollOf_59 rfl (lv_at hl 1 rfl) ?_
        obtain ⟨hv_9, h⟩ := nx_rb h
        refine nx_ld X hP 7 rfl hv_9 dX11_rollOf_60 ?_
        refine lv_aload_n hx hb dX11_rollOf_61 rfl (lv_at hl 2 rfl) ?_
        refine nx_gf X hP uw_X11 (ci := 10) rfl 0 rfl 0 (by decide) wf_RX11_7 rfl dX11_rollOf_62 ?_
        refine lv_iload hx hb dX11_rollOf_65 (lv_at hl 0 rfl) ?_
        obtain ⟨hv_11, h⟩ := nx_rb h
        refine nx_ld X hP 1 rfl hv_11 dX11_rollOf_67 ?_
        refine lv_icmp_ne (tgt := 81) hx hb dX11_rollOf_68 (by decide) (fun hc => ?_) (fun hc => ?_)
        · have h := nx_if h hc
          refine lv_bipush (v := (-9)) hx hb dX11_rollOf_81 (by decide) ?_
          exact kr 83 ls (-9) () H locs dX11_rollOf_83 (Option.some.inj h) hP hS
        · have h := nx_it h hc
          exact J71 _ _ h H locs ls hP hS (lv_sub hl [2, 1, 0] rfl)
    · have h := nx_it h hc
      refine lv_bipush (v := (-9)) hx hb dX11_rollOf_28 (by decide) ?_
      exact kr 30 ls (-9) () H locs dX11_rollOf_30 (Option.some.inj h) hP hS
def f_X11_roll (x1 : Int32) (x2 : Int32) (x3 : Int32) (wide : Int32) (tall : Int32) (groups : Int32) (top : Nat → Int32) (rolled : Nat → Int32) (kind : Nat → Int32) (mark : Nat → Int32) : Option (Int32) :=
  (f_X11_isCell x1 wide tall).bind fun r_2 => if r_2 = 0 then (some (-1)) else ((f_X11_isStance x2).bind fun r_4 => if r_4 = 0 then (some (-1)) else ((f_X11_isWay x3).bind fun r_6 => if r_6 = 0 then (some (-2)) else ((f_X11_rollOf ((24 * x1) + x2) x3 wide tall groups top rolled kind mark).bind fun r_8 => some r_8)))
set_option maxHeartbeats 4000000 in
set_option maxRecDepth 100000 in
theorem c_X11_roll (l : Launch) (E : nx_E) (sz : Nat) (a : Nat → Nat) (wide : Int32) (tall : Int32) (groups : Int32) (tours : Int32) (tourLength : Int32) (rowMany : Int32) (cameBy : Int32) (top : Nat → Int32) (east : Nat → Int32) (south : Nat → Int32) (rolled : Nat → Int32) (off : Nat → Int32) (kind : Nat → Int32) (mark : Nat → Int32) (rolls : Nat → Int32) (many : Nat → Int64) (onward : Nat → Int32) (at_ : Nat → Int32) (goes : Nat → Int32) (firstTour : Nat → Int32) (rowWay : Nat → Int32) (rowSeen : Nat → Int32) (prints : Nat → Int32) (homeward : Nat → Int32) (x1 : Int32) (x2 : Int32) (x3 : Int32) (o : Int32) (h : f_X11_roll x1 x2 x3 wide tall groups top rolled kind mark = some o) : Met l yX11_roll (.code yX11_roll cX11_roll 4 (some .int) :: nx_T) (nx_rm 3 73) (va_Pc [.ref (a 0), .int x1, .int x2, .int x3] (nx_P E (nx_F) sz (mW E a wide tall groups tours tourLength rowMany cameBy top east south rolled off kind mark rolls many onward at_ goes firstTour rowWay rowSeen prints homeward))) (va_Qi (fun v (_ : Unit) => v = o) (fun _ t => va_P E.1 vwCl (mW E a wide tall groups tours tourLength rowMany cameBy top east south rolled off kind mark rolls many onward at_ goes firstTour rowWay rowSeen prints homeward) t.heap) (nx_F)) 0 0 (nx_F) := by
  refine nx_enI (fun v (_ : Unit) => v = o) (fun (_ : Unit) => (mW E a wide tall groups tours tourLength rowMany cameBy top east south rolled off kind mark rolls many onward at_ goes firstTour rowWay rowSeen prints homeward)) (by decide) (Nat.le_of_ble_eq_true rfl) ?_
  intro p e s m below meth c Q X kr hsz hP ls hl
  subst hsz
  generalize hargs : (List.toArray [.ref (a 0), .int x1, .int x2, .int x3] : Array Value) = args at X kr ⊢
  clear hargs
  obtain ⟨⟨hx, hb, hml, hown, hts⟩, hK, hSt, hNz⟩ := id X
  have hS : va_S (nx_F) s.heap s.heap [] := va_S.rf
  have hl : lv_has ls 4 [(0, .ref (a 0)), (1, .int x1), (2, .int x2), (3, .int x3)] := hl
  unfold f_X11_roll at h
  suffices hw : ∀ (H : Heap) (locs : List Loc), va_P E.1 vwCl (mW E a wide tall groups tours tourLength rowMany cameBy top east south rolled off kind mark rolls many onward at_ goes firstTour rowWay rowSeen prints homeward) H → va_S (nx_F) s.heap H locs → W p l e (nx_rm 3 73) s m args below meth c H locs 0 0 Q (F0 m 0 ls []) from hw _ _ hP va_S.rf
  intro H locs hP hS
  refine lv_aload_n hx hb dX11_roll_0 rfl (lv_at hl 0 rfl) ?_
  refine lv_iload_n hx hb dX11_roll_1 rfl (lv_at hl 1 rfl) ?_
  obtain ⟨r_2, hc_1, h⟩ := nx_bd h
  refine nx_ki (nx_runV (As := [.int x1]) (rest := []) X hS hP (c_X11_isCell l E H.size a wide tall groups tours tourLength rowMany cameBy top east south rolled off kind mark rolls many onward at_ goes firstTour rowWay rowSeen prints homeward x1 _ hc_1) nx_FA qV_RX11_111 ⟨rfl, rfl⟩ ⟨Nat.le_of_ble_eq_true rfl, Nat.le_of_ble_eq_true rfl⟩ ⟨Nat.zero_le _, Nat.zero_le _⟩ 0 rfl rfl rfl rfl hl.1 (Nat.le_of_ble_eq_true rfl) dX11_roll_2) hS nx_FA (fun H locs hP hS => ?_)
  refine lv_if_eq (tgt := 15) hx hb dX11_roll_5 (by decide) (fun hc => ?_) (fun hc => ?_)
  · have h := nx_it h hc
    refine lv_iconst (v := (-1)) hx hb dX11_roll_15 (by decide) ?_
    exact kr 16 ls (-1) () H locs dX11_roll_16 (Option.some.inj h) hP hS
  · have h := nx_if h hc
    refine lv_iload_n hx hb dX11_roll_8 rfl (lv_at hl 2 rfl) ?_
    obtain ⟨r_4, hc_3, h⟩ := nx_bd h
    refine nx_ki (nx_runS (As := [.int x2]) (rest := []) X hS hP (c_X11_isStance l E H.size a wide tall groups tours tourLength rowMany cameBy top east south rolled off kind mark rolls many onward at_ goes firstTour rowWay rowSeen prints homeward x2 _ hc_3) nx_FA qS_RX11_90 ⟨rfl, rfl⟩ ⟨Nat.le_of_ble_eq_true rfl, Nat.le_of_ble_eq_true rfl⟩ ⟨Nat.zero_le _, Nat.zero_le _⟩ rfl rfl hl.1 (Nat.le_of_ble_eq_true rfl) dX11_roll_9) hS nx_FA (fun H locs hP hS => ?_)
    refine lv_if_ne (tgt := 17) hx hb dX11_roll_12 (by decide) (fun hc => ?_) (fun hc => ?_)
    · have h := nx_if h hc
      refine lv_iload_n hx hb dX11_roll_17 rfl (lv_at hl 3 rfl) ?_
      obtain ⟨r_6, hc_5, h⟩ := nx_bd h
      refine nx_ki (nx_runS (As := [.int x3]) (rest := []) X hS hP (c_X11_isWay l E H.size a wide tall groups tours tourLength rowMany cameBy top east south rolled off kind mark rolls many onward at_ goes firstTour rowWay rowSeen prints homeward x3 _ hc_5) nx_FA qS_RX11_94 ⟨rfl, rfl⟩ ⟨Nat.le_of_ble_eq_true rfl, Nat.le_of_ble_eq_true rfl⟩ ⟨Nat.zero_le _, Nat.zero_le _⟩ rfl rfl hl.1 (Nat.le_of_ble_eq_true rfl) dX11_roll_18) hS nx_FA (fun H locs hP hS => ?_)
      refine lv_if_eq (tgt := 38) hx hb dX11_roll_21 (by decide) (fun hc => ?_) (fun hc => ?_)
      · have h := nx_it h hc
        refine lv_bipush (v := (-2)) hx hb dX11_roll_38 (by decide) ?_
        exact kr 40 ls (-2) () H locs dX11_roll_40 (Option.some.inj h) hP hS
      · have h := nx_if h hc
        refine lv_aload_n hx hb dX11_roll_24 rfl (lv_at hl 0 rfl) ?_
        refine lv_bipush (v := 24) hx hb dX11_roll_25 (by decide) ?_
        refine lv_iload_n hx hb dX11_roll_27 rfl (lv_at hl 1 rfl) ?_
        refine lv_imul hx hb dX11_roll_28 ?_
        refine lv_iload_n hx hb dX11_roll_29 rfl (lv_at hl 2 rfl) ?_
        refine lv_iadd hx hb dX11_roll_30 ?_
        refine lv_iload_n hx hb dX11_roll_31 rfl (lv_at hl 3 rfl) ?_
        obtain ⟨r_8, hc_7, h⟩ := nx_bd h
        refine nx_ki (nx_runV (As := [.int ((24 * x1) + x2), .int x3]) (rest := []) X hS hP (c_X11_rollOf l E H.size a wide tall groups tours tourLength rowMany cameBy top east south rolled off kind mark rolls many onward at_ goes firstTour rowWay rowSeen prints homeward ((24 * x1) + x2) x3 _ hc_7) nx_FA qV_RX11_123 ⟨rfl, rfl⟩ ⟨Nat.le_of_ble_eq_true rfl, Nat.le_of_ble_eq_true rfl⟩ ⟨Nat.zero_le _, Nat.zero_le _⟩ 0 rfl rfl rfl rfl hl.1 (Nat.le_of_ble_eq_true rfl) dX11_roll_32) hS nx_FA (fun H locs hP hS => ?_)
        refine lv_goto (tgt := 40) hx hb dX11_roll_35 (by decide) ?_
        exact kr 40 ls r_8 () H locs dX11_roll_40 (Option.some.inj h) hP hS
    · have h := nx_it h hc
      refine lv_iconst (v := (-1)) hx hb dX11_roll_15 (by decide) ?_
      exact kr 16 ls (-1) () H locs dX11_roll_16 (Option.some.inj h) hP hS
def f_X11_isWant (x0 : Int32)  : Option (Int32) :=
  (f_X11_in ((x0 : Int32).toInt64) 0 6).bind fun r_2 => if r_2 = 0 then ((f_X11_in ((x0 : Int32).toInt64) 10 33).bind fun r_4 => if r_4 = 0 then (some 0) else (some 1)) else (some 1)
set_option maxHeartbeats 4000000 in
set_option maxRecDepth 100000 in
theorem c_X11_isWant (l : Launch) (E : nx_E) (sz : Nat) (a : Nat → Nat) (wide : Int32) (tall : Int32) (groups : Int32) (tours : Int32) (tourLength : Int32) (rowMany : Int32) (cameBy : Int32) (top : Nat → Int32) (east : Nat → Int32) (south : Nat → Int32) (rolled : Nat → Int32) (off : Nat → Int32) (kind : Nat → Int32) (mark : Nat → Int32) (rolls : Nat → Int32) (many : Nat → Int64) (onward : Nat → Int32) (at_ : Nat → Int32) (goes : Nat → Int32) (firstTour : Nat → Int32) (rowWay : Nat → Int32) (rowSeen : Nat → Int32) (prints : Nat → Int32) (homeward : Nat → Int32) (x0 : Int32) (o : Int32) (h : f_X11_isWant x0 = some o) : Met l yX11_isWant (.code yX11_isWant cX11_isWant 1 (some .boolean) :: nx_T) (nx_rm 1 25) (va_Pc [.int x0] (nx_P E (nx_F) sz (mW E a wide tall groups tours tourLength rowMany cameBy top east south rolled off kind mark rolls many onward at_ goes firstTour rowWay rowSeen prints homeward))) (va_Qi (fun v (_ : Unit) => v = o) (fun _ t => va_P E.1 vwCl (mW E a wide tall groups tours tourLength rowMany cameBy top east south rolled off kind mark rolls many onward at_ goes firstTour rowWay rowSeen prints homeward) t.heap) (nx_F)) 0 0 (nx_F) := by
  refine nx_enZ (fun v (_ : Unit) => v = o) (fun (_ : Unit) => (mW E a wide tall groups tours tourLength rowMany cameBy top east south rolled off kind mark rolls many onward at_ goes firstTour rowWay rowSeen prints homeward)) (by decide) (Nat.le_of_ble_eq_true rfl) ?_
  intro p e s m below meth c Q X kr hsz hP ls hl
  subst hsz
  generalize hargs : (List.toArray [.int x0] : Array Value) = args at X kr ⊢
  clear hargs
  obtain ⟨⟨hx, hb, hml, hown, hts⟩, hK, hSt, hNz⟩ := id X
  have hS : va_S (nx_F) s.heap s.heap [] := va_S.rf
  have hl : lv_has ls 1 [(0, .int x0)] := hl
  unfold f_X11_isWant at h
  suffices hw : ∀ (H : Heap) (locs : List Loc), va_P E.1 vwCl (mW E a wide tall groups tours tourLength rowMany cameBy top east south rolled off kind mark rolls many onward at_ goes firstTour rowWay rowSeen prints homeward) H → va_S (nx_F) s.heap H locs → W p l e (nx_rm 1 25) s m args below meth c H locs 0 0 Q (F0 m 0 ls []) from hw _ _ hP va_S.rf
  intro H locs hP hS
  refine lv_iload_n hx hb dX11_isWant_0 rfl (lv_at hl 0 rfl) ?_
  refine lv_i2l (v := (x0 : Int32).toInt64) hx hb dX11_isWant_1 rfl ?_
  refine lv_lconst (v := 0) hx hb dX11_isWant_2 (by decide) ?_
  refine lv_ldc2 hx hb hown (hts _ wl_RX11_97) dX11_isWant_3 ?_
  obtain ⟨r_2, hc_1, h⟩ := nx_bd h
  refine nx_ki (nx_runS (As := [.long ((x0 : Int32).toInt64), .long 0, .long 6]) (rest := []) X hS hP (c_X11_in l E H.size a wide tall groups tours tourLength rowMany cameBy top east south rolled off kind mark rolls many onward at_ goes firstTour rowWay rowSeen prints homeward ((x0 : Int32).toInt64) 0 6 _ hc_1) nx_FA qS_RX11_84 ⟨rfl, rfl⟩ ⟨Nat.le_of_ble_eq_true rfl, Nat.le_of_ble_eq_true rfl⟩ ⟨Nat.zero_le _, Nat.zero_le _⟩ rfl rfl hl.1 (Nat.le_of_ble_eq_true rfl) dX11_isWant_6) hS nx_FA (fun H locs hP hS => ?_)
  refine lv_if_ne (tgt := 26) hx hb dX11_isWant_9 (by decide) (fun hc => ?_) (fun hc => ?_)
  · have h := nx_if h hc
    refine lv_iconst (v := 1) hx hb dX11_isWant_26 (by decide) ?_
    refine lv_goto (tgt := 31) hx hb dX11_isWant_27 (by decide) ?_
    exact kr 31 ls 1 () H locs dX11_isWant_31 (Or.inr rfl) (Option.some.inj h) hP hS
  · have h := nx_it h hc
    refine lv_iload_n hx hb dX11_isWant_12 rfl (lv_at hl 0 rfl) ?_
    refine lv_i2l (v := (x0 : Int32).toInt64) hx hb dX11_isWant_13 rfl ?_
    refine lv_ldc2 hx hb hown (hts _ wl_RX11_126) dX11_isWant_14 ?_
    refine lv_ldc2 hx hb hown (hts _ wl_RX11_128) dX11_isWant_17 ?_
    obtain ⟨r_4, hc_3, h⟩ := nx_bd h
    refine nx_ki (nx_runS (As := [.long ((x0 : Int32).toInt64), .long 10, .long 33]) (rest := []) X hS hP (c_X11_in l E H.size a wide tall groups tours tourLength rowMany cameBy top east south rolled off kind mark rolls many onward at_ goes firstTour rowWay rowSeen prints homeward ((x0 : Int32).toInt64) 10 33 _ hc_3) nx_FA qS_RX11_84 ⟨rfl, rfl⟩ ⟨Nat.le_of_ble_eq_true rfl, Nat.le_of_ble_eq_true rfl⟩ ⟨Nat.zero_le _, Nat.zero_le _⟩ rfl rfl hl.1 (Nat.le_of_ble_eq_true rfl) dX11_isWant_20) hS nx_FA (fun H locs hP hS => ?_)
    refine lv_if_eq (tgt := 30) hx hb dX11_isWant_23 (by decide) (fun hc => ?_) (fun hc => ?_)
    · have h := nx_it h hc
      refine lv_iconst (v := 0) hx hb dX11_isWant_30 (by decide) ?_
      exact kr 31 ls 0 () H locs dX11_isWant_31 (Or.inl rfl) (Option.some.inj h) hP hS
    · have h := nx_if h hc
      refine lv_iconst (v := 1) hx hb dX11_isWant_26 (by decide) ?_
      refine lv_goto (tgt := 31) hx hb dX11_isWant_27 (by decide) ?_
      exact kr 31 ls 1 () H locs dX11_isWant_31 (Or.inr rfl) (Option.some.inj h) hP hS
def f_X11_isGoal_j45 (x1 : Int32) (x2 : Int32) (s0 : Int32) : Option (Int32) :=
  if (x1 / 24) = x2 then (if s0 = 0 then (some 0) else (some 1)) else (some 0)
def f_X11_isGoal_j23 (x1 : Int32) (x2 : Int32) (x3 : Int32) : Option (Int32) :=
  if x3 ≤ 9 then (f_X11_isGoal_j45 x1 x2 0) else (if (x1 - x1 / 24 * 24) = (x3 - 10) then (f_X11_isGoal_j45 x1 x2 1) else (f_X11_isGoal_j45 x1 x2 0))
def f_X11_isGoal (x1 : Int32) (x2 : Int32) (x3 : Int32) (top : Nat → Int32) : Option (Int32) :=
  if x3 = 0 then (f_X11_isGoal_j45 x1 x2 1) else (if 7 ≤ x3 then (f_X11_isGoal_j23 x1 x2 x3) else ((nx_rd top 24 (x1 - x1 / 24 * 24)).bind fun _ => if (top (x1 - x1 / 24 * 24).toNatClampNeg) = x3 then (f_X11_isGoal_j45 x1 x2 1) else (f_X11_isGoal_j23 x1 x2 x3)))
set_option maxHeartbeats 4000000 in
set_option maxRecDepth 100000 in
theorem c_X11_isGoal (l : Launch) (E : nx_E) (sz : Nat) (a : Nat → Nat) (wide : Int32) (tall : Int32) (groups : Int32) (tours : Int32) (tourLength : Int32) (rowMany : Int32) (cameBy : Int32) (top : Nat → Int32) (east : Nat → Int32) (south : Nat → Int32) (rolled : Nat → Int32) (off : Nat → Int32) (kind : Nat → Int32) (mark : Nat → Int32) (rolls : Nat → Int32) (many : Nat → Int64) (onward : Nat → Int32) (at_ : Nat → Int32) (goes : Nat → Int32) (firstTour : Nat → Int32) (rowWay : Nat → Int32) (rowSeen : Nat → Int32) (prints : Nat → Int32) (homeward : Nat → Int32) (x1 : Int32) (x2 : Int32) (x3 : Int32) (o : Int32) (h : f_X11_isGoal x1 x2 x3 top = some o) : Met l yX11_isGoal (.code yX11_isGoal cX11_isGoal 5 (some .boolean) :: nx_T) (nx_rm 0 0) (va_Pc [.ref (a 0), .int x1, .int x2, .int x3] (nx_P E (nx_F) sz (mW E a wide tall groups tours tourLength rowMany cameBy top east south rolled off kind mark rolls many onward at_ goes firstTour rowWay rowSeen prints homeward))) (va_Qi (fun v (_ : Unit) => v = o) (fun _ t => va_P E.1 vwCl (mW E a wide tall groups tours tourLength rowMany cameBy top east south rolled off kind mark rolls many onward at_ goes firstTour rowWay rowSeen prints homeward) t.heap) (nx_F)) 0 0 (nx_F) := by
  refine nx_enZ (fun v (_ : Unit) => v = o) (fun (_ : Unit) => (mW E a wide tall groups tours tourLength rowMany cameBy top east south rolled off kind mark rolls many onward at_ goes firstTour rowWay rowSeen prints homeward)) (by decide) (Nat.le_of_ble_eq_true rfl) ?_
  intro p e s m below meth c Q X kr hsz hP ls hl
  subst hsz
  generalize hargs : (List.toArray [.ref (a 0), .int x1, .int x2, .int x3] : Array Value) = args at X kr ⊢
  clear hargs
  obtain ⟨⟨hx, hb, hml, hown, hts⟩, hK, hSt, hNz⟩ := id X
  have hS : va_S (nx_F) s.heap s.heap [] := va_S.rf
  have hl : lv_has ls 5 [(0, .ref (a 0)), (1, .int x1), (2, .int x2), (3, .int x3)] := hl
  have J45 : ∀ (x1 : Int32) (x2 : Int32) (s0 : Int32), f_X11_isGoal_j45 x1 x2 s0 = some o → ∀ (H : Heap) (locs : List Loc) (ls : Array Slot), va_P E.1 vwCl (mW E a wide tall groups tours tourLength rowMany cameBy top east south rolled off kind mark rolls many onward at_ goes firstTour rowWay rowSeen prints homeward) H → va_S (nx_F) s.heap H locs → lv_has ls 5 [(0, .ref (a 0)), (1, .int x1), (2, .int x2)] → W p l e (nx_rm 0 0) s m args below meth c H locs 0 0 Q (F0 m 45 ls [.int s0]) := by
    intro x1 x2 s0 h H locs ls hP hS hl
    unfold f_X11_isGoal_j45 at h
    refine lv_istore (lv' := [(4, .int s0), (0, .ref (a 0)), (1, .int x1), (2, .int x2)]) hx hb dX11_isGoal_45 hl (by decide) rfl (fun ls hl => ?_)
    refine lv_iload_n hx hb dX11_isGoal_47 rfl (lv_at hl 2 rfl) ?_
    refine lv_bipush (v := 24) hx hb dX11_isGoal_48 (by decide) ?_
    refine lv_idiv hx hb dX11_isGoal_50 (by decide) ?_
    refine lv_iload_n hx hb dX11_isGoal_51 rfl (lv_at hl 3 rfl) ?_
    refine lv_icmp_ne (tgt := 64) hx hb dX11_isGoal_52 (by decide) (fun hc => ?_) (fun hc => ?_)
    · have h := nx_if h hc
      refine lv_iconst (v := 0) hx hb dX11_isGoal_64 (by decide) ?_
      exact kr 65 ls 0 () H locs dX11_isGoal_65 (Or.inl rfl) (Option.some.inj h) hP hS
    · have h := nx_it h hc
      refine lv_iload hx hb dX11_isGoal_55 (lv_at hl 0 rfl) ?_
      refine lv_if_eq (tgt := 64) hx hb dX11_isGoal_57 (by decide) (fun hc => ?_) (fun hc => ?_)
      · have h := nx_it h hc
        refine lv_iconst (v := 0) hx hb dX11_isGoal_64 (by decide) ?_
        exact kr 65 ls 0 () H locs dX11_isGoal_65 (Or.inl rfl) (Option.some.inj h) hP hS
      · have h := nx_if h hc
        refine lv_iconst (v := 1) hx hb dX11_isGoal_60 (by decide) ?_
        refine lv_goto (tgt := 65) hx hb dX11_isGoal_61 (by decide) ?_
        exact kr 65 ls 1 () H locs dX11_isGoal_65 (Or.inr rfl) (Option.some.inj h) hP hS
  have J23 : ∀ (x1 : Int32) (x2 : Int32) (x3 : Int32), f_X11_isGoal_j23 x1 x2 x3 = some o → ∀ (H : Heap) (locs : List Loc) (ls : Array Slot), va_P E.1 vwCl (mW E a wide tall groups tours tourLength rowMany cameBy top east south rolled off kind mark rolls many onward at_ goes firstTour rowWay rowSeen prints homeward) H → va_S (nx_F) s.heap H locs → lv_has ls 5 [(0, .ref (a 0)), (1, .int x1), (2, .int x2), (3, .int x3)] → W p l e (nx_rm 0 0) s m args below meth c H locs 0 0 Q (F0 m 23 ls []) := by
    intro x1 x2 x3 h H locs ls hP hS hl
    unfold f_X11_isGoal_j23 at h
    refine lv_iload_n hx hb dX11_isGoal_23 rfl (lv_at hl 3 rfl) ?_
    refine lv_bipush (v := 9) hx hb dX11_isGoal_24 (by decide) ?_
    refine lv_icmp_le (tgt := 44) hx hb dX11_isGoal_26 (by decide) (fun hc => ?_) (fun hc => ?_)
    · have h := nx_it h hc
      refine lv_iconst (v := 0) hx hb dX11_isGoal_44 (by decide) ?_
      exact J45 _ _ _ h H locs ls hP hS (lv_sub hl [0, 1, 2] rfl)
    · have h := nx_if h hc
      refine lv_iload_n hx hb dX11_isGoal_29 rfl (lv_at hl 1 rfl) ?_
      refine lv_bipush (v := 24) hx hb dX11_isGoal_30 (by decide) ?_
      refine lv_irem hx hb dX11_isGoal_32 (by decide) ?_
      refine lv_iload_n hx hb dX11_isGoal_33 rfl (lv_at hl 3 rfl) ?_
      refine lv_bipush (v := 10) hx hb dX11_isGoal_34 (by decide) ?_
      refine lv_isub hx hb dX11_isGoal_36 ?_
      refine lv_icmp_ne (tgt := 44) hx hb dX11_isGoal_37 (by decide) (fun hc => ?_) (fun hc => ?_)
      · have h := nx_if h hc
        refine lv_iconst (v := 0) hx hb dX11_isGoal_44 (by decide) ?_
        exact J45 _ _ _ h H locs ls hP hS (lv_sub hl [0, 1, 2] rfl)
      · have h := nx_it h hc
        refine lv_iconst (v := 1) hx hb dX11_isGoal_40 (by decide) ?_
        refine lv_goto (tgt := 45) hx hb dX11_isGoal_41 (by decide) ?_
        exact J45 _ _ _ h H locs ls hP hS (lv_sub hl [0, 1, 2] rfl)
  unfold f_X11_isGoal at h
  suffices hw : ∀ (H : Heap) (locs : List Loc), va_P E.1 vwCl (mW E a wide tall groups tours tourLength rowMany cameBy top east south rolled off kind mark rolls many onward at_ goes firstTour rowWay rowSeen prints homeward) H → va_S (nx_F) s.heap H locs → W p l e (nx_rm 0 0) s m args below meth c H locs 0 0 Q (F0 m 0 ls []) from hw _ _ hP va_S.rf
  intro H locs hP hS
  refine lv_iload_n hx hb dX11_isGoal_0 rfl (lv_at hl 3 rfl) ?_
  refine lv_if_eq (tgt := 40) hx hb dX11_isGoal_1 (by decide) (fun hc => ?_) (fun hc => ?_)
  · have h := nx_it h hc
    refine lv_iconst (v := 1) hx hb dX11_isGoal_40 (by decide) ?_
    refine lv_goto (tgt := 45) hx hb dX11_isGoal_41 (by decide) ?_
    exact J45 _ _ _ h H locs ls hP hS (lv_sub hl [0, 1, 2] rfl)
  · have h := nx_if h hc
    refine lv_iload_n hx hb dX11_isGoal_4 rfl (lv_at hl 3 rfl) ?_
    refine lv_bipush (v := 7) hx hb dX11_isGoal_5 (by decide) ?_
    refine lv_icmp_ge (tgt := 23) hx hb dX11_isGoal_7 (by decide) (fun hc => ?_) (fun hc => ?_)
    · have h := nx_it h hc
      exact J23 _ _ _ h H locs ls hP hS (lv_sub hl [0, 1, 2, 3] rfl)
    · have h := nx_if h hc
      refine lv_aload_n hx hb dX11_isGoal_10 rfl (lv_at hl 0 rfl) ?_
      refine nx_gf X hP uw_X11 (ci := 10) rfl 0 rfl 0 (by decide) wf_RX11_7 rfl dX11_isGoal_11 ?_
      refine lv_iload_n hx hb dX11_isGoal_14 rfl (lv_at hl 1 rfl) ?_
      refine lv_bipush (v := 24) hx hb dX11_isGoal_15 (by decide) ?_
      refine lv_irem hx hb dX11_isGoal_17 (by decide) ?_
      obtain ⟨hv_1, h⟩ := nx_rb h
      refine nx_ld X hP 1 rfl hv_1 dX11_isGoal_18 ?_
      refine lv_iload_n hx hb dX11_isGoal_19 rfl (lv_at hl 3 rfl) ?_
      refine lv_icmp_eq (tgt := 40) hx hb dX11_isGoal_20 (by decide) (fun hc => ?_) (fun hc => ?_)
      · have h := nx_it h hc
        refine lv_iconst (v := 1) hx hb dX11_isGoal_40 (by decide) ?_
        refine lv_goto (tgt := 45) hx hb dX11_isGoal_41 (by decide) ?_
        exact J45 _ _ _ h H locs ls hP hS (lv_sub hl [0, 1, 2] rfl)
      · have h := nx_if h hc
        exact J23 _ _ _ h H locs ls hP hS (lv_sub hl [0, 1, 2, 3] rfl)
def f_X11_mayGo (x1 : Int32) (x2 : Int32) (x3 : Int32) (x4 : Int32) (wide : Int32) (tall : Int32) : Option (Int32) :=
  (f_X11_isCell x1 wide tall).bind fun r_2 => if r_2 = 0 then (some (-1)) else ((f_X11_isStance x2).bind fun r_4 => if r_4 = 0 then (some (-1)) else ((f_X11_isCell x3 wide tall).bind fun r_6 => if r_6 = 0 then (some (-1)) else ((f_X11_isWant x4).bind fun r_8 => if r_8 = 0 then (some (-2)) else (some 0))))
set_option maxHeartbeats 4000000 in
set_option maxRecDepth 100000 in
theorem c_X11_mayGo (l : Launch) (E : nx_E) (sz : Nat) (a : Nat → Nat) (wide : Int32) (tall : Int32) (groups : Int32) (tours : Int32) (tourLength : Int32) (rowMany : Int32) (cameBy : Int32) (top : Nat → Int32) (east : Nat → Int32) (south : Nat → Int32) (rolled : Nat → Int32) (off : Nat → Int32) (kind : Nat → Int32) (mark : Nat → Int32) (rolls : Nat → Int32) (many : Nat → Int64) (onward : Nat → Int32) (at_ : Nat → Int32) (goes : Nat → Int32) (firstTour : Nat → Int32) (rowWay : Nat → Int32) (rowSeen : Nat → Int32) (prints : Nat → Int32) (homeward : Nat → Int32) (x1 : Int32) (x2 : Int32) (x3 : Int32) (x4 : Int32) (o : Int32) (h : f_X11_mayGo x1 x2 x3 x4 wide tall = some o) : Met l yX11_mayGo (.code yX11_mayGo cX11_mayGo 5 (some .int) :: nx_T) (nx_rm 2 46) (va_Pc [.ref (a 0), .int x1, .int x2, .int x3, .int x4] (nx_P E (nx_F) sz (mW E a wide tall groups tours tourLength rowMany cameBy top east south rolled off kind mark rolls many onward at_ goes firstTour rowWay rowSeen prints homeward))) (va_Qi (fun v (_ : Unit) => v = o) (fun _ t => va_P E.1 vwCl (mW E a wide tall groups tours tourLength rowMany cameBy top east south rolled off kind mark rolls many onward at_ goes firstTour rowWay rowSeen prints homeward) t.heap) (nx_F)) 0 0 (nx_F) := by
  refine nx_enI (fun v (_ : Unit) => v = o) (fun (_ : Unit) => (mW E a wide tall groups tours tourLength rowMany cameBy top east south rolled off kind mark rolls many onward at_ goes firstTour rowWay rowSeen prints homeward)) (by decide) (Nat.le_of_ble_eq_true rfl) ?_
  intro p e s m below meth c Q X kr hsz hP ls hl
  subst hsz
  generalize hargs : (List.toArray [.ref (a 0), .int x1, .int x2, .int x3, .int x4] : Array Value) = args at X kr ⊢
  clear hargs
  obtain ⟨⟨hx, hb, hml, hown, hts⟩, hK, hSt, hNz⟩ := id X
  have hS : va_S (nx_F) s.heap s.heap [] := va_S.rf
  have hl : lv_has ls 5 [(0, .ref (a 0)), (1, .int x1), (2, .int x2), (3, .int x3), (4, .int x4)] := hl
  unfold f_X11_mayGo at h
  suffices hw : ∀ (H : Heap) (locs : List Loc), va_P E.1 vwCl (mW E a wide tall groups tours tourLength rowMany cameBy top east south rolled off kind mark rolls many onward at_ goes firstTour rowWay rowSeen prints homeward) H → va_S (nx_F) s.heap H locs → W p l e (nx_rm 2 46) s m args below meth c H locs 0 0 Q (F0 m 0 ls []) from hw _ _ hP va_S.rf
  intro H locs hP hS
  refine lv_aload_n hx hb dX11_mayGo_0 rfl (lv_at hl 0 rfl) ?_
  refine lv_iload_n hx hb dX11_mayGo_1 rfl (lv_at hl 1 rfl) ?_
  obtain ⟨r_2, hc_1, h⟩ := nx_bd h
  refine nx_ki (nx_runV (As := [.int x1]) (rest := []) X hS hP (c_X11_isCell l E H.size a wide tall groups tours tourLength rowMany cameBy top east south rolled off kind mark rolls many onward at_ goes firstTour rowWay rowSeen prints homeward x1 _ hc_1) nx_FA qV_RX11_111 ⟨rfl, rfl⟩ ⟨Nat.le_of_ble_eq_true rfl, Nat.le_of_ble_eq_true rfl⟩ ⟨Nat.zero_le _, Nat.zero_le _⟩ 0 rfl rfl rfl rfl hl.1 (Nat.le_of_ble_eq_true rfl) dX11_mayGo_2) hS nx_FA (fun H locs hP hS => ?_)
  refine lv_if_eq (tgt := 23) hx hb dX11_mayGo_5 (by decide) (fun hc => ?_) (fun hc => ?_)
  · have h := nx_it h hc
    refine lv_iconst (v := (-1)) hx hb dX11_mayGo_23 (by decide) ?_
    exact kr 24 ls (-1) () H locs dX11_mayGo_24 (Option.some.inj h) hP hS
  · have h := nx_if h hc
    refine lv_iload_n hx hb dX11_mayGo_8 rfl (lv_at hl 2 rfl) ?_
    obtain ⟨r_4, hc_3, h⟩ := nx_bd h
    refine nx_ki (nx_runS (As := [.int x2]) (rest := []) X hS hP (c_X11_isStance l E H.size a wide tall groups tours tourLength rowMany cameBy top east south rolled off kind mark rolls many onward at_ goes firstTour rowWay rowSeen prints homeward x2 _ hc_3) nx_FA qS_RX11_90 ⟨rfl, rfl⟩ ⟨Nat.le_of_ble_eq_true rfl, Nat.le_of_ble_eq_true rfl⟩ ⟨Nat.zero_le _, Nat.zero_le _⟩ rfl rfl hl.1 (Nat.le_of_ble_eq_true rfl) dX11_mayGo_9) hS nx_FA (fun H locs hP hS => ?_)
    refine lv_if_eq (tgt := 23) hx hb dX11_mayGo_12 (by decide) (fun hc => ?_) (fun hc => ?_)
    · have h := nx_it h hc
      refine lv_iconst (v := (-1)) hx hb dX11_mayGo_23 (by decide) ?_
      exact kr 24 ls (-1) () H locs dX11_mayGo_24 (Option.some.inj h) hP hS
    · have h := nx_if h hc
      refine lv_aload_n hx hb dX11_mayGo_15 rfl (lv_at hl 0 rfl) ?_
      refine lv_iload_n hx hb dX11_mayGo_16 rfl (lv_at hl 3 rfl) ?_
      obtain ⟨r_6, hc_5, h⟩ := nx_bd h
      refine nx_ki (nx_runV (As := [.int x3]) (rest := []) X hS hP (c_X11_isCell l E H.size a wide tall groups tours tourLength rowMany cameBy top east south rolled off kind mark rolls many onward at_ goes firstTour rowWay rowSeen prints homeward x3 _ hc_5) nx_FA qV_RX11_111 ⟨rfl, rfl⟩ ⟨Nat.le_of_ble_eq_true rfl, Nat.le_of_ble_eq_true rfl⟩ ⟨Nat.zero_le _, Nat.zero_le _⟩ 0 rfl rfl rfl rfl hl.1 (Nat.le_of_ble_eq_true rfl) dX11_mayGo_17) hS nx_FA (fun H locs hP hS => ?_)
      refine lv_if_ne (tgt := 25) hx hb dX11_mayGo_20 (by decide) (fun hc => ?_) (fun hc => ?_)
      · have h := nx_if h hc
        refine lv_iload hx hb dX11_mayGo_25 (lv_at hl 4 rfl) ?_
        obtain ⟨r_8, hc_7, h⟩ := nx_bd h
        refine nx_ki (nx_runS (As := [.int x4]) (rest := []) X hS hP (c_X11_isWant l E H.size a wide tall groups tours tourLength rowMany cameBy top east south rolled off kind mark rolls many onward at_ goes firstTour rowWay rowSeen prints homeward x4 _ hc_7) nx_FA qS_RX11_130 ⟨rfl, rfl⟩ ⟨Nat.le_of_ble_eq_true rfl, Nat.le_of_ble_eq_true rfl⟩ ⟨Nat.zero_le _, Nat.zero_le _⟩ rfl rfl hl.1 (Nat.le_of_ble_eq_true rfl) dX11_mayGo_27) hS nx_FA (fun H locs hP hS => ?_)
        refine lv_if_eq (tgt := 37) hx hb dX11_mayGo_30 (by decide) (fun hc => ?_) (fun hc => ?_)
        · have h := nx_it h hc
          refine lv_bipush (v := (-2)) hx hb dX11_mayGo_37 (by decide) ?_
          exact kr 39 ls (-2) () H locs dX11_mayGo_39 (Option.some.inj h) hP hS
        · have h := nx_if h hc
          refine lv_iconst (v := 0) hx hb dX11_mayGo_33 (by decide) ?_
          refine lv_goto (tgt := 39) hx hb dX11_mayGo_34 (by decide) ?_
          exact kr 39 ls 0 () H locs dX11_mayGo_39 (Option.some.inj h) hP hS
      · have h := nx_it h hc
        refine lv_iconst (v := (-1)) hx hb dX11_mayGo_23 (by decide) ?_
        exact kr 24 ls (-1) () H locs dX11_mayGo_24 (Option.some.inj h) hP hS
