def f_X5_cellsReached_b23 (reached : Int32) (ord : Nat → Int32) (rec : (Int32 × Int32) → Option (Int32)) (x2 : Int32) (x3 : Int32) : Option (Int32) :=
  (f_X8_reached reached).bind fun r_2 => if r_2 ≤ x3 then (some x2) else ((f_X8_reachedAt x3 reached ord).bind fun r_4 => (f_X4_cellOf r_4).bind fun r_6 => rec ((x2 ||| (1 <<< (r_6 &&& 31))), (x3 + 1)))
def f_X5_cellsReached_l23 (reached : Int32) (ord : Nat → Int32) : Nat → (Int32 × Int32) → Option (Int32) := nx_lp (fun rec z => f_X5_cellsReached_b23 reached ord rec z.1 z.2)
def f_X5_cellsReached (N : Nat) (x1 : Int32) (size : Int32) (on : Int32) (kinds : Nat → Int32) (marks : Nat → Int32) (nb : Nat → Int32) (reached : Int32) (dist : Nat → Int32) (lastW : Nat → Int32) (par : Nat → Int32) (ord : Nat → Int32) (paths : Nat → Int64) : Option (Int32 × (Int32 × (Nat → Int32) × (Nat → Int32) × (Nat → Int32) × (Nat → Int32) × (Nat → Int64))) :=
  (f_X8_begin N x1 reached dist lastW par ord paths).bind fun t_14 => (f_X8_spread_r12 N size on kinds marks nb t_14.1 t_14.2.1 t_14.2.2.1 t_14.2.2.2.1 t_14.2.2.2.2.1 t_14.2.2.2.2.2).bind fun t_22 => (f_X5_cellsReached_l23 t_22.1 t_22.2.2.2.2.1 N (0, 0)).bind fun z_23 => (f_J6_bitCount_0f7a4 z_23).bind fun r_26 => some (r_26, (t_22.1, t_22.2.1, t_22.2.2.1, t_22.2.2.2.1, t_22.2.2.2.2.1, t_22.2.2.2.2.2))
set_option maxHeartbeats 4000000 in
set_option maxRecDepth 100000 in
theorem c_X5_cellsReached (l : Launch) (N : Nat) (E : nx_E) (sz : Nat) (a : Nat → Nat) (size : Int32) (on : Int32) (kinds : Nat → Int32) (marks : Nat → Int32) (nb : Nat → Int32) (reached : Int32) (dist : Nat → Int32) (lastW : Nat → Int32) (par : Nat → Int32) (ord : Nat → Int32) (paths : Nat → Int64) (costs : Nat → Int32) (wanted : Int32) (tlen : Int32) (onlyF : Int32) (found : Int32) (steps : Nat → Int32) (plen : Int32) (rowW : Nat → Int32) (rowS : Nat → Int32) (tally : Nat → Int32) (x1 : Int32) (hI : nx_inj a 24) (o : Int32 × (Int32 × (Nat → Int32) × (Nat → Int32) × (Nat → Int32) × (Nat → Int32) × (Nat → Int64))) (h : f_X5_cellsReached N x1 size on kinds marks nb reached dist lastW par ord paths = some o) : Met l yX5_cellsReached (.code yX5_cellsReached cX5_cellsReached 4 (some .int) :: nx_T) (nx_rm 4 95) (va_Pc [.ref (a 13), .int x1] (nx_P E (nx_A a 24 sz) sz (cW E a size on kinds marks nb reached dist lastW par ord paths costs wanted tlen onlyF found steps plen rowW rowS tally))) (va_Qi (fun v u => (v, u) = o) (fun u t => va_P E.1 vwCl (cW E a size on kinds marks nb (u.1) (u.2.1) (u.2.2.1) (u.2.2.2.1) (u.2.2.2.2.1) (u.2.2.2.2.2) costs wanted tlen onlyF found steps plen rowW rowS tally) t.heap) (nx_A a 24 sz)) 0 0 (nx_A a 24 sz) := by
  refine nx_enI (fun v u => (v, u) = o) (fun (u : Int32 × (Nat → Int32) × (Nat → Int32) × (Nat → Int32) × (Nat → Int32) × (Nat → Int64)) => (cW E a size on kinds marks nb (u.1) (u.2.1) (u.2.2.1) (u.2.2.2.1) (u.2.2.2.2.1) (u.2.2.2.2.2) costs wanted tlen onlyF found steps plen rowW rowS tally)) (by decide) (Nat.le_of_ble_eq_true rfl) ?_
  intro p e s m below meth c Q X kr hsz hP ls hl
  subst hsz
  generalize hargs : (List.toArray [.ref (a 13), .int x1] : Array Value) = args at X kr ⊢
  clear hargs
  obtain ⟨⟨hx, hb, hml, hown, hts⟩, hK, hSt, hNz⟩ := id X
  have hS : va_S (nx_A a 24 s.heap.size) s.heap s.heap [] := va_S.rf
  have hl : lv_has ls 4 [(0, .ref (a 13)), (1, .int x1)] := hl
  have L23 : ∀ (reached : Int32) (ord : Nat → Int32) (dist : Nat → Int32) (lastW : Nat → Int32) (par : Nat → Int32) (paths : Nat → Int64) (n : Nat) (x2 : Int32) (x3 : Int32) (z : (Int32)), f_X5_cellsReached_l23 reached ord n (x2, x3) = some z → ∀ (H : Heap) (locs : List Loc) (ls : Array Slot), va_P E.1 vwCl (cW E a size on kinds marks nb reached dist lastW par ord paths costs wanted tlen onlyF found steps plen rowW rowS tally) H → va_S (nx_A a 24 s.heap.size) s.heap H locs → lv_has ls 4 [(0, .ref (a 13)), (2, .int x2), (3, .int x3)] → ∀ (kR : ∀ (H : Heap) (locs : List Loc) (ls : Array Slot), va_P E.1 vwCl (cW E a size on kinds marks nb reached dist lastW par ord paths costs wanted tlen onlyF found steps plen rowW rowS tally) H → va_S (nx_A a 24 s.heap.size) s.heap H locs → lv_has ls 4 [(0, .ref (a 13)), (2, .int z)] → W p l e (nx_rm 4 95) s m args below meth c H locs 0 0 Q (F0 m 56 ls [])), W p l e (nx_rm 4 95) s m args below meth c H locs 0 0 Q (F0 m 23 ls []) := by
   intro reached ord dist lastW par paths n
   induction n with
   | zero => intro x2 x3 z h; exact nomatch (show none = some z from h)
   | succ n ih =>
    intro x2 x3 z h H locs ls hP hS hl kR
    have h : f_X5_cellsReached_b23 reached ord (f_X5_cellsReached_l23 reached ord n) x2 x3 = some z := h
    unfold f_X5_cellsReached_b23 at h
    refine lv_iload_n hx hb dX5_cellsReached_23 rfl (lv_at hl 2 rfl) ?_
    refine lv_aload_n hx hb dX5_cellsReached_24 rfl (lv_at hl 0 rfl) ?_
    refine nx_gf X hP uw_X5 (ci := 5) rfl 13 rfl 1 (by decide) wf_RX5_19 rfl dX5_cellsReached_25 ?_
    obtain ⟨r_2, hc_1, h⟩ := nx_bd h
    refine nx_ki (nx_runV (As := []) (rest := [.int x3]) X hS hP (c_X8_reached l E H.size a size on kinds marks nb reached dist lastW par ord paths costs wanted tlen onlyF found steps plen rowW rowS tally _ hc_1) nx_FA qV_RX5_40 ⟨rfl, rfl⟩ ⟨Nat.le_of_ble_eq_true rfl, Nat.le_of_ble_eq_true rfl⟩ ⟨Nat.zero_le _, Nat.zero_le _⟩ 6 rfl rfl rfl rfl hl.1 (Nat.le_of_ble_eq_true rfl) dX5_cellsReached_28) hS nx_FA (fun H locs hP hS => ?_)
    refine lv_icmp_ge (tgt := 56) hx hb dX5_cellsReached_31 (by decide) (fun hc => ?_) (fun hc => ?_)
    · have h := nx_it h hc
      obtain rfl := Option.some.inj h
      exact kR H locs ls hP hS (lv_sub hl [0, 1] rfl)
    · have h := nx_if h hc
      refine lv_iload_n hx hb dX5_cellsReached_34 rfl (lv_at hl 1 rfl) ?_
      refine lv_iconst (v := 1) hx hb dX5_cellsReached_35 (by decide) ?_
      refine lv_aload_n hx hb dX5_cellsReached_36 rfl (lv_at hl 0 rfl) ?_
      refine nx_gf X hP uw_X5 (ci := 5) rfl 13 rfl 1 (by decide) wf_RX5_19 rfl dX5_cellsReached_37 ?_
      refine lv_iload_n hx hb dX5_cellsReached_40 rfl (lv_at hl 2 rfl) ?_
      obtain ⟨r_4, hc_3, h⟩ := nx_bd h
      refine nx_ki (nx_runV (As := [.int x3]) (rest := [.int 1, .int x2]) X hS hP (c_X8_reachedAt l E H.size a size on kinds marks nb reached dist lastW par ord paths costs wanted tlen onlyF found steps plen rowW rowS tally x3 _ hc_3) nx_FA qV_RX5_44 ⟨rfl, rfl⟩ ⟨Nat.le_of_ble_eq_true rfl, Nat.le_of_ble_eq_true rfl⟩ ⟨Nat.zero_le _, Nat.zero_le _⟩ 6 rfl rfl rfl rfl hl.1 (Nat.le_of_ble_eq_true rfl) dX5_cellsReached_41) hS nx_FA (fun H locs hP hS => ?_)
      obtain ⟨r_6, hc_5, h⟩ := nx_bd h
      refine nx_ki (nx_runS (As := [.int r_4]) (rest := [.int 1, .int x2]) X hS hP (c_X4_cellOf l E H.size _ r_4 _ hc_5) nx_FA qS_RX5_91 ⟨rfl, rfl⟩ ⟨Nat.le_of_ble_eq_true rfl, Nat.le_of_ble_eq_true rfl⟩ ⟨Nat.zero_le _, Nat.zero_le _⟩ rfl rfl hl.1 (Nat.le_of_ble_eq_true rfl) dX5_cellsReached_44) hS nx_FA (fun H locs hP hS => ?_)
      refine lv_ishl hx hb dX5_cellsReached_47 ?_
      refine lv_ior hx hb dX5_cellsReached_48 ?_
      refine lv_istore_n (lv' := [(2, .int (x2 ||| (1 <<< (r_6 &&& 31)))), (0, .ref (a 13)), (3, .int x3)]) hx hb dX5_cellsReached_49 rfl hl (by decide) rfl (fun ls hl => ?_)
      refine lv_iinc (v := (x3 + 1)) (lv' := [(3, .int (x3 + 1)), (2, .int (x2 ||| (1 <<< (r_6 &&& 31)))), (0, .ref (a 13))]) hx hb dX5_cellsReached_50 hl (k := 2) rfl rfl (by decide) rfl (fun ls hl => ?_)
      refine lv_goto (tgt := 23) hx hb dX5_cellsReached_53 (by decide) ?_
      exact ih _ _ z h H locs ls hP hS (lv_sub hl [2, 1, 0] rfl) kR
  unfold f_X5_cellsReached at h
  suffices hw : ∀ (H : Heap) (locs : List Loc), va_P E.1 vwCl (cW E a size on kinds marks nb reached dist lastW par ord paths costs wanted tlen onlyF found steps plen rowW rowS tally) H → va_S (nx_A a 24 s.heap.size) s.heap H locs → W p l e (nx_rm 4 95) s m args below meth c H locs 0 0 Q (F0 m 0 ls []) from hw _ _ hP va_S.rf
  intro H locs hP hS
  refine lv_aload_n hx hb dX5_cellsReached_0 rfl (lv_at hl 0 rfl) ?_
  refine nx_gf X hP uw_X5 (ci := 5) rfl 13 rfl 1 (by decide) wf_RX5_19 rfl dX5_cellsReached_1 ?_
  refine lv_iload_n hx hb dX5_cellsReached_4 rfl (lv_at hl 1 rfl) ?_
  obtain ⟨⟨k_8, k_9, k_10, k_11, k_12, k_13⟩, hc_7, h⟩ := nx_bd h
  refine nx_kv (nx_runV (As := [.int x1]) (rest := []) X hS hP (c_X8_begin l N E H.size a size on kinds marks nb reached dist lastW par ord paths costs wanted tlen onlyF found steps plen rowW rowS tally x1 hI _ hc_7) (nx_Am hS.1) qV_RX5_55 ⟨rfl, rfl⟩ ⟨Nat.le_of_ble_eq_true rfl, Nat.le_of_ble_eq_true rfl⟩ ⟨Nat.zero_le _, Nat.zero_le _⟩ 6 rfl rfl rfl rfl hl.1 (Nat.le_of_ble_eq_true rfl) dX5_cellsReached_5) hS (nx_Am hS.1) (fun H locs hP hS => ?_)
  have hP : va_P E.1 vwCl (cW E a size on kinds marks nb k_8 k_9 k_10 k_11 k_12 k_13 costs wanted tlen onlyF found steps plen rowW rowS tally) H := hP
  refine lv_aload_n hx hb dX5_cellsReached_8 rfl (lv_at hl 0 rfl) ?_
  refine nx_gf X hP uw_X5 (ci := 5) rfl 13 rfl 1 (by decide) wf_RX5_19 rfl dX5_cellsReached_9 ?_
  refine lv_aload_n hx hb dX5_cellsReached_12 rfl (lv_at hl 0 rfl) ?_
  refine nx_gf X hP uw_X5 (ci := 5) rfl 13 rfl 0 (by decide) wf_RX5_15 rfl dX5_cellsReached_13 ?_
  obtain ⟨⟨k_16, k_17, k_18, k_19, k_20, k_21⟩, hc_15, h⟩ := nx_bd h
  refine nx_kv (nx_runV (As := [.ref (a 12)]) (rest := []) X hS hP (c_X8_spread_r12 l N E H.size a size on kinds marks nb k_8 k_9 k_10 k_11 k_12 k_13 costs wanted tlen onlyF found steps plen rowW rowS tally hI _ hc_15) (nx_Am hS.1) qV_RX5_59 ⟨rfl, rfl⟩ ⟨Nat.le_of_ble_eq_true rfl, Nat.le_of_ble_eq_true rfl⟩ ⟨Nat.zero_le _, Nat.zero_le _⟩ 6 rfl rfl rfl rfl hl.1 (Nat.le_of_ble_eq_true rfl) dX5_cellsReached_16) hS (nx_Am hS.1) (fun H locs hP hS => ?_)
  have hP : va_P E.1 vwCl (cW E a size on kinds marks nb k_16 k_17 k_18 k_19 k_20 k_21 costs wanted tlen onlyF found steps plen rowW rowS tally) H := hP
  refine lv_iconst (v := 0) hx hb dX5_cellsReached_19 (by decide) ?_
  refine lv_istore_n (lv' := [(2, .int 0), (0, .ref (a 13)), (1, .int x1)]) hx hb dX5_cellsReached_20 rfl hl (by decide) rfl (fun ls hl => ?_)
  refine lv_iconst (v := 0) hx hb dX5_cellsReached_21 (by decide) ?_
  refine lv_istore_n (lv' := [(3, .int 0), (2, .int 0), (0, .ref (a 13)), (1, .int x1)]) hx hb dX5_cellsReached_22 rfl hl (by decide) rfl (fun ls hl => ?_)
  obtain ⟨z_23, hz_24, h⟩ := nx_bd h
  refine L23 _ _ _ _ _ _ N _ _ _ hz_24 H locs ls hP hS (lv_sub hl [2, 1, 0] rfl) (fun H locs ls hP hS hl => ?_)
  refine lv_iload_n hx hb dX5_cellsReached_56 rfl (lv_at hl 1 rfl) ?_
  obtain ⟨r_26, hc_25, h⟩ := nx_bd h
  refine nx_ki (nx_runS (As := [.int z_23]) (rest := []) X hS hP (c_J6_bitCount_0f7a4 l E H.size _ z_23 _ hc_25) nx_FA qS_RX5_98 ⟨rfl, rfl⟩ ⟨Nat.le_of_ble_eq_true rfl, Nat.le_of_ble_eq_true rfl⟩ ⟨Nat.zero_le _, Nat.zero_le _⟩ rfl rfl hl.1 (Nat.le_of_ble_eq_true rfl) dX5_cellsReached_57) hS nx_FA (fun H locs hP hS => ?_)
  exact kr 60 ls r_26 (k_16, k_17, k_18, k_19, k_20, k_21) H locs dX5_cellsReached_60 (Option.some.inj h) hP hS
def f_X10_reach (N : Nat) (x1 : Int32) (x2 : Int32) (size : Int32) (on : Int32) (kinds : Nat → Int32) (marks : Nat → Int32) (nb : Nat → Int32) (reached : Int32) (dist : Nat → Int32) (lastW : Nat → Int32) (par : Nat → Int32) (ord : Nat → Int32) (paths : Nat → Int64) : Option (Int32 × (Int32 × (Nat → Int32) × (Nat → Int32) × (Nat → Int32) × (Nat → Int32) × (Nat → Int64))) :=
  (f_X10_isStart x1 x2 size).bind fun r_2 => if r_2 = 0 then (some ((-1), (reached, dist, lastW, par, ord, paths))) else ((f_X4_at x1 x2).bind fun r_4 => (f_X5_cellsReached N r_4 size on kinds marks nb reached dist lastW par ord paths).bind fun t_13 => some (t_13.1, (t_13.2.1, t_13.2.2.1, t_13.2.2.2.1, t_13.2.2.2.2.1, t_13.2.2.2.2.2.1, t_13.2.2.2.2.2.2)))
set_option maxHeartbeats 4000000 in
set_option maxRecDepth 100000 in
theorem c_X10_reach (l : Launch) (N : Nat) (E : nx_E) (sz : Nat) (a : Nat → Nat) (size : Int32) (on : Int32) (kinds : Nat → Int32) (marks : Nat → Int32) (nb : Nat → Int32) (reached : Int32) (dist : Nat → Int32) (lastW : Nat → Int32) (par : Nat → Int32) (ord : Nat → Int32) (paths : Nat → Int64) (costs : Nat → Int32) (wanted : Int32) (tlen : Int32) (onlyF : Int32) (found : Int32) (steps : Nat → Int32) (plen : Int32) (rowW : Nat → Int32) (rowS : Nat → Int32) (tally : Nat → Int32) (x1 : Int32) (x2 : Int32) (hI : nx_inj a 24) (o : Int32 × (Int32 × (Nat → Int32) × (Nat → Int32) × (Nat → Int32) × (Nat → Int32) × (Nat → Int64))) (h : f_X10_reach N x1 x2 size on kinds marks nb reached dist lastW par ord paths = some o) : Met l yX10_reach (.code yX10_reach cX10_reach 3 (some .int) :: nx_T) (nx_rm 5 118) (va_Pc [.ref (a 0), .int x1, .int x2] (nx_P E (nx_A a 24 sz) sz (cW E a size on kinds marks nb reached dist lastW par ord paths costs wanted tlen onlyF found steps plen rowW rowS tally))) (va_Qi (fun v u => (v, u) = o) (fun u t => va_P E.1 vwCl (cW E a size on kinds marks nb (u.1) (u.2.1) (u.2.2.1) (u.2.2.2.1) (u.2.2.2.2.1) (u.2.2.2.2.2) costs wanted tlen onlyF found steps plen rowW rowS tally) t.heap) (nx_A a 24 sz)) 0 0 (nx_A a 24 sz) := by
  refine nx_enI (fun v u => (v, u) = o) (fun (u : Int32 × (Nat → Int32) × (Nat → Int32) × (Nat → Int32) × (Nat → Int32) × (Nat → Int64)) => (cW E a size on kinds marks nb (u.1) (u.2.1) (u.2.2.1) (u.2.2.2.1) (u.2.2.2.2.1) (u.2.2.2.2.2) costs wanted tlen onlyF found steps plen rowW rowS tally)) (by decide) (Nat.le_of_ble_eq_true rfl) ?_
  intro p e s m below meth c Q X kr hsz hP ls hl
  subst hsz
  generalize hargs : (List.toArray [.ref (a 0), .int x1, .int x2] : Array Value) = args at X kr ⊢
  clear hargs
  obtain ⟨⟨hx, hb, hml, hown, hts⟩, hK, hSt, hNz⟩ := id X
  have hS : va_S (nx_A a 24 s.heap.size) s.heap s.heap [] := va_S.rf
  have hl : lv_has ls 3 [(0, .ref (a 0)), (1, .int x1), (2, .int x2)] := hl
  unfold f_X10_reach at h
  suffices hw : ∀ (H : Heap) (locs : List Loc), va_P E.1 vwCl (cW E a size on kinds marks nb reached dist lastW par ord paths costs wanted tlen onlyF found steps plen rowW rowS tally) H → va_S (nx_A a 24 s.heap.size) s.heap H locs → W p l e (nx_rm 5 118) s m args below meth c H locs 0 0 Q (F0 m 0 ls []) from hw _ _ hP va_S.rf
  intro H locs hP hS
  refine lv_aload_n hx hb dX10_reach_0 rfl (lv_at hl 0 rfl) ?_
  refine lv_iload_n hx hb dX10_reach_1 rfl (lv_at hl 1 rfl) ?_
  refine lv_iload_n hx hb dX10_reach_2 rfl (lv_at hl 2 rfl) ?_
  obtain ⟨r_2, hc_1, h⟩ := nx_bd h
  refine nx_ki (nx_runV (As := [.int x1, .int x2]) (rest := []) X hS hP (c_X10_isStart l E H.size a size on kinds marks nb reached dist lastW par ord paths costs wanted tlen onlyF found steps plen rowW rowS tally x1 x2 _ hc_1) nx_FA qV_RX10_149 ⟨rfl, rfl⟩ ⟨Nat.le_of_ble_eq_true rfl, Nat.le_of_ble_eq_true rfl⟩ ⟨Nat.zero_le _, Nat.zero_le _⟩ 0 rfl rfl rfl rfl hl.1 (Nat.le_of_ble_eq_true rfl) dX10_reach_3) hS nx_FA (fun H locs hP hS => ?_)
  refine lv_if_eq (tgt := 24) hx hb dX10_reach_6 (by decide) (fun hc => ?_) (fun hc => ?_)
  · have h := nx_it h hc
    refine lv_iconst (v := (-1)) hx hb dX10_reach_24 (by decide) ?_
    exact kr 25 ls (-1) (reached, dist, lastW, par, ord, paths) H locs dX10_reach_25 (Option.some.inj h) hP hS
  · have h := nx_if h hc
    refine lv_aload_n hx hb dX10_reach_9 rfl (lv_at hl 0 rfl) ?_
    refine nx_gf X hP uw_X10 (ci := 9) rfl 0 rfl 4 (by decide) wf_RX10_44 rfl dX10_reach_10 ?_
    refine lv_iload_n hx hb dX10_reach_13 rfl (lv_at hl 1 rfl) ?_
    refine lv_iload_n hx hb dX10_reach_14 rfl (lv_at hl 2 rfl) ?_
    obtain ⟨r_4, hc_3, h⟩ := nx_bd h
    refine nx_ki (nx_runS (As := [.int x1, .int x2]) (rest := [.ref (a 13)]) X hS hP (c_X4_at l E H.size _ x1 x2 _ hc_3) nx_FA qS_RX10_152 ⟨rfl, rfl⟩ ⟨Nat.le_of_ble_eq_true rfl, Nat.le_of_ble_eq_true rfl⟩ ⟨Nat.zero_le _, Nat.zero_le _⟩ rfl rfl hl.1 (Nat.le_of_ble_eq_true rfl) dX10_reach_15) hS nx_FA (fun H locs hP hS => ?_)
    obtain ⟨⟨r_6, ⟨k_7, k_8, k_9, k_10, k_11, k_12⟩⟩, hc_5, h⟩ := nx_bd h
    refine nx_kwi (nx_runV (As := [.int r_4]) (rest := []) X hS hP (c_X5_cellsReached l N E H.size a size on kinds marks nb reached dist lastW par ord paths costs wanted tlen onlyF found steps plen rowW rowS tally r_4 hI _ hc_5) (nx_Am hS.1) qV_RX10_179 ⟨rfl, rfl⟩ ⟨Nat.le_of_ble_eq_true rfl, Nat.le_of_ble_eq_true rfl⟩ ⟨Nat.zero_le _, Nat.zero_le _⟩ 13 rfl rfl rfl rfl hl.1 (Nat.le_of_ble_eq_true rfl) dX10_reach_18) hS (nx_Am hS.1) (fun H locs hP hS => ?_)
    have hP : va_P E.1 vwCl (cW E a size on kinds marks nb k_7 k_8 k_9 k_10 k_11 k_12 costs wanted tlen onlyF found steps plen rowW rowS tally) H := hP
    refine lv_goto (tgt := 25) hx hb dX10_reach_21 (by decide) ?_
    exact kr 25 ls r_6 (k_7, k_8, k_9, k_10, k_11, k_12) H locs dX10_reach_25 (Option.some.inj h) hP hS
def f_X10_refusalOfTour_j25 (N : Nat) (x1 : Int32) (size : Int32) (on : Int32) (kinds : Nat → Int32) : Option (Int32) :=
  (f_X2_groupsOn on).bind fun r_2 => (f_X2_isOpen x1 r_2 size kinds).bind fun r_4 => if r_4 = 0 then (some (-3)) else ((f_X2_openCells N size on kinds).bind fun r_6 => if 16 < r_6 then (some (-3)) else (some 0))
def f_X10_refusalOfTour (N : Nat) (x1 : Int32) (x2 : Int32) (x3 : Int32) (size : Int32) (on : Int32) (kinds : Nat → Int32) : Option (Int32) :=
  (f_X10_isStart x1 x2 size).bind fun r_8 => if r_8 = 0 then (some (-1)) else (if x3 = 0 then (f_X10_refusalOfTour_j25 N x1 size on kinds) else ((f_X10_isFace x3).bind fun r_10 => if r_10 = 0 then (some (-2)) else (f_X10_refusalOfTour_j25 N x1 size on kinds)))
set_option maxHeartbeats 4000000 in
set_option maxRecDepth 100000 in
theorem c_X10_refusalOfTour (l : Launch) (N : Nat) (E : nx_E) (sz : Nat) (a : Nat → Nat) (size : Int32) (on : Int32) (kinds : Nat → Int32) (marks : Nat → Int32) (nb : Nat → Int32) (reached : Int32) (dist : Nat → Int32) (lastW : Nat → Int32) (par : Nat → Int32) (ord : Nat → Int32) (paths : Nat → Int64) (costs : Nat → Int32) (wanted : Int32) (tlen : Int32) (onlyF : Int32) (found : Int32) (steps : Nat → Int32) (plen : Int32) (rowW : Nat → Int32) (rowS : Nat → Int32) (tally : Nat → Int32) (x1 : Int32) (x2 : Int32) (x3 : Int32) (o : Int32) (h : f_X10_refusalOfTour N x1 x2 x3 size on kinds = some o) : Met l yX10_refusalOfTour (.code yX10_refusalOfTour cX10_refusalOfTour 5 (some .int) :: nx_T) (nx_rm 2 45) (va_Pc [.ref (a 0), .int x1, .int x2, .int x3] (nx_P E (nx_F) sz (cW E a size on kinds marks nb reached dist lastW par ord paths costs wanted tlen onlyF found steps plen rowW rowS tally))) (va_Qi (fun v (_ : Unit) => v = o) (fun _ t => va_P E.1 vwCl (cW E a size on kinds marks nb reached dist lastW par ord paths costs wanted tlen onlyF found steps plen rowW rowS tally) t.heap) (nx_F)) 0 0 (nx_F) := by
  refine nx_enI (fun v (_ : Unit) => v = o) (fun (_ : Unit) => (cW E a size on kinds marks nb reached dist lastW par ord paths costs wanted tlen onlyF found steps plen rowW rowS tally)) (by decide) (Nat.le_of_ble_eq_true rfl) ?_
  intro p e s m below meth c Q X kr hsz hP ls hl
  subst hsz
  generalize hargs : (List.toArray [.ref (a 0), .int x1, .int x2, .int x3] : Array Value) = args at X kr ⊢
  clear hargs
  obtain ⟨⟨hx, hb, hml, hown, hts⟩, hK, hSt, hNz⟩ := id X
  have hS : va_S (nx_F) s.heap s.heap [] := va_S.rf
  have hl : lv_has ls 5 [(0, .ref (a 0)), (1, .int x1), (2, .int x2), (3, .int x3)] := hl
  have J25 : ∀ (x1 : Int32), f_X10_refusalOfTour_j25 N x1 size on kinds = some o → ∀ (H : Heap) (locs : List Loc) (ls : Array Slot), va_P E.1 vwCl (cW E a size on kinds marks nb reached dist lastW par ord paths costs wanted tlen onlyF found steps plen rowW rowS tally) H → va_S (nx_F) s.heap H locs → lv_has ls 5 [(0, .ref (a 0)), (1, .int x1)] → W p l e (nx_rm 2 45) s m args below meth c H locs 0 0 Q (F0 m 25 ls []) := by
    intro x1 h H locs ls hP hS hl
    unfold f_X10_refusalOfTour_j25 at h
    refine lv_aload_n hx hb dX10_refusalOfTour_25 rfl (lv_at hl 0 rfl) ?_
    refine nx_gf X hP uw_X10 (ci := 9) rfl 0 rfl 0 (by decide) wf_RX10_12 rfl dX10_refusalOfTour_26 ?_
    refine lv_iload_n hx hb dX10_refusalOfTour_29 rfl (lv_at hl 1 rfl) ?_
    refine lv_aload_n hx hb dX10_refusalOfTour_30 rfl (lv_at hl 0 rfl) ?_
    refine nx_gf X hP uw_X10 (ci := 9) rfl 0 rfl 0 (by decide) wf_RX10_12 rfl dX10_refusalOfTour_31 ?_
    obtain ⟨r_2, hc_1, h⟩ := nx_bd h
    refine nx_ki (nx_runV (As := []) (rest := [.int x1, .ref (a 1)]) X hS hP (c_X2_groupsOn l E H.size a size on kinds marks nb reached dist lastW par ord paths costs wanted tlen onlyF found steps plen rowW rowS tally _ hc_1) nx_FA qV_RX10_99 ⟨rfl, rfl⟩ ⟨Nat.le_of_ble_eq_true rfl, Nat.le_of_ble_eq_true rfl⟩ ⟨Nat.zero_le _, Nat.zero_le _⟩ 1 rfl rfl rfl rfl hl.1 (Nat.le_of_ble_eq_true rfl) dX10_refusalOfTour_34) hS nx_FA (fun H locs hP hS => ?_)
    obtain ⟨r_4, hc_3, h⟩ := nx_bd h
    refine nx_ki (nx_runV (As := [.int x1, .int r_2]) (rest := []) X hS hP (c_X2_isOpen l E H.size a size on kinds marks nb reached dist lastW par ord paths costs wanted tlen onlyF found steps plen rowW rowS tally x1 r_2 _ hc_3) nx_FA qV_RX10_102 ⟨rfl, rfl⟩ ⟨Nat.le_of_ble_eq_true rfl, Nat.le_of_ble_eq_true rfl⟩ ⟨Nat.zero_le _, Nat.zero_le _⟩ 1 rfl rfl rfl rfl hl.1 (Nat.le_of_ble_eq_true rfl) dX10_refusalOfTour_37) hS nx_FA (fun H locs hP hS => ?_)
    refine lv_istore (lv' := [(4, .int r_4), (0, .ref (a 0)), (1, .int x1)]) hx hb dX10_refusalOfTour_40 hl (by decide) rfl (fun ls hl => ?_)
    refine lv_iload hx hb dX10_refusalOfTour_42 (lv_at hl 0 rfl) ?_
    refine lv_if_eq (tgt := 63) hx hb dX10_refusalOfTour_44 (by decide) (fun hc => ?_) (fun hc => ?_)
    · have h := nx_it h hc
      refine lv_bipush (v := (-3)) hx hb dX10_refusalOfTour_63 (by decide) ?_
      exact kr 65 ls (-3) () H locs dX10_refusalOfTour_65 (Option.some.inj h) hP hS
    · have h := nx_if h hc
      refine lv_aload_n hx hb dX10_refusalOfTour_47 rfl (lv_at hl 1 rfl) ?_
      refine nx_gf X hP uw_X10 (ci := 9) rfl 0 rfl 0 (by decide) wf_RX10_12 rfl dX10_refusalOfTour_48 ?_
      obtain ⟨r_6, hc_5, h⟩ := nx_bd h
      refine nx_ki (nx_runV (As := []) (rest := []) X hS hP (c_X2_openCells l N E H.size a size on kinds marks nb reached dist lastW par ord paths costs wanted tlen onlyF found steps plen rowW rowS tally _ hc_5) nx_FA qV_RX10_234 ⟨rfl, rfl⟩ ⟨Nat.le_of_ble_eq_true rfl, Nat.le_of_ble_eq_true rfl⟩ ⟨Nat.zero_le _, Nat.zero_le _⟩ 1 rfl rfl rfl rfl hl.1 (Nat.le_of_ble_eq_true rfl) dX10_refusalOfTour_51) hS nx_FA (fun H locs hP hS => ?_)
      refine lv_bipush (v := 16) hx hb dX10_refusalOfTour_54 (by decide) ?_
      refine lv_icmp_gt (tgt := 63) hx hb dX10_refusalOfTour_56 (by decide) (fun hc => ?_) (fun hc => ?_)
      · have h := nx_it h hc
        refine lv_bipush (v := (-3)) hx hb dX10_refusalOfTour_63 (by decide) ?_
        exact kr 65 ls (-3) () H locs dX10_refusalOfTour_65 (Option.some.inj h) hP hS
      · have h := nx_if h hc
        refine lv_iconst (v := 0) hx hb dX10_refusalOfTour_59 (by decide) ?_
        refine lv_goto (tgt := 65) hx hb dX10_refusalOfTour_60 (by decide) ?_
        exact kr 65 ls 0 () H locs dX10_refusalOfTour_65 (Option.some.inj h) hP hS
  unfold f_X10_refusalOfTour at h
  suffices hw : ∀ (H : Heap) (locs : List Loc), va_P E.1 vwCl (cW E a size on kinds marks nb reached dist lastW par ord paths costs wanted tlen onlyF found steps plen rowW rowS tally) H → va_S (nx_F) s.heap H locs → W p l e (nx_rm 2 45) s m args below meth c H locs 0 0 Q (F0 m 0 ls []) from hw _ _ hP va_S.rf
  intro H locs hP hS
  refine lv_aload_n hx hb dX10_refusalOfTour_0 rfl (lv_at hl 0 rfl) ?_
  refine lv_iload_n hx hb dX10_refusalOfTour_1 rfl (lv_at hl 1 rfl) ?_
  refine lv_iload_n hx hb dX10_refusalOfTour_2 rfl (lv_at hl 2 rfl) ?_
  obtain ⟨r_8, hc_7, h⟩ := nx_bd h
  refine nx_ki (nx_runV (As := [.int x1, .int x2]) (rest := []) X hS hP (c_X10_isStart l E H.size a size on kinds marks nb reached dist lastW par ord paths costs wanted tlen onlyF found steps plen rowW rowS tally x1 x2 _ hc_7) nx_FA qV_RX10_149 ⟨rfl, rfl⟩ ⟨Nat.le_of_ble_eq_true rfl, Nat.le_of_ble_eq_true rfl⟩ ⟨Nat.zero_le _, Nat.zero_le _⟩ 0 rfl rfl rfl rfl hl.1 (Nat.le_of_ble_eq_true rfl) dX10_refusalOfTour_3) hS nx_FA (fun H locs hP hS => ?_)
  refine lv_if_ne (tgt := 11) hx hb dX10_refusalOfTour_6 (by decide) (fun hc => ?_) (fun hc => ?_)
  · have h := nx_if h hc
    refine lv_iload_n hx hb dX10_refusalOfTour_11 rfl (lv_at hl 3 rfl) ?_
    refine lv_if_eq (tgt := 25) hx hb dX10_refusalOfTour_12 (by decide) (fun hc => ?_) (fun hc => ?_)
    · have h := nx_it h hc
      exact J25 _ h H locs ls hP hS (lv_sub hl [0, 1] rfl)
    · have h := nx_if h hc
      refine lv_iload_n hx hb dX10_refusalOfTour_15 rfl (lv_at hl 3 rfl) ?_
      obtain ⟨r_10, hc_9, h⟩ := nx_bd h
      refine nx_ki (nx_runS (As := [.int x3]) (rest := []) X hS hP (c_X10_isFace l E H.size _ x3 _ hc_9) nx_FA qS_RX10_129 ⟨rfl, rfl⟩ ⟨Nat.le_of_ble_eq_true rfl, Nat.le_of_ble_eq_true rfl⟩ ⟨Nat.zero_le _, Nat.zero_le _⟩ rfl rfl hl.1 (Nat.le_of_ble_eq_true rfl) dX10_refusalOfTour_16) hS nx_FA (fun H locs hP hS => ?_)
      refine lv_if_ne (tgt := 25) hx hb dX10_refusalOfTour_19 (by decide) (fun hc => ?_) (fun hc => ?_)
      · have h := nx_if h hc
        exact J25 _ h H locs ls hP hS (lv_sub hl [0, 1] rfl)
      · have h := nx_it h hc
        refine lv_bipush (v := (-2)) hx hb dX10_refusalOfTour_22 (by decide) ?_
        exact kr 24 ls (-2) () H locs dX10_refusalOfTour_24 (Option.some.inj h) hP hS
  · have h := nx_it h hc
    refine lv_iconst (v := (-1)) hx hb dX10_refusalOfTour_9 (by decide) ?_
    exact kr 10 ls (-1) () H locs dX10_refusalOfTour_10 (Option.some.inj h) hP hS
def f_X9_extend_j61 (self : (Int32 → Int32 → Int32 → Int32 → (Nat → Int32) → Option (Int32 × (Nat → Int32)))) (rec : (Int32 × Int32 × (Nat → Int32)) → Option (Int32 × (Nat → Int32))) (x1 : Int32) (x2 : Int32) (x3 : Int32) (x4 : Int32) (size : Int32) (on : Int32) (kinds : Nat → Int32) (marks : Nat → Int32) (nb : Nat → Int32) (wanted : Int32) (tlen : Int32) (onlyF : Int32) (found : Int32) (steps : Nat → Int32) : Option (Int32 × (Nat → Int32)) :=
  (f_X4_after x1 x4 size on kinds marks nb).bind fun r_2 => (f_X4_cellOf r_2).bind fun r_4 => if r_2 = (-1) then (rec ((x4 + 1), found, steps)) else (if (x2 &&& (1 <<< (r_4 &&& 31))) = 0 then ((nx_ck 16 x3).bind fun _ => (self r_2 (x2 ||| (1 <<< (r_4 &&& 31))) (x3 + 1) found (upd steps x3.toNatClampNeg x4)).bind fun t_9 => rec ((x4 + 1), t_9.1, t_9.2)) else (rec ((x4 + 1), found, steps)))
def f_X9_extend_b41 (self : (Int32 → Int32 → Int32 → Int32 → (Nat → Int32) → Option (Int32 × (Nat → Int32)))) (x1 : Int32) (x2 : Int32) (x3 : Int32) (size : Int32) (on : Int32) (kinds : Nat → Int32) (marks : Nat → Int32) (nb : Nat → Int32) (wanted : Int32) (tlen : Int32) (onlyF : Int32) (rec : (Int32 × Int32 × (Nat → Int32)) → Option (Int32 × (Nat → Int32))) (x4 : Int32) (found : Int32) (steps : Nat → Int32) : Option (Int32 × (Nat → Int32)) :=
  if 4 ≤ x4 then (some (found, steps)) else (if onlyF = 0 then (f_X9_extend_j61 self rec x1 x2 x3 x4 size on kinds marks nb wanted tlen onlyF found steps) else (if 0 < found then (some (found, steps)) else (f_X9_extend_j61 self rec x1 x2 x3 x4 size on kinds marks nb wanted tlen onlyF found steps)))
def f_X9_extend_l41 (self : (Int32 → Int32 → Int32 → Int32 → (Nat → Int32) → Option (Int32 × (Nat → Int32)))) (x1 : Int32) (x2 : Int32) (x3 : Int32) (size : Int32) (on : Int32) (kinds : Nat → Int32) (marks : Nat → Int32) (nb : Nat → Int32) (wanted : Int32) (tlen : Int32) (onlyF : Int32) : Nat → (Int32 × Int32 × (Nat → Int32)) → Option (Int32 × (Nat → Int32)) := nx_lp (fun rec z => f_X9_extend_b41 self x1 x2 x3 size on kinds marks nb wanted tlen onlyF rec z.1 z.2.1 z.2.2)
def f_X9_extend_j14 (x1 : Int32) (wanted : Int32) (found : Int32) (steps : Nat → Int32) : Option (Int32 × (Nat → Int32)) :=
  (f_X4_stanceOf x1).bind fun r_11 => (f_X3_meets r_11 wanted).bind fun r_13 => (f_X10_oneIf r_13).bind fun r_15 => some ((found + r_15), steps)
def f_X9_extend_s (N : Nat) (self : (Int32 → Int32 → Int32 → Int32 → (Nat → Int32) → Option (Int32 × (Nat → Int32)))) (x1 : Int32) (x2 : Int32) (x3 : Int32) (size : Int32) (on : Int32) (kinds : Nat → Int32) (marks : Nat → Int32) (nb : Nat → Int32) (wanted : Int32) (tlen : Int32) (onlyF : Int32) (found : Int32) (steps : Nat → Int32) : Option (Int32 × (Nat → Int32)) :=
  if tlen ≤ x3 then (f_X9_extend_j14 x1 wanted found steps) else (if x3 < 16 then ((f_X9_extend_l41 self x1 x2 x3 size on kinds marks nb wanted tlen onlyF N (0, found, steps)).bind fun z_16 => some (z_16.1, z_16.2)) else (f_X9_extend_j14 x1 wanted found steps))
set_option maxHeartbeats 4000000 in
set_option maxRecDepth 100000 in
theorem c_X9_extend_s (l : Launch) (N : Nat) (E : nx_E) (sz : Nat) (a : Nat → Nat) (size : Int32) (on : Int32) (kinds : Nat → Int32) (marks : Nat → Int32) (nb : Nat → Int32) (reached : Int32) (dist : Nat → Int32) (lastW : Nat → Int32) (par : Nat → Int32) (ord : Nat → Int32) (paths : Nat → Int64) (costs : Nat → Int32) (wanted : Int32) (tlen : Int32) (onlyF : Int32) (found : Int32) (steps : Nat → Int32) (plen : Int32) (rowW : Nat → Int32) (rowS : Nat → Int32) (tally : Nat → Int32) (x1 : Int32) (x2 : Int32) (x3 : Int32) (hI : nx_inj a 24) (d : Nat) (self : (Int32 → Int32 → Int32 → Int32 → (Nat → Int32) → Option (Int32 × (Nat → Int32)))) (hself : ∀ (sz : Nat) (found : Int32) (steps : Nat → Int32) (x1 x2 x3 : Int32) (o : Int32 × (Nat → Int32)), self x1 x2 x3 found steps = some o → Met l yX9_extend (.code yX9_extend cX9_extend 7 none :: nx_T) (nx_rm (3 + d) (71 + 26 * d)) (va_Pc [.ref (a 15), .int x1, .int x2, .int x3] (nx_P E (nx_A a 24 sz) sz (cW E a size on kinds marks nb reached dist lastW par ord paths costs wanted tlen onlyF found steps plen rowW rowS tally))) (va_Qv (fun u => u = o) (fun u t => va_P E.1 vwCl (cW E a size on kinds marks nb reached dist lastW par ord paths costs wanted tlen onlyF (u.1) (u.2) plen rowW rowS tally) t.heap) (nx_A a 24 sz)) 0 0 (nx_A a 24 sz)) (o : Int32 × (Nat → Int32)) (h : f_X9_extend_s N self x1 x2 x3 size on kinds marks nb wanted tlen onlyF found steps = some o) : Met l yX9_extend (.code yX9_extend cX9_extend 7 none :: nx_T) (nx_rm (3 + (d + 1)) (71 + 26 * (d + 1))) (va_Pc [.ref (a 15), .int x1, .int x2, .int x3] (nx_P E (nx_A a 24 sz) sz (cW E a size on kinds marks nb reached dist lastW par ord paths costs wanted tlen onlyF found steps plen rowW rowS tally))) (va_Qv (fun u => u = o) (fun u t => va_P E.1 vwCl (cW E a size on kinds marks nb reached dist lastW par ord paths costs wanted tlen onlyF (u.1) (u.2) plen rowW rowS tally) t.heap) (nx_A a 24 sz)) 0 0 (nx_A a 24 sz) := by
  refine nx_enV (fun u => u = o) (fun (u : Int32 × (Nat → Int32)) => (cW E a size on kinds marks nb reached dist lastW par ord paths costs wanted tlen onlyF (u.1) (u.2) plen rowW rowS tally)) (by decide) (Nat.le_of_ble_eq_true rfl) ?_
  intro p e s m below meth c Q X kr hsz hP ls hl
  subst hsz
  generalize hargs : (List.toArray [.ref (a 15), .int x1, .int x2, .int x3] : Array Value) = args at X kr ⊢
  clear hargs
  obtain ⟨⟨hx, hb, hml, hown, hts⟩, hK, hSt, hNz⟩ := id X
  have hS : va_S (nx_A a 24 s.heap.size) s.heap s.heap [] := va_S.rf
  have hl : lv_has ls 7 [(0, .ref (a 15)), (1, .int x1), (2, .int x2), (3, .int x3)] := hl
  have L41 : ∀ (x1 : Int32) (x2 : Int32) (x3 : Int32) (n : Nat) (x4 : Int32) (found : Int32) (steps : Nat → Int32) (z : (Int32 × (Nat → Int32))), f_X9_extend_l41 self x1 x2 x3 size on kinds marks nb wanted tlen onlyF n (x4, found, steps) = some z → ∀ (H : Heap) (locs : List Loc) (ls : Array Slot), va_P E.1 vwCl (cW E a size on kinds marks nb reached dist lastW par ord paths costs wanted tlen onlyF found steps plen rowW rowS tally) H → va_S (nx_A a 24 s.heap.size) s.heap H locs → lv_has ls 7 [(0, .ref (a 15)), (1, .int x1), (2, .int x2), (3, .int x3), (4, .int x4)] → ∀ (kR : ∀ (H : Heap) (locs : List Loc) (ls : Array Slot), va_P E.1 vwCl (cW E a size on kinds marks nb reached dist lastW par ord paths costs wanted tlen onlyF (z.1) (z.2) plen rowW rowS tally) H → va_S (nx_A a 24 s.heap.size) s.heap H locs → lv_has ls 7 [(0, .ref (a 15))] → W p l e (nx_rm (3 + (d + 1)) (71 + 26 * (d + 1))) s m args below meth c H locs 0 0 Q (F0 m 122 ls [])), W p l e (nx_rm (3 + (d + 1)) (71 + 26 * (d + 1))) s m args below meth c H locs 0 0 Q (F0 m 41 ls []) := by
   intro x1 x2 x3 n
   induction n with
   | zero => intro x4 found steps z h; exact nomatch (show none = some z from h)
   | succ n ih =>
    intro x4 found steps z h H locs ls hP hS hl kR
    have h : f_X9_extend_b41 self x1 x2 x3 size on kinds marks nb wanted tlen onlyF (f_X9_extend_l41 self x1 x2 x3 size on kinds marks nb wanted tlen onlyF n) x4 found steps = some z := h
    have J61 : ∀ (x4 : Int32) (found : Int32) (steps : Nat → Int32), f_X9_extend_j61 self (f_X9_extend_l41 self x1 x2 x3 size on kinds marks nb wanted tlen onlyF n) x1 x2 x3 x4 size on kinds marks nb wanted tlen onlyF found steps = some z → ∀ (H : Heap) (locs : List Loc) (ls : Array Slot), va_P E.1 vwCl (cW E a size on kinds marks nb reached dist lastW par ord paths costs wanted tlen onlyF found steps plen rowW rowS tally) H → va_S (nx_A a 24 s.heap.size) s.heap H locs → lv_has ls 7 [(0, .ref (a 15)), (1, .int x1), (2, .int x2), (3, .int x3), (4, .int x4)] → W p l e (nx_rm (3 + (d + 1)) (71 + 26 * (d + 1))) s m args below meth c H locs 0 0 Q (F0 m 61 ls []) := by
      intro x4 found steps h H locs ls hP hS hl
      unfold f_X9_extend_j61 at h
      refine lv_aload_n hx hb dX9_extend_61 rfl (lv_at hl 0 rfl) ?_
      refine nx_gf X hP uw_X9 (ci := 8) rfl 15 rfl 1 (by decide) wf_RX9_19 rfl dX9_extend_62 ?_
      refine lv_iload_n hx hb dX9_extend_65 rfl (lv_at hl 1 rfl) ?_
      refine lv_iload hx hb dX9_extend_66 (lv_at hl 4 rfl) ?_
      obtain ⟨r_2, hc_1, h⟩ := nx_bd h
      refine nx_ki (nx_runV (As := [.int x1, .int x4]) (rest := []) X hS hP (c_X4_after l E H.size a size on kinds marks nb reached dist lastW par ord paths costs wanted tlen onlyF found steps plen rowW rowS tally x1 x4 _ hc_1) nx_FA qV_RX9_70 ⟨rfl, rfl⟩ ⟨by simp only [nx_rm]; omega, by simp only [nx_rm]; omega⟩ ⟨Nat.zero_le _, Nat.zero_le _⟩ 12 rfl rfl rfl rfl hl.1 (Nat.le_of_ble_eq_true rfl) dX9_extend_68) hS nx_FA (fun H locs hP hS => ?_)
      refine lv_istore (lv' := [(5, .int r_2), (0, .ref (a 15)), (1, .int x1), (2, .int x2), (3, .int x3), (4, .int x4)]) hx hb dX9_extend_71 hl (by decide) rfl (fun ls hl => ?_)
      refine lv_iconst (v := 1) hx hb dX9_extend_73 (by decide) ?_
      refine lv_iload hx hb dX9_extend_74 (lv_at hl 0 rfl) ?_
      obtain ⟨r_4, hc_3, h⟩ := nx_bd h
      refine nx_ki (nx_runS (As := [.int r_2]) (rest := [.int 1]) X hS hP (c_X4_cellOf l E H.size _ r_2 _ hc_3) nx_FA qS_RX9_47 ⟨rfl, rfl⟩ ⟨by simp only [nx_rm]; omega, by simp only [nx_rm]; omega⟩ ⟨Nat.zero_le _, Nat.zero_le _⟩ rfl rfl hl.1 (Nat.le_of_ble_eq_true rfl) dX9_extend_76) hS nx_FA (fun H locs hP hS => ?_)
      refine lv_ishl hx hb dX9_extend_79 ?_
      refine lv_istore (lv' := [(6, .int (1 <<< (r_4 &&& 31))), (5, .int r_2), (0, .ref (a 15)), (1, .int x1), (2, .int x2), (3, .int x3), (4, .int x4)]) hx hb dX9_extend_80 hl (by decide) rfl (fun ls hl => ?_)
      refine lv_iload hx hb dX9_extend_82 (lv_at hl 1 rfl) ?_
      refine lv_iconst (v := (-1)) hx hb dX9_extend_84 (by decide) ?_
      refine lv_icmp_eq (tgt := 116) hx hb dX9_extend_85 (by decide) (fun hc => ?_) (fun hc => ?_)
      · have h := nx_it h hc
        refine lv_iinc (v := (x4 + 1)) (lv' := [(4, .int (x4 + 1)), (6, .int (1 <<< (r_4 &&& 31))), (5, .int r_2), (0, .ref (a 15)), (1, .int x1), (2, .int x2), (3, .int x3)]) hx hb dX9_extend_116 hl (k := 6) rfl rfl (by decide) rfl (fun ls hl => ?_)
        refine lv_goto (tgt := 41) hx hb dX9_extend_119 (by decide) ?_
        exact ih _ _ _ z h H locs ls hP hS (lv_sub hl [3, 4, 5, 6, 0] rfl) kR
      · have h := nx_if h hc
        refine lv_iload_n hx hb dX9_extend_88 rfl (lv_at hl 4 rfl) ?_
        refine lv_iload hx hb dX9_extend_89 (lv_at hl 0 rfl) ?_
        refine lv_iand hx hb dX9_extend_91 ?_
        refine lv_if_ne (tgt := 116) hx hb dX9_extend_92 (by decide) (fun hc => ?_) (fun hc => ?_)
        · have h := nx_if h hc
          refine lv_iinc (v := (x4 + 1)) (lv' := [(4, .int (x4 + 1)), (6, .int (1 <<< (r_4 &&& 31))), (5, .int r_2), (0, .ref (a 15)), (1, .int x1), (2, .int x2), (3, .int x3)]) hx hb dX9_extend_116 hl (k := 6) rfl rfl (by decide) rfl (fun ls hl => ?_)
          refine lv_goto (tgt := 41) hx hb dX9_extend_119 (by decide) ?_
          exact ih _ _ _ z h H locs ls hP hS (lv_sub hl [3, 4, 5, 6, 0] rfl) kR
        · have h := nx_it h hc
          refine lv_aload_n hx hb dX9_extend_95 rfl (lv_at hl 2 rfl) ?_
          refine nx_gf X hP uw_X9 (ci := 8) rfl 15 rfl 2 (by decide) wf_RX9_9 rfl dX9_extend_96 ?_
          refine lv_iload_n hx hb dX9_extend_99 rfl (lv_at hl 5 rfl) ?_
          refine lv_iload hx hb dX9_extend_100 (lv_at hl 6 rfl) ?_
          obtain ⟨hv_5, h⟩ := nx_cb h
          refine nx_st X hI cW_ad hP hS 16 rfl hv_5 dX9_extend_102 (fun H locs hP hS => ?_)
          have hP : va_P E.1 vwCl (cW E a size on kinds marks nb reached dist lastW par ord paths costs wanted tlen onlyF found (upd steps x3.toNatClampNeg x4) plen rowW rowS tally) H := hP
          refine lv_aload_n hx hb dX9_extend_103 rfl (lv_at hl 2 rfl) ?_
          refine lv_iload hx hb dX9_extend_104 (lv_at hl 1 rfl) ?_
          refine lv_iload_n hx hb dX9_extend_106 rfl (lv_at hl 4 rfl) ?_
          refine lv_iload hx hb dX9_extend_107 (lv_at hl 0 rfl) ?_
          refine lv_ior hx hb dX9_extend_109 ?_
          refine lv_iload_n hx hb dX9_extend_110 rfl (lv_at hl 5 rfl) ?_
          refine lv_iconst (v := 1) hx hb dX9_extend_111 (by decide) ?_
          refine lv_iadd hx hb dX9_extend_112 ?_
          obtain ⟨⟨k_7, k_8⟩, hc_6, h⟩ := nx_bd h
          refine nx_kv (nx_runV (As := [.int r_2, .int (x2 ||| (1 <<< (r_4 &&& 31))), .int (x3 + 1)]) (rest := []) X hS hP (hself H.size found (upd steps x3.toNatClampNeg x4) r_2 (x2 ||| (1 <<< (r_4 &&& 31))) (x3 + 1) _ hc_6) (nx_Am hS.1) qV_RX9_53 ⟨rfl, rfl⟩ ⟨by simp only [nx_rm]; omega, by simp only [nx_rm]; omega⟩ ⟨Nat.zero_le _, Nat.zero_le _⟩ 15 rfl rfl rfl rfl hl.1 (Nat.le_of_ble_eq_true rfl) dX9_extend_113) hS (nx_Am hS.1) (fun H locs hP hS => ?_)
          have hP : va_P E.1 vwCl (cW E a size on kinds marks nb reached dist lastW par ord paths costs wanted tlen onlyF k_7 k_8 plen rowW rowS tally) H := hP
          refine lv_iinc (v := (x4 + 1)) (lv' := [(4, .int (x4 + 1)), (6, .int (1 <<< (r_4 &&& 31))), (5, .int r_2), (0, .ref (a 15)), (1, .int x1), (2, .int x2), (3, .int x3)]) hx hb dX9_extend_116 hl (k := 6) rfl rfl (by decide) rfl (fun ls hl => ?_)
          refine lv_goto (tgt := 41) hx hb dX9_extend_119 (by decide) ?_
          exact ih _ _ _ z h H locs ls hP hS (lv_sub hl [3, 4, 5, 6, 0] rfl) kR
    unfold f_X9_extend_b41 at h
    refine lv_iload hx hb dX9_extend_41 (lv_at hl 4 rfl) ?_
    refine lv_iconst (v := 4) hx hb dX9_extend_43 (by decide) ?_
    refine lv_icmp_ge (tgt := 122) hx hb dX9_extend_44 (by decide) (fun hc => ?_) (fun hc => ?_)
    · have h := nx_it h hc
      obtain rfl := Option.some.inj h
      exact kR H locs ls hP hS (lv_sub hl [0] rfl)
    · have h := nx_if h hc
      refine lv_aload_n hx hb dX9_extend_47 rfl (lv_at hl 0 rfl) ?_
      refine nx_gf X hP uw_X9 (ci := 8) rfl 15 rfl 5 (by decide) wf_RX9_43 rfl dX9_extend_48 ?_
      refine lv_if_eq (tgt := 61) hx hb dX9_extend_51 (by decide) (fun hc => ?_) (fun hc => ?_)
      · have h := nx_it h hc
        exact J61 _ _ _ h H locs ls hP hS (lv_sub hl [0, 1, 2, 3, 4] rfl)
      · have h := nx_if h hc
        refine lv_aload_n hx hb dX9_extend_54 rfl (lv_at hl 0 rfl) ?_
        refine nx_gf X hP uw_X9 (ci := 8) rfl 15 rfl 6 (by decide) wf_RX9_27 rfl dX9_extend_55 ?_
        refine lv_if_gt (tgt := 122) hx hb dX9_extend_58 (by decide) (fun hc => ?_) (fun hc => ?_)
        · have h := nx_it h hc
          obtain rfl := Option.some.inj h
          exact kR H locs ls hP hS (lv_sub hl [0] rfl)
        · have h := nx_if h hc
          exact J61 _ _ _ h H locs ls hP hS (lv_sub hl [0, 1, 2, 3, 4] rfl)
  have J14 : ∀ (x1 : Int32) (found : Int32) (steps : Nat → Int32), f_X9_extend_j14 x1 wanted found steps = some o → ∀ (H : Heap) (locs : List Loc) (ls : Array Slot), va_P E.1 vwCl (cW E a size on kinds marks nb reached dist lastW par ord paths costs wanted tlen onlyF found steps plen rowW rowS tally) H → va_S (nx_A a 24 s.heap.size) s.heap H locs → lv_has ls 7 [(0, .ref (a 15)), (1, .int x1)] → W p l e (nx_rm (3 + (d + 1)) (71 + 26 * (d + 1))) s m args below meth c H locs 0 0 Q (F0 m 14 ls []) := by
    intro x1 found steps h H locs ls hP hS hl
    unfold f_X9_extend_j14 at h
    refine lv_aload_n hx hb dX9_extend_14 rfl (lv_at hl 0 rfl) ?_
    refine lv_dup hx hb dX9_extend_15 rfl ?_
    refine nx_gf X hP uw_X9 (ci := 8) rfl 15 rfl 6 (by decide) wf_RX9_27 rfl dX9_extend_16 ?_
    refine lv_iload_n hx hb dX9_extend_19 rfl (lv_at hl 1 rfl) ?_
    obtain ⟨r_11, hc_10, h⟩ := nx_bd h
    refine nx_ki (nx_runS (As := [.int x1]) (rest := [.int found, .ref (a 15)]) X hS hP (c_X4_stanceOf l E H.size _ x1 _ hc_10) nx_FA qS_RX9_57 ⟨rfl, rfl⟩ ⟨by simp only [nx_rm]; omega, by simp only [nx_rm]; omega⟩ ⟨Nat.zero_le _, Nat.zero_le _⟩ rfl rfl hl.1 (Nat.le_of_ble_eq_true rfl) dX9_extend_20) hS nx_FA (fun H locs hP hS => ?_)
    refine lv_aload_n hx hb dX9_extend_23 rfl (lv_at hl 0 rfl) ?_
    refine nx_gf X hP uw_X9 (ci := 8) rfl 15 rfl 3 (by decide) wf_RX9_34 rfl dX9_extend_24 ?_
    obtain ⟨r_13, hc_12, h⟩ := nx_bd h
    refine nx_ki (nx_runS (As := [.int r_11, .int wanted]) (rest := [.int found, .ref (a 15)]) X hS hP (c_X3_meets l E H.size _ r_11 wanted _ hc_12) nx_FA qS_RX9_60 ⟨rfl, rfl⟩ ⟨by simp only [nx_rm]; omega, by simp only [nx_rm]; omega⟩ ⟨Nat.zero_le _, Nat.zero_le _⟩ rfl rfl hl.1 (Nat.le_of_ble_eq_true rfl) dX9_extend_27) hS nx_FA (fun H locs hP hS => ?_)
    obtain ⟨r_15, hc_14, h⟩ := nx_bd h
    refine nx_ki (nx_runN (As := [.int r_13]) (rest := [.int found, .ref (a 15)]) X hS hP (c_X10_oneIf l E H.size _ r_13 _ hc_14) nx_FA qN_RX9_66 ⟨rfl, rfl⟩ ⟨by simp only [nx_rm]; omega, by simp only [nx_rm]; omega⟩ ⟨Nat.zero_le _, Nat.zero_le _⟩ rfl rfl hl.1 (Nat.le_of_ble_eq_true rfl) dX9_extend_30) hS nx_FA (fun H locs hP hS => ?_)
    refine lv_iadd hx hb dX9_extend_33 ?_
    refine nx_pf (ty := .int) (v := .int (found + r_15)) X hI cW_ad hP hS uw_X9 tyX9 tyX9_ok nmX9 (ci := 8) rfl 15 rfl 6 (by decide) wf_RX9_27 rfl (by decide +kernel) rfl rfl (Nat.le_of_ble_eq_true rfl) dX9_extend_34 (fun H locs hP hS => ?_)
    have hP : va_P E.1 vwCl (cW E a size on kinds marks nb reached dist lastW par ord paths costs wanted tlen onlyF (found + r_15) steps plen rowW rowS tally) H := hP
    exact kr 37 ls ((found + r_15), steps) H locs dX9_extend_37 (Option.some.inj h) hP hS
  unfold f_X9_extend_s at h
  suffices hw : ∀ (H : Heap) (locs : List Loc), va_P E.1 vwCl (cW E a size on kinds marks nb reached dist lastW par ord paths costs wanted tlen onlyF found steps plen rowW rowS tally) H → va_S (nx_A a 24 s.heap.size) s.heap H locs → W p l e (nx_rm (3 + (d + 1)) (71 + 26 * (d + 1))) s m args below meth c H locs 0 0 Q (F0 m 0 ls []) from hw _ _ hP va_S.rf
  intro H locs hP hS
  refine lv_iload_n hx hb dX9_extend_0 rfl (lv_at hl 3 rfl) ?_
  refine lv_aload_n hx hb dX9_extend_1 rfl (lv_at hl 0 rfl) ?_
  refine nx_gf X hP uw_X9 (ci := 8) rfl 15 rfl 4 (by decide) wf_RX9_31 rfl dX9_extend_2 ?_
  refine lv_icmp_ge (tgt := 14) hx hb dX9_extend_5 (by decide) (fun hc => ?_) (fun hc => ?_)
  · have h := nx_it h hc
    exact J14 _ _ _ h H locs ls hP hS (lv_sub hl [0, 1] rfl)
  · have h := nx_if h hc
    refine lv_iload_n hx hb dX9_extend_8 rfl (lv_at hl 3 rfl) ?_
    refine lv_bipush (v := 16) hx hb dX9_extend_9 (by decide) ?_
    refine lv_icmp_lt (tgt := 38) hx hb dX9_extend_11 (by decide) (fun hc => ?_) (fun hc => ?_)
    · have h := nx_it h hc
      refine lv_iconst (v := 0) hx hb dX9_extend_38 (by decide) ?_
      refine lv_istore (lv' := [(4, .int 0), (0, .ref (a 15)), (1, .int x1), (2, .int x2), (3, .int x3)]) hx hb dX9_extend_39 hl (by decide) rfl (fun ls hl => ?_)
      obtain ⟨z_16, hz_17, h⟩ := nx_bd h
      refine L41 _ _ _ N _ _ _ _ hz_17 H locs ls hP hS (lv_sub hl [1, 2, 3, 4, 0] rfl) (fun H locs ls hP hS hl => ?_)
      exact kr 122 ls (z_16.1, z_16.2) H locs dX9_extend_122 (Option.some.inj h) hP hS
    · have h := nx_if h hc
      exact J14 _ _ _ h H locs ls hP hS (lv_sub hl [0, 1] rfl)
def f_X9_ext (N : Nat) (size : Int32) (on : Int32) (kinds : Nat → Int32) (marks : Nat → Int32) (nb : Nat → Int32) (wanted : Int32) (tlen : Int32) (onlyF : Int32) : Nat → Int32 → Int32 → Int32 → Int32 → (Nat → Int32) → Option (Int32 × (Nat → Int32))
  | 0, _, _, _, _, _ => none
  | d + 1, x1, x2, x3, found, steps => f_X9_extend_s N (f_X9_ext N size on kinds marks nb wanted tlen onlyF d) x1 x2 x3 size on kinds marks nb wanted tlen onlyF found steps
theorem c_X9_ext (l : Launch) (N : Nat) (E : nx_E) (a : Nat → Nat) (size : Int32) (on : Int32) (kinds : Nat → Int32) (marks : Nat → Int32) (nb : Nat → Int32) (reached : Int32) (dist : Nat → Int32) (lastW : Nat → Int32) (par : Nat → Int32) (ord : Nat → Int32) (paths : Nat → Int64) (costs : Nat → Int32) (wanted : Int32) (tlen : Int32) (onlyF : Int32) (plen : Int32) (rowW : Nat → Int32) (rowS : Nat → Int32) (tally : Nat → Int32) (hI : nx_inj a 24) : ∀ (d sz : Nat) (found : Int32) (steps : Nat → Int32) (x1 x2 x3 : Int32) (o : Int32 × (Nat → Int32)), f_X9_ext N size on kinds marks nb wanted tlen onlyF d x1 x2 x3 found steps = some o → Met l yX9_extend (.code yX9_extend cX9_extend 7 none :: nx_T) (nx_rm (3 + d) (71 + 26 * d)) (va_Pc [.ref (a 15), .int x1, .int x2, .int x3] (nx_P E (nx_A a 24 sz) sz (cW E a size on kinds marks nb reached dist lastW par ord paths costs wanted tlen onlyF found steps plen rowW rowS tally))) (va_Qv (fun u => u = o) (fun u t => va_P E.1 vwCl (cW E a size on kinds marks nb reached dist lastW par ord paths costs wanted tlen onlyF (u.1) (u.2) plen rowW rowS tally) t.heap) (nx_A a 24 sz)) 0 0 (nx_A a 24 sz)
  | 0, _, _, _, _, _, _, o, h => nomatch (show none = some o from h)
  | d + 1, sz, found, steps, x1, x2, x3, o, h => c_X9_extend_s l N E sz a size on kinds marks nb reached dist lastW par ord paths costs wanted tlen onlyF found steps plen rowW rowS tally x1 x2 x3 hI d (f_X9_ext N size on kinds marks nb wanted tlen onlyF d) (c_X9_ext l N E a size on kinds marks nb reached dist lastW par ord paths costs wanted tlen onlyF plen rowW rowS tally hI d) o h
def f_X9_extend (N : Nat) (x1 x2 x3 : Int32) (size : Int32) (on : Int32) (kinds : Nat → Int32) (marks : Nat → Int32) (nb : Nat → Int32) (wanted : Int32) (tlen : Int32) (onlyF : Int32) (found : Int32) (steps : Nat → Int32) : Option (Int32 × (Nat → Int32)) := f_X9_ext N size on kinds marks nb wanted tlen onlyF 20 x1 x2 x3 found steps
theorem c_X9_extend (l : Launch) (N : Nat) (E : nx_E) (sz : Nat) (a : Nat → Nat) (size : Int32) (on : Int32) (kinds : Nat → Int32) (marks : Nat → Int32) (nb : Nat → Int32) (reached : Int32) (dist : Nat → Int32) (lastW : Nat → Int32) (par : Nat → Int32) (ord : Nat → Int32) (paths : Nat → Int64) (costs : Nat → Int32) (wanted : Int32) (tlen : Int32) (onlyF : Int32) (found : Int32) (steps : Nat → Int32) (plen : Int32) (rowW : Nat → Int32) (rowS : Nat → Int32) (tally : Nat → Int32) (x1 x2 x3 : Int32) (hI : nx_inj a 24) (o : Int32 × (Nat → Int32)) (h : f_X9_extend N x1 x2 x3 size on kinds marks nb wanted tlen onlyF found steps = some o) : Met l yX9_extend (.code yX9_extend cX9_extend 7 none :: nx_T) (nx_rm 23 591) (va_Pc [.ref (a 15), .int x1, .int x2, .int x3] (nx_P E (nx_A a 24 sz) sz (cW E a size on kinds marks nb reached dist lastW par ord paths costs wanted tlen onlyF found steps plen rowW rowS tally))) (va_Qv (fun u => u = o) (fun u t => va_P E.1 vwCl (cW E a size on kinds marks nb reached dist lastW par ord paths costs wanted tlen onlyF (u.1) (u.2) plen rowW rowS tally) t.heap) (nx_A a 24 sz)) 0 0 (nx_A a 24 sz) := c_X9_ext l N E a size on kinds marks nb reached dist lastW par ord paths costs wanted tlen onlyF plen rowW rowS tally hI 20 sz found steps x1 x2 x3 o h
def f_X9_seek (N : Nat) (x1 : Int32) (x2 : Int32) (x3 : Int32) (size : Int32) (on : Int32) (kinds : Nat → Int32) (marks : Nat → Int32) (nb : Nat → Int32) (wanted : Int32) (tlen : Int32) (onlyF : Int32) (found : Int32) (steps : Nat → Int32) : Option (Int32 × Int32 × Int32 × Int32 × (Nat → Int32)) :=
  (f_X2_openCells N size on kinds).bind fun r_2 => (nx_b x3).bind fun _ => (f_X4_cellOf x1).bind fun r_4 => (f_X9_extend N x1 (1 <<< (r_4 &&& 31)) 0 size on kinds marks nb x2 (r_2 - 1) x3 0 steps).bind fun t_8 => some (x2, (r_2 - 1), x3, t_8.1, t_8.2)
set_option maxHeartbeats 4000000 in
set_option maxRecDepth 100000 in
theorem c_X9_seek (l : Launch) (N : Nat) (E : nx_E) (sz : Nat) (a : Nat → Nat) (size : Int32) (on : Int32) (kinds : Nat → Int32) (marks : Nat → Int32) (nb : Nat → Int32) (reached : Int32) (dist : Nat → Int32) (lastW : Nat → Int32) (par : Nat → Int32) (ord : Nat → Int32) (paths : Nat → Int64) (costs : Nat → Int32) (wanted : Int32) (tlen : Int32) (onlyF : Int32) (found : Int32) (steps : Nat → Int32) (plen : Int32) (rowW : Nat → Int32) (rowS : Nat → Int32) (tally : Nat → Int32) (x1 : Int32) (x2 : Int32) (x3 : Int32) (hI : nx_inj a 24) (o : Int32 × Int32 × Int32 × Int32 × (Nat → Int32)) (h : f_X9_seek N x1 x2 x3 size on kinds marks nb wanted tlen onlyF found steps = some o) : Met l yX9_seek (.code yX9_seek cX9_seek 4 none :: nx_T) (nx_rm 24 617) (va_Pc [.ref (a 15), .int x1, .int x2, .int x3] (nx_P E (nx_A a 24 sz) sz (cW E a size on kinds marks nb reached dist lastW par ord paths costs wanted tlen onlyF found steps plen rowW rowS tally))) (va_Qv (fun u => u = o) (fun u t => va_P E.1 vwCl (cW E a size on kinds marks nb reached dist lastW par ord paths costs (u.1) (u.2.1) (u.2.2.1) (u.2.2.2.1) (u.2.2.2.2) plen rowW rowS tally) t.heap) (nx_A a 24 sz)) 0 0 (nx_A a 24 sz) := by
  refine nx_enV (fun u => u = o) (fun (u : Int32 × Int32 × Int32 × Int32 × (Nat → Int32)) => (cW E a size on kinds marks nb reached dist lastW par ord paths costs (u.1) (u.2.1) (u.2.2.1) (u.2.2.2.1) (u.2.2.2.2) plen rowW rowS tally)) (by decide) (Nat.le_of_ble_eq_true rfl) ?_
  intro p e s m below meth c Q X kr hsz hP ls hl
  subst hsz
  generalize hargs : (List.toArray [.ref (a 15), .int x1, .int x2, .int x3] : Array Value) = args at X kr ⊢
  clear hargs
  obtain ⟨⟨hx, hb, hml, hown, hts⟩, hK, hSt, hNz⟩ := id X
  have hS : va_S (nx_A a 24 s.heap.size) s.heap s.heap [] := va_S.rf
  have hl : lv_has ls 4 [(0, .ref (a 15)), (1, .int x1), (2, .int x2), (3, .int x3)] := hl
  unfold f_X9_seek at h
  suffices hw : ∀ (H : Heap) (locs : List Loc), va_P E.1 vwCl (cW E a size on kinds marks nb reached dist lastW par ord paths costs wanted tlen onlyF found steps plen rowW rowS tally) H → va_S (nx_A a 24 s.heap.size) s.heap H locs → W p l e (nx_rm 24 617) s m args below meth c H locs 0 0 Q (F0 m 0 ls []) from hw _ _ hP va_S.rf
  intro H locs hP hS
  refine lv_aload_n hx hb dX9_seek_0 rfl (lv_at hl 0 rfl) ?_
  refine lv_iload_n hx hb dX9_seek_1 rfl (lv_at hl 2 rfl) ?_
  refine nx_pf (ty := .int) (v := .int x2) X hI cW_ad hP hS uw_X9 tyX9 tyX9_ok nmX9 (ci := 8) rfl 15 rfl 3 (by decide) wf_RX9_34 rfl (by decide +kernel) rfl rfl (Nat.le_of_ble_eq_true rfl) dX9_seek_2 (fun H locs hP hS => ?_)
  have hP : va_P E.1 vwCl (cW E a size on kinds marks nb reached dist lastW par ord paths costs x2 tlen onlyF found steps plen rowW rowS tally) H := hP
  refine lv_aload_n hx hb dX9_seek_5 rfl (lv_at hl 0 rfl) ?_
  refine lv_aload_n hx hb dX9_seek_6 rfl (lv_at hl 0 rfl) ?_
  refine nx_gf X hP uw_X9 (ci := 8) rfl 15 rfl 0 (by decide) wf_RX9_15 rfl dX9_seek_7 ?_
  obtain ⟨r_2, hc_1, h⟩ := nx_bd h
  refine nx_ki (nx_runV (As := []) (rest := [.ref (a 15)]) X hS hP (c_X2_openCells l N E H.size a size on kinds marks nb reached dist lastW par ord paths costs x2 tlen onlyF found steps plen rowW rowS tally _ hc_1) nx_FA qV_RX9_37 ⟨rfl, rfl⟩ ⟨Nat.le_of_ble_eq_true rfl, Nat.le_of_ble_eq_true rfl⟩ ⟨Nat.zero_le _, Nat.zero_le _⟩ 1 rfl rfl rfl rfl hl.1 (Nat.le_of_ble_eq_true rfl) dX9_seek_10) hS nx_FA (fun H locs hP hS => ?_)
  refine lv_iconst (v := 1) hx hb dX9_seek_13 (by decide) ?_
  refine lv_isub hx hb dX9_seek_14 ?_
  refine nx_pf (ty := .int) (v := .int (r_2 - 1)) X hI cW_ad hP hS uw_X9 tyX9 tyX9_ok nmX9 (ci := 8) rfl 15 rfl 4 (by decide) wf_RX9_31 rfl (by decide +kernel) rfl rfl (Nat.le_of_ble_eq_true rfl) dX9_seek_15 (fun H locs hP hS => ?_)
  have hP : va_P E.1 vwCl (cW E a size on kinds marks nb reached dist lastW par ord paths costs x2 (r_2 - 1) onlyF found steps plen rowW rowS tally) H := hP
  refine lv_aload_n hx hb dX9_seek_18 rfl (lv_at hl 0 rfl) ?_
  refine lv_iload_n hx hb dX9_seek_19 rfl (lv_at hl 3 rfl) ?_
  obtain ⟨hzz, h⟩ := nx_bb h
  refine nx_pf (ty := .boolean) (v := .int x3) X hI cW_ad hP hS uw_X9 tyX9 tyX9_ok nmX9 (ci := 8) rfl 15 rfl 5 (by decide) wf_RX9_43 rfl (by decide +kernel) (nx_nb hzz) (nx_fb hzz) (Nat.le_of_ble_eq_true rfl) dX9_seek_20 (fun H locs hP hS => ?_)
  have hP : va_P E.1 vwCl (cW E a size on kinds marks nb reached dist lastW par ord paths costs x2 (r_2 - 1) x3 found steps plen rowW rowS tally) H := hP
  refine lv_aload_n hx hb dX9_seek_23 rfl (lv_at hl 0 rfl) ?_
  refine lv_iconst (v := 0) hx hb dX9_seek_24 (by decide) ?_
  refine nx_pf (ty := .int) (v := .int 0) X hI cW_ad hP hS uw_X9 tyX9 tyX9_ok nmX9 (ci := 8) rfl 15 rfl 6 (by decide) wf_RX9_27 rfl (by decide +kernel) rfl rfl (Nat.le_of_ble_eq_true rfl) dX9_seek_25 (fun H locs hP hS => ?_)
  have hP : va_P E.1 vwCl (cW E a size on kinds marks nb reached dist lastW par ord paths costs x2 (r_2 - 1) x3 0 steps plen rowW rowS tally) H := hP
  refine lv_aload_n hx hb dX9_seek_28 rfl (lv_at hl 0 rfl) ?_
  refine lv_iload_n hx hb dX9_seek_29 rfl (lv_at hl 1 rfl) ?_
  refine lv_iconst (v := 1) hx hb dX9_seek_30 (by decide) ?_
  refine lv_iload_n hx hb dX9_seek_31 rfl (lv_at hl 1 rfl) ?_
  obtain ⟨r_4, hc_3, h⟩ := nx_bd h
  refine nx_ki (nx_runS (As := [.int x1]) (rest := [.int 1, .int x1, .ref (a 15)]) X hS hP (c_X4_cellOf l E H.size _ x1 _ hc_3) nx_FA qS_RX9_47 ⟨rfl, rfl⟩ ⟨Nat.le_of_ble_eq_true rfl, Nat.le_of_ble_eq_true rfl⟩ ⟨Nat.zero_le _, Nat.zero_le _⟩ rfl rfl hl.1 (Nat.le_of_ble_eq_true rfl) dX9_seek_32) hS nx_FA (fun H locs hP hS => ?_)
  refine lv_ishl hx hb dX9_seek_35 ?_
  refine lv_iconst (v := 0) hx hb dX9_seek_36 (by decide) ?_
  obtain ⟨⟨k_6, k_7⟩, hc_5, h⟩ := nx_bd h
  refine nx_kv (nx_runV (As := [.int x1, .int (1 <<< (r_4 &&& 31)), .int 0]) (rest := []) X hS hP (c_X9_extend l N E H.size a size on kinds marks nb reached dist lastW par ord paths costs x2 (r_2 - 1) x3 0 steps plen rowW rowS tally x1 (1 <<< (r_4 &&& 31)) 0 hI _ hc_5) (nx_Am hS.1) qV_RX9_53 ⟨rfl, rfl⟩ ⟨Nat.le_of_ble_eq_true rfl, Nat.le_of_ble_eq_true rfl⟩ ⟨Nat.zero_le _, Nat.zero_le _⟩ 15 rfl rfl rfl rfl hl.1 (Nat.le_of_ble_eq_true rfl) dX9_seek_37) hS (nx_Am hS.1) (fun H locs hP hS => ?_)
  have hP : va_P E.1 vwCl (cW E a size on kinds marks nb reached dist lastW par ord paths costs x2 (r_2 - 1) x3 k_6 k_7 plen rowW rowS tally) H := hP
  exact kr 40 ls (x2, (r_2 - 1), x3, k_6, k_7) H locs dX9_seek_40 (Option.some.inj h) hP hS
def f_X9_howMany (N : Nat) (x1 : Int32) (x2 : Int32) (size : Int32) (on : Int32) (kinds : Nat → Int32) (marks : Nat → Int32) (nb : Nat → Int32) (wanted : Int32) (tlen : Int32) (onlyF : Int32) (found : Int32) (steps : Nat → Int32) : Option (Int32 × (Int32 × Int32 × Int32 × Int32 × (Nat → Int32))) :=
  (f_X9_seek N x1 x2 0 size on kinds marks nb wanted tlen onlyF found steps).bind fun t_7 => some (t_7.2.2.2.1, (t_7.1, t_7.2.1, t_7.2.2.1, t_7.2.2.2.1, t_7.2.2.2.2))
set_option maxHeartbeats 4000000 in
set_option maxRecDepth 100000 in
theorem c_X9_howMany (l : Launch) (N : Nat) (E : nx_E) (sz : Nat) (a : Nat → Nat) (size : Int32) (on : Int32) (kinds : Nat → Int32) (marks : Nat → Int32) (nb : Nat → Int32) (reached : Int32) (dist : Nat → Int32) (lastW : Nat → Int32) (par : Nat → Int32) (ord : Nat → Int32) (paths : Nat → Int64) (costs : Nat → Int32) (wanted : Int32) (tlen : Int32) (onlyF : Int32) (found : Int32) (steps : Nat → Int32) (plen : Int32) (rowW : Nat → Int32) (rowS : Nat → Int32) (tally : Nat → Int32) (x1 : Int32) (x2 : Int32) (hI : nx_inj a 24) (o : Int32 × (Int32 × Int32 × Int32 × Int32 × (Nat → Int32))) (h : f_X9_howMany N x1 x2 size on kinds marks nb wanted tlen onlyF found steps = some o) : Met l yX9_howMany (.code yX9_howMany cX9_howMany 3 (some .int) :: nx_T) (nx_rm 25 640) (va_Pc [.ref (a 15), .int x1, .int x2] (nx_P E (nx_A a 24 sz) sz (cW E a size on kinds marks nb reached dist lastW par ord paths costs wanted tlen onlyF found steps plen rowW rowS tally))) (va_Qi (fun v u => (v, u) = o) (fun u t => va_P E.1 vwCl (cW E a size on kinds marks nb reached dist lastW par ord paths costs (u.1) (u.2.1) (u.2.2.1) (u.2.2.2.1) (u.2.2.2.2) plen rowW rowS tally) t.heap) (nx_A a 24 sz)) 0 0 (nx_A a 24 sz) := by
  refine nx_enI (fun v u => (v, u) = o) (fun (u : Int32 × Int32 × Int32 × Int32 × (Nat → Int32)) => (cW E a size on kinds marks nb reached dist lastW par ord paths costs (u.1) (u.2.1) (u.2.2.1) (u.2.2.2.1) (u.2.2.2.2) plen rowW rowS tally)) (by decide) (Nat.le_of_ble_eq_true rfl) ?_
  intro p e s m below meth c Q X kr hsz hP ls hl
  subst hsz
  generalize hargs : (List.toArray [.ref (a 15), .int x1, .int x2] : Array Value) = args at X kr ⊢
  clear hargs
  obtain ⟨⟨hx, hb, hml, hown, hts⟩, hK, hSt, hNz⟩ := id X
  have hS : va_S (nx_A a 24 s.heap.size) s.heap s.heap [] := va_S.rf
  have hl : lv_has ls 3 [(0, .ref (a 15)), (1, .int x1), (2, .int x2)] := hl
  unfold f_X9_howMany at h
  suffices hw : ∀ (H : Heap) (locs : List Loc), va_P E.1 vwCl (cW E a size on kinds marks nb reached dist lastW par ord paths costs wanted tlen onlyF found steps plen rowW rowS tally) H → va_S (nx_A a 24 s.heap.size) s.heap H locs → W p l e (nx_rm 25 640) s m args below meth c H locs 0 0 Q (F0 m 0 ls []) from hw _ _ hP va_S.rf
  intro H locs hP hS
  refine lv_aload_n hx hb dX9_howMany_0 rfl (lv_at hl 0 rfl) ?_
  refine lv_iload_n hx hb dX9_howMany_1 rfl (lv_at hl 1 rfl) ?_
  refine lv_iload_n hx hb dX9_howMany_2 rfl (lv_at hl 2 rfl) ?_
  refine lv_iconst (v := 0) hx hb dX9_howMany_3 (by decide) ?_
  obtain ⟨⟨k_2, k_3, k_4, k_5, k_6⟩, hc_1, h⟩ := nx_bd h
  refine nx_kv (nx_runV (As := [.int x1, .int x2, .int 0]) (rest := []) X hS hP (c_X9_seek l N E H.size a size on kinds marks nb reached dist lastW par ord paths costs wanted tlen onlyF found steps plen rowW rowS tally x1 x2 0 hI _ hc_1) (nx_Am hS.1) qV_RX9_23 ⟨rfl, rfl⟩ ⟨Nat.le_of_ble_eq_true rfl, Nat.le_of_ble_eq_true rfl⟩ ⟨Nat.zero_le _, Nat.zero_le _⟩ 15 rfl rfl rfl rfl hl.1 (Nat.le_of_ble_eq_true rfl) dX9_howMany_4) hS (nx_Am hS.1) (fun H locs hP hS => ?_)
  have hP : va_P E.1 vwCl (cW E a size on kinds marks nb reached dist lastW par ord paths costs k_2 k_3 k_4 k_5 k_6 plen rowW rowS tally) H := hP
  refine lv_aload_n hx hb dX9_howMany_7 rfl (lv_at hl 0 rfl) ?_
  refine nx_gf X hP uw_X9 (ci := 8) rfl 15 rfl 6 (by decide) wf_RX9_27 rfl dX9_howMany_8 ?_
  exact kr 11 ls k_5 (k_2, k_3, k_4, k_5, k_6) H locs dX9_howMany_11 (Option.some.inj h) hP hS
def f_X10_tours (N : Nat) (x1 : Int32) (x2 : Int32) (x3 : Int32) (size : Int32) (on : Int32) (kinds : Nat → Int32) (marks : Nat → Int32) (nb : Nat → Int32) (wanted : Int32) (tlen : Int32) (onlyF : Int32) (found : Int32) (steps : Nat → Int32) : Option (Int32 × (Int32 × Int32 × Int32 × Int32 × (Nat → Int32))) :=
  (f_X10_refusalOfTour N x1 x2 x3 size on kinds).bind fun r_2 => if r_2 = 0 then ((f_X4_at x1 x2).bind fun r_4 => (f_X9_howMany N r_4 x3 size on kinds marks nb wanted tlen onlyF found steps).bind fun t_12 => some (t_12.1, (t_12.2.1, t_12.2.2.1, t_12.2.2.2.1, t_12.2.2.2.2.1, t_12.2.2.2.2.2))) else (some (r_2, (wanted, tlen, onlyF, found, steps)))
set_option maxHeartbeats 4000000 in
set_option maxRecDepth 100000 in
theorem c_X10_tours (l : Launch) (N : Nat) (E : nx_E) (sz : Nat) (a : Nat → Nat) (size : Int32) (on : Int32) (kinds : Nat → Int32) (marks : Nat → Int32) (nb : Nat → Int32) (reached : Int32) (dist : Nat → Int32) (lastW : Nat → Int32) (par : Nat → Int32) (ord : Nat → Int32) (paths : Nat → Int64) (costs : Nat → Int32) (wanted : Int32) (tlen : Int32) (onlyF : Int32) (found : Int32) (steps : Nat → Int32) (plen : Int32) (rowW : Nat → Int32) (rowS : Nat → Int32) (tally : Nat → Int32) (x1 : Int32) (x2 : Int32) (x3 : Int32) (hI : nx_inj a 24) (o : Int32 × (Int32 × Int32 × Int32 × Int32 × (Nat → Int32))) (h : f_X10_tours N x1 x2 x3 size on kinds marks nb wanted tlen onlyF found steps = some o) : Met l yX10_tours (.code yX10_tours cX10_tours 5 (some .int) :: nx_T) (nx_rm 26 662) (va_Pc [.ref (a 0), .int x1, .int x2, .int x3] (nx_P E (nx_A a 24 sz) sz (cW E a size on kinds marks nb reached dist lastW par ord paths costs wanted tlen onlyF found steps plen rowW rowS tally))) (va_Qi (fun v u => (v, u) = o) (fun u t => va_P E.1 vwCl (cW E a size on kinds marks nb reached dist lastW par ord paths costs (u.1) (u.2.1) (u.2.2.1) (u.2.2.2.1) (u.2.2.2.2) plen rowW rowS tally) t.heap) (nx_A a 24 sz)) 0 0 (nx_A a 24 sz) := by
  refine nx_enI (fun v u => (v, u) = o) (fun (u : Int32 × Int32 × Int32 × Int32 × (Nat → Int32)) => (cW E a size on kinds marks nb reached dist lastW par ord paths costs (u.1) (u.2.1) (u.2.2.1) (u.2.2.2.1) (u.2.2.2.2) plen rowW rowS tally)) (by decide) (Nat.le_of_ble_eq_true rfl) ?_
  intro p e s m below meth c Q X kr hsz hP ls hl
  subst hsz
  generalize hargs : (List.toArray [.ref (a 0), .int x1, .int x2, .int x3] : Array Value) = args at X kr ⊢
  clear hargs
  obtain ⟨⟨hx, hb, hml, hown, hts⟩, hK, hSt, hNz⟩ := id X
  have hS : va_S (nx_A a 24 s.heap.size) s.heap s.heap [] := va_S.rf
  have hl : lv_has ls 5 [(0, .ref (a 0)), (1, .int x1), (2, .int x2), (3, .int x3)] := hl
  unfold f_X10_tours at h
  suffices hw : ∀ (H : Heap) (locs : List Loc), va_P E.1 vwCl (cW E a size on kinds marks nb reached dist lastW par ord paths costs wanted tlen onlyF found steps plen rowW rowS tally) H → va_S (nx_A a 24 s.heap.size) s.heap H locs → W p l e (nx_rm 26 662) s m args below meth c H locs 0 0 Q (F0 m 0 ls []) from hw _ _ hP va_S.rf
  intro H locs hP hS
  refine lv_aload_n hx hb dX10_tours_0 rfl (lv_at hl 0 rfl) ?_
  refine lv_iload_n hx hb dX10_tours_1 rfl (lv_at hl 1 rfl) ?_
  refine lv_iload_n hx hb dX10_tours_2 rfl (lv_at hl 2 rfl) ?_
  refine lv_iload_n hx hb dX10_tours_3 rfl (lv_at hl 3 rfl) ?_
  obtain ⟨r_2, hc_1, h⟩ := nx_bd h
  refine nx_ki (nx_runV (As := [.int x1, .int x2, .int x3]) (rest := []) X hS hP (c_X10_refusalOfTour l N E H.size a size on kinds marks nb reached dist lastW par ord paths costs wanted tlen onlyF found steps plen rowW rowS tally x1 x2 x3 _ hc_1) nx_FA qV_RX10_182 ⟨rfl, rfl⟩ ⟨Nat.le_of_ble_eq_true rfl, Nat.le_of_ble_eq_true rfl⟩ ⟨Nat.zero_le _, Nat.zero_le _⟩ 0 rfl rfl rfl rfl hl.1 (Nat.le_of_ble_eq_true rfl) dX10_tours_4) hS nx_FA (fun H locs hP hS => ?_)
  refine lv_istore (lv' := [(4, .int r_2), (0, .ref (a 0)), (1, .int x1), (2, .int x2), (3, .int x3)]) hx hb dX10_tours_7 hl (by decide) rfl (fun ls hl => ?_)
  refine lv_iload hx hb dX10_tours_9 (lv_at hl 0 rfl) ?_
  refine lv_if_eq (tgt := 19) hx hb dX10_tours_11 (by decide) (fun hc => ?_) (fun hc => ?_)
  · have h := nx_it h hc
    refine lv_aload_n hx hb dX10_tours_19 rfl (lv_at hl 1 rfl) ?_
    refine nx_gf X hP uw_X10 (ci := 9) rfl 0 rfl 5 (by decide) wf_RX10_53 rfl dX10_tours_20 ?_
    refine lv_iload_n hx hb dX10_tours_23 rfl (lv_at hl 2 rfl) ?_
    refine lv_iload_n hx hb dX10_tours_24 rfl (lv_at hl 3 rfl) ?_
    obtain ⟨r_4, hc_3, h⟩ := nx_bd h
    refine nx_ki (nx_runS (As := [.int x1, .int x2]) (rest := [.ref (a 15)]) X hS hP (c_X4_at l E H.size _ x1 x2 _ hc_3) nx_FA qS_RX10_152 ⟨rfl, rfl⟩ ⟨Nat.le_of_ble_eq_true rfl, Nat.le_of_ble_eq_true rfl⟩ ⟨Nat.zero_le _, Nat.zero_le _⟩ rfl rfl hl.1 (Nat.le_of_ble_eq_true rfl) dX10_tours_25) hS nx_FA (fun H locs hP hS => ?_)
    refine lv_iload_n hx hb dX10_tours_28 rfl (lv_at hl 4 rfl) ?_
    obtain ⟨⟨r_6, ⟨k_7, k_8, k_9, k_10, k_11⟩⟩, hc_5, h⟩ := nx_bd h
    refine nx_kwi (nx_runV (As := [.int r_4, .int x3]) (rest := []) X hS hP (c_X9_howMany l N E H.size a size on kinds marks nb reached dist lastW par ord paths costs wanted tlen onlyF found steps plen rowW rowS tally r_4 x3 hI _ hc_5) (nx_Am hS.1) qV_RX10_185 ⟨rfl, rfl⟩ ⟨Nat.le_of_ble_eq_true rfl, Nat.le_of_ble_eq_true rfl⟩ ⟨Nat.zero_le _, Nat.zero_le _⟩ 15 rfl rfl rfl rfl hl.1 (Nat.le_of_ble_eq_true rfl) dX10_tours_29) hS (nx_Am hS.1) (fun H locs hP hS => ?_)
    have hP : va_P E.1 vwCl (cW E a size on kinds marks nb reached dist lastW par ord paths costs k_7 k_8 k_9 k_10 k_11 plen rowW rowS tally) H := hP
    exact kr 32 ls r_6 (k_7, k_8, k_9, k_10, k_11) H locs dX10_tours_32 (Option.some.inj h) hP hS
  · have h := nx_if h hc
    refine lv_iload hx hb dX10_tours_14 (lv_at hl 0 rfl) ?_
    refine lv_goto (tgt := 32) hx hb dX10_tours_16 (by decide) ?_
    exact kr 32 ls r_2 (wanted, tlen, onlyF, found, steps) H locs dX10_tours_32 (Option.some.inj h) hP hS
