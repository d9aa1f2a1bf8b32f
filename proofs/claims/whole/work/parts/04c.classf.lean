def f_X5_stepAt (N : Nat) (x1 : Int32) (x2 : Int32) (x3 : Int32) (x4 : Int32) (size : Int32) (on : Int32) (kinds : Nat → Int32) (marks : Nat → Int32) (nb : Nat → Int32) (reached : Int32) (dist : Nat → Int32) (lastW : Nat → Int32) (par : Nat → Int32) (ord : Nat → Int32) (paths : Nat → Int64) : Option (Int32 × (Int32 × (Nat → Int32) × (Nat → Int32) × (Nat → Int32) × (Nat → Int32) × (Nat → Int64))) :=
  (f_X5_endOf N x1 x2 x3 size on kinds marks nb reached dist lastW par ord paths).bind fun t_9 => (f_X8_stepTo N t_9.1 x4 t_9.2.2.1 t_9.2.2.2.1 t_9.2.2.2.2.1).bind fun r_11 => some (r_11, (t_9.2.1, t_9.2.2.1, t_9.2.2.2.1, t_9.2.2.2.2.1, t_9.2.2.2.2.2.1, t_9.2.2.2.2.2.2))
set_option maxHeartbeats 4000000 in
set_option maxRecDepth 100000 in
theorem c_X5_stepAt (l : Launch) (N : Nat) (E : nx_E) (sz : Nat) (a : Nat → Nat) (size : Int32) (on : Int32) (kinds : Nat → Int32) (marks : Nat → Int32) (nb : Nat → Int32) (reached : Int32) (dist : Nat → Int32) (lastW : Nat → Int32) (par : Nat → Int32) (ord : Nat → Int32) (paths : Nat → Int64) (costs : Nat → Int32) (wanted : Int32) (tlen : Int32) (onlyF : Int32) (found : Int32) (steps : Nat → Int32) (plen : Int32) (rowW : Nat → Int32) (rowS : Nat → Int32) (tally : Nat → Int32) (x1 : Int32) (x2 : Int32) (x3 : Int32) (x4 : Int32) (hI : nx_inj a 24) (o : Int32 × (Int32 × (Nat → Int32) × (Nat → Int32) × (Nat → Int32) × (Nat → Int32) × (Nat → Int64))) (h : f_X5_stepAt N x1 x2 x3 x4 size on kinds marks nb reached dist lastW par ord paths = some o) : Met l yX5_stepAt (.code yX5_stepAt cX5_stepAt 5 (some .int) :: nx_T) (nx_rm 5 120) (va_Pc [.ref (a 13), .int x1, .int x2, .int x3, .int x4] (nx_P E (nx_A a 24 sz) sz (cW E a size on kinds marks nb reached dist lastW par ord paths costs wanted tlen onlyF found steps plen rowW rowS tally))) (va_Qi (fun v u => (v, u) = o) (fun u t => va_P E.1 vwCl (cW E a size on kinds marks nb (u.1) (u.2.1) (u.2.2.1) (u.2.2.2.1) (u.2.2.2.2.1) (u.2.2.2.2.2) costs wanted tlen onlyF found steps plen rowW rowS tally) t.heap) (nx_A a 24 sz)) 0 0 (nx_A a 24 sz) := by
  refine nx_enI (fun v u => (v, u) = o) (fun (u : Int32 × (Nat → Int32) × (Nat → Int32) × (Nat → Int32) × (Nat → Int32) × (Nat → Int64)) => (cW E a size on kinds marks nb (u.1) (u.2.1) (u.2.2.1) (u.2.2.2.1) (u.2.2.2.2.1) (u.2.2.2.2.2) costs wanted tlen onlyF found steps plen rowW rowS tally)) (by decide) (Nat.le_of_ble_eq_true rfl) ?_
  intro p e s m below meth c Q X kr hsz hP ls hl
  subst hsz
  generalize hargs : (List.toArray [.ref (a 13), .int x1, .int x2, .int x3, .int x4] : Array Value) = args at X kr ⊢
  clear hargs
  obtain ⟨⟨hx, hb, hml, hown, hts⟩, hK, hSt, hNz⟩ := id X
  have hS : va_S (nx_A a 24 s.heap.size) s.heap s.heap [] := va_S.rf
  have hl : lv_has ls 5 [(0, .ref (a 13)), (1, .int x1), (2, .int x2), (3, .int x3), (4, .int x4)] := hl
  unfold f_X5_stepAt at h
  suffices hw : ∀ (H : Heap) (locs : List Loc), va_P E.1 vwCl (cW E a size on kinds marks nb reached dist lastW par ord paths costs wanted tlen onlyF found steps plen rowW rowS tally) H → va_S (nx_A a 24 s.heap.size) s.heap H locs → W p l e (nx_rm 5 120) s m args below meth c H locs 0 0 Q (F0 m 0 ls []) from hw _ _ hP va_S.rf
  intro H locs hP hS
  refine lv_aload_n hx hb dX5_stepAt_0 rfl (lv_at hl 0 rfl) ?_
  refine nx_gf X hP uw_X5 (ci := 5) rfl 13 rfl 1 (by decide) wf_RX5_19 rfl dX5_stepAt_1 ?_
  refine lv_aload_n hx hb dX5_stepAt_4 rfl (lv_at hl 0 rfl) ?_
  refine lv_iload_n hx hb dX5_stepAt_5 rfl (lv_at hl 1 rfl) ?_
  refine lv_iload_n hx hb dX5_stepAt_6 rfl (lv_at hl 2 rfl) ?_
  refine lv_iload_n hx hb dX5_stepAt_7 rfl (lv_at hl 3 rfl) ?_
  obtain ⟨⟨r_2, ⟨k_3, k_4, k_5, k_6, k_7, k_8⟩⟩, hc_1, h⟩ := nx_bd h
  refine nx_kwi (nx_runV (As := [.int x1, .int x2, .int x3]) (rest := [.ref (a 6)]) X hS hP (c_X5_endOf l N E H.size a size on kinds marks nb reached dist lastW par ord paths costs wanted tlen onlyF found steps plen rowW rowS tally x1 x2 x3 hI _ hc_1) (nx_Am hS.1) qV_RX5_23 ⟨rfl, rfl⟩ ⟨Nat.le_of_ble_eq_true rfl, Nat.le_of_ble_eq_true rfl⟩ ⟨Nat.zero_le _, Nat.zero_le _⟩ 13 rfl rfl rfl rfl hl.1 (Nat.le_of_ble_eq_true rfl) dX5_stepAt_8) hS (nx_Am hS.1) (fun H locs hP hS => ?_)
  have hP : va_P E.1 vwCl (cW E a size on kinds marks nb k_3 k_4 k_5 k_6 k_7 k_8 costs wanted tlen onlyF found steps plen rowW rowS tally) H := hP
  refine lv_iload hx hb dX5_stepAt_11 (lv_at hl 4 rfl) ?_
  obtain ⟨r_11, hc_10, h⟩ := nx_bd h
  refine nx_ki (nx_runV (As := [.int r_2, .int x4]) (rest := []) X hS hP (c_X8_stepTo l N E H.size a size on kinds marks nb k_3 k_4 k_5 k_6 k_7 k_8 costs wanted tlen onlyF found steps plen rowW rowS tally r_2 x4 _ hc_10) nx_FA qV_RX5_36 ⟨rfl, rfl⟩ ⟨Nat.le_of_ble_eq_true rfl, Nat.le_of_ble_eq_true rfl⟩ ⟨Nat.zero_le _, Nat.zero_le _⟩ 6 rfl rfl rfl rfl hl.1 (Nat.le_of_ble_eq_true rfl) dX5_stepAt_13) hS nx_FA (fun H locs hP hS => ?_)
  exact kr 16 ls r_11 (k_3, k_4, k_5, k_6, k_7, k_8) H locs dX5_stepAt_16 (Option.some.inj h) hP hS
def f_X10_way (N : Nat) (x1 : Int32) (x2 : Int32) (x3 : Int32) (x4 : Int32) (x5 : Int32) (size : Int32) (on : Int32) (kinds : Nat → Int32) (marks : Nat → Int32) (nb : Nat → Int32) (reached : Int32) (dist : Nat → Int32) (lastW : Nat → Int32) (par : Nat → Int32) (ord : Nat → Int32) (paths : Nat → Int64) : Option (Int32 × (Int32 × (Nat → Int32) × (Nat → Int32) × (Nat → Int32) × (Nat → Int32) × (Nat → Int64))) :=
  (f_X10_refusalOfGoal x1 x2 x3 x4 size).bind fun r_2 => if r_2 = 0 then ((f_X4_at x1 x2).bind fun r_4 => (f_X5_stepAt N r_4 x3 x4 x5 size on kinds marks nb reached dist lastW par ord paths).bind fun t_13 => some (t_13.1, (t_13.2.1, t_13.2.2.1, t_13.2.2.2.1, t_13.2.2.2.2.1, t_13.2.2.2.2.2.1, t_13.2.2.2.2.2.2))) else (some (r_2, (reached, dist, lastW, par, ord, paths)))
set_option maxHeartbeats 4000000 in
set_option maxRecDepth 100000 in
theorem c_X10_way (l : Launch) (N : Nat) (E : nx_E) (sz : Nat) (a : Nat → Nat) (size : Int32) (on : Int32) (kinds : Nat → Int32) (marks : Nat → Int32) (nb : Nat → Int32) (reached : Int32) (dist : Nat → Int32) (lastW : Nat → Int32) (par : Nat → Int32) (ord : Nat → Int32) (paths : Nat → Int64) (costs : Nat → Int32) (wanted : Int32) (tlen : Int32) (onlyF : Int32) (found : Int32) (steps : Nat → Int32) (plen : Int32) (rowW : Nat → Int32) (rowS : Nat → Int32) (tally : Nat → Int32) (x1 : Int32) (x2 : Int32) (x3 : Int32) (x4 : Int32) (x5 : Int32) (hI : nx_inj a 24) (o : Int32 × (Int32 × (Nat → Int32) × (Nat → Int32) × (Nat → Int32) × (Nat → Int32) × (Nat → Int64))) (h : f_X10_way N x1 x2 x3 x4 x5 size on kinds marks nb reached dist lastW par ord paths = some o) : Met l yX10_way (.code yX10_way cX10_way 7 (some .int) :: nx_T) (nx_rm 6 144) (va_Pc [.ref (a 0), .int x1, .int x2, .int x3, .int x4, .int x5] (nx_P E (nx_A a 24 sz) sz (cW E a size on kinds marks nb reached dist lastW par ord paths costs wanted tlen onlyF found steps plen rowW rowS tally))) (va_Qi (fun v u => (v, u) = o) (fun u t => va_P E.1 vwCl (cW E a size on kinds marks nb (u.1) (u.2.1) (u.2.2.1) (u.2.2.2.1) (u.2.2.2.2.1) (u.2.2.2.2.2) costs wanted tlen onlyF found steps plen rowW rowS tally) t.heap) (nx_A a 24 sz)) 0 0 (nx_A a 24 sz) := by
  refine nx_enI (fun v u => (v, u) = o) (fun (u : Int32 × (Nat → Int32) × (Nat → Int32) × (Nat → Int32) × (Nat → Int32) × (Nat → Int64)) => (cW E a size on kinds marks nb (u.1) (u.2.1) (u.2.2.1) (u.2.2.2.1) (u.2.2.2.2.1) (u.2.2.2.2.2) costs wanted tlen onlyF found steps plen rowW rowS tally)) (by decide) (Nat.le_of_ble_eq_true rfl) ?_
  intro p e s m below meth c Q X kr hsz hP ls hl
  subst hsz
  generalize hargs : (List.toArray [.ref (a 0), .int x1, .int x2, .int x3, .int x4, .int x5] : Array Value) = args at X kr ⊢
  clear hargs
  obtain ⟨⟨hx, hb, hml, hown, hts⟩, hK, hSt, hNz⟩ := id X
  have hS : va_S (nx_A a 24 s.heap.size) s.heap s.heap [] := va_S.rf
  have hl : lv_has ls 7 [(0, .ref (a 0)), (1, .int x1), (2, .int x2), (3, .int x3), (4, .int x4), (5, .int x5)] := hl
  unfold f_X10_way at h
  suffices hw : ∀ (H : Heap) (locs : List Loc), va_P E.1 vwCl (cW E a size on kinds marks nb reached dist lastW par ord paths costs wanted tlen onlyF found steps plen rowW rowS tally) H → va_S (nx_A a 24 s.heap.size) s.heap H locs → W p l e (nx_rm 6 144) s m args below meth c H locs 0 0 Q (F0 m 0 ls []) from hw _ _ hP va_S.rf
  intro H locs hP hS
  refine lv_aload_n hx hb dX10_way_0 rfl (lv_at hl 0 rfl) ?_
  refine lv_iload_n hx hb dX10_way_1 rfl (lv_at hl 1 rfl) ?_
  refine lv_iload_n hx hb dX10_way_2 rfl (lv_at hl 2 rfl) ?_
  refine lv_iload_n hx hb dX10_way_3 rfl (lv_at hl 3 rfl) ?_
  refine lv_iload hx hb dX10_way_4 (lv_at hl 4 rfl) ?_
  obtain ⟨r_2, hc_1, h⟩ := nx_bd h
  refine nx_ki (nx_runV (As := [.int x1, .int x2, .int x3, .int x4]) (rest := []) X hS hP (c_X10_refusalOfGoal l E H.size a size on kinds marks nb reached dist lastW par ord paths costs wanted tlen onlyF found steps plen rowW rowS tally x1 x2 x3 x4 _ hc_1) nx_FA qV_RX10_158 ⟨rfl, rfl⟩ ⟨Nat.le_of_ble_eq_true rfl, Nat.le_of_ble_eq_true rfl⟩ ⟨Nat.zero_le _, Nat.zero_le _⟩ 0 rfl rfl rfl rfl hl.1 (Nat.le_of_ble_eq_true rfl) dX10_way_6) hS nx_FA (fun H locs hP hS => ?_)
  refine lv_istore (lv' := [(6, .int r_2), (0, .ref (a 0)), (1, .int x1), (2, .int x2), (3, .int x3), (4, .int x4), (5, .int x5)]) hx hb dX10_way_9 hl (by decide) rfl (fun ls hl => ?_)
  refine lv_iload hx hb dX10_way_11 (lv_at hl 0 rfl) ?_
  refine lv_if_eq (tgt := 21) hx hb dX10_way_13 (by decide) (fun hc => ?_) (fun hc => ?_)
  · have h := nx_it h hc
    refine lv_aload_n hx hb dX10_way_21 rfl (lv_at hl 1 rfl) ?_
    refine nx_gf X hP uw_X10 (ci := 9) rfl 0 rfl 4 (by decide) wf_RX10_44 rfl dX10_way_22 ?_
    refine lv_iload_n hx hb dX10_way_25 rfl (lv_at hl 2 rfl) ?_
    refine lv_iload_n hx hb dX10_way_26 rfl (lv_at hl 3 rfl) ?_
    obtain ⟨r_4, hc_3, h⟩ := nx_bd h
    refine nx_ki (nx_runS (As := [.int x1, .int x2]) (rest := [.ref (a 13)]) X hS hP (c_X4_at l E H.size _ x1 x2 _ hc_3) nx_FA qS_RX10_152 ⟨rfl, rfl⟩ ⟨Nat.le_of_ble_eq_true rfl, Nat.le_of_ble_eq_true rfl⟩ ⟨Nat.zero_le _, Nat.zero_le _⟩ rfl rfl hl.1 (Nat.le_of_ble_eq_true rfl) dX10_way_27) hS nx_FA (fun H locs hP hS => ?_)
    refine lv_iload_n hx hb dX10_way_30 rfl (lv_at hl 4 rfl) ?_
    refine lv_iload hx hb dX10_way_31 (lv_at hl 5 rfl) ?_
    refine lv_iload hx hb dX10_way_33 (lv_at hl 6 rfl) ?_
    obtain ⟨⟨r_6, ⟨k_7, k_8, k_9, k_10, k_11, k_12⟩⟩, hc_5, h⟩ := nx_bd h
    refine nx_kwi (nx_runV (As := [.int r_4, .int x3, .int x4, .int x5]) (rest := []) X hS hP (c_X5_stepAt l N E H.size a size on kinds marks nb reached dist lastW par ord paths costs wanted tlen onlyF found steps plen rowW rowS tally r_4 x3 x4 x5 hI _ hc_5) (nx_Am hS.1) qV_RX10_166 ⟨rfl, rfl⟩ ⟨Nat.le_of_ble_eq_true rfl, Nat.le_of_ble_eq_true rfl⟩ ⟨Nat.zero_le _, Nat.zero_le _⟩ 13 rfl rfl rfl rfl hl.1 (Nat.le_of_ble_eq_true rfl) dX10_way_35) hS (nx_Am hS.1) (fun H locs hP hS => ?_)
    have hP : va_P E.1 vwCl (cW E a size on kinds marks nb k_7 k_8 k_9 k_10 k_11 k_12 costs wanted tlen onlyF found steps plen rowW rowS tally) H := hP
    exact kr 38 ls r_6 (k_7, k_8, k_9, k_10, k_11, k_12) H locs dX10_way_38 (Option.some.inj h) hP hS
  · have h := nx_if h hc
    refine lv_iload hx hb dX10_way_16 (lv_at hl 0 rfl) ?_
    refine lv_goto (tgt := 38) hx hb dX10_way_18 (by decide) ?_
    exact kr 38 ls r_2 (reached, dist, lastW, par, ord, paths) H locs dX10_way_38 (Option.some.inj h) hP hS
def f_X8_pathsTo (x1 : Int32) (paths : Nat → Int64) : Option (Int64) :=
  (f_X8_isState x1).bind fun r_2 => if r_2 = 0 then (some 0) else ((nx_rd paths 600 x1).bind fun _ => some (paths x1.toNatClampNeg))
set_option maxHeartbeats 4000000 in
set_option maxRecDepth 100000 in
theorem c_X8_pathsTo (l : Launch) (E : nx_E) (sz : Nat) (a : Nat → Nat) (size : Int32) (on : Int32) (kinds : Nat → Int32) (marks : Nat → Int32) (nb : Nat → Int32) (reached : Int32) (dist : Nat → Int32) (lastW : Nat → Int32) (par : Nat → Int32) (ord : Nat → Int32) (paths : Nat → Int64) (costs : Nat → Int32) (wanted : Int32) (tlen : Int32) (onlyF : Int32) (found : Int32) (steps : Nat → Int32) (plen : Int32) (rowW : Nat → Int32) (rowS : Nat → Int32) (tally : Nat → Int32) (x1 : Int32) (o : Int64) (h : f_X8_pathsTo x1 paths = some o) : Met l yX8_pathsTo (.code yX8_pathsTo cX8_pathsTo 2 (some .long) :: nx_T) (nx_rm 1 20) (va_Pc [.ref (a 6), .int x1] (nx_P E (nx_F) sz (cW E a size on kinds marks nb reached dist lastW par ord paths costs wanted tlen onlyF found steps plen rowW rowS tally))) (va_Ql (fun v (_ : Unit) => v = o) (fun _ t => va_P E.1 vwCl (cW E a size on kinds marks nb reached dist lastW par ord paths costs wanted tlen onlyF found steps plen rowW rowS tally) t.heap) (nx_F)) 0 0 (nx_F) := by
  refine nx_enJ (fun v (_ : Unit) => v = o) (fun (_ : Unit) => (cW E a size on kinds marks nb reached dist lastW par ord paths costs wanted tlen onlyF found steps plen rowW rowS tally)) (by decide) (Nat.le_of_ble_eq_true rfl) ?_
  intro p e s m below meth c Q X kr hsz hP ls hl
  subst hsz
  generalize hargs : (List.toArray [.ref (a 6), .int x1] : Array Value) = args at X kr ⊢
  clear hargs
  obtain ⟨⟨hx, hb, hml, hown, hts⟩, hK, hSt, hNz⟩ := id X
  have hS : va_S (nx_F) s.heap s.heap [] := va_S.rf
  have hl : lv_has ls 2 [(0, .ref (a 6)), (1, .int x1)] := hl
  unfold f_X8_pathsTo at h
  suffices hw : ∀ (H : Heap) (locs : List Loc), va_P E.1 vwCl (cW E a size on kinds marks nb reached dist lastW par ord paths costs wanted tlen onlyF found steps plen rowW rowS tally) H → va_S (nx_F) s.heap H locs → W p l e (nx_rm 1 20) s m args below meth c H locs 0 0 Q (F0 m 0 ls []) from hw _ _ hP va_S.rf
  intro H locs hP hS
  refine lv_iload_n hx hb dX8_pathsTo_0 rfl (lv_at hl 1 rfl) ?_
  obtain ⟨r_2, hc_1, h⟩ := nx_bd h
  refine nx_ki (nx_runS (As := [.int x1]) (rest := []) X hS hP (c_X8_isState l E H.size _ x1 _ hc_1) nx_FA qS_RX8_38 ⟨rfl, rfl⟩ ⟨Nat.le_of_ble_eq_true rfl, Nat.le_of_ble_eq_true rfl⟩ ⟨Nat.zero_le _, Nat.zero_le _⟩ rfl rfl hl.1 (Nat.le_of_ble_eq_true rfl) dX8_pathsTo_1) hS nx_FA (fun H locs hP hS => ?_)
  refine lv_if_eq (tgt := 16) hx hb dX8_pathsTo_4 (by decide) (fun hc => ?_) (fun hc => ?_)
  · have h := nx_it h hc
    refine lv_lconst (v := 0) hx hb dX8_pathsTo_16 (by decide) ?_
    exact kr 17 ls 0 () H locs dX8_pathsTo_17 (Option.some.inj h) hP hS
  · have h := nx_if h hc
    refine lv_aload_n hx hb dX8_pathsTo_7 rfl (lv_at hl 0 rfl) ?_
    refine nx_gf X hP uw_X8 (ci := 7) rfl 6 rfl 4 (by decide) wf_RX8_24 rfl dX8_pathsTo_8 ?_
    refine lv_iload_n hx hb dX8_pathsTo_11 rfl (lv_at hl 1 rfl) ?_
    obtain ⟨hv_3, h⟩ := nx_rb h
    refine nx_ldl X hP 11 rfl hv_3 dX8_pathsTo_12 ?_
    refine lv_goto (tgt := 17) hx hb dX8_pathsTo_13 (by decide) ?_
    exact kr 17 ls (paths x1.toNatClampNeg) () H locs dX8_pathsTo_17 (Option.some.inj h) hP hS
def f_X5_howMany_b22 (x2 : Int32) (x3 : Int32) (x4 : Int32) (reached : Int32) (dist : Nat → Int32) (ord : Nat → Int32) (paths : Nat → Int64) (rec : (Int64 × Int32) → Option (Int64)) (x5 : Int64) (x7 : Int32) : Option (Int64) :=
  (f_X8_reached reached).bind fun r_2 => if r_2 ≤ x7 then (some x5) else ((f_X8_reachedAt x7 reached ord).bind fun r_4 => (f_X5_meets r_4 x2 x3).bind fun r_6 => if r_6 = 0 then (rec (x5, (x7 + 1))) else ((f_X8_distanceTo r_4 dist).bind fun r_8 => if r_8 = x4 then ((f_X8_pathsTo r_4 paths).bind fun r_10 => rec ((x5 + r_10), (x7 + 1))) else (rec (x5, (x7 + 1)))))
def f_X5_howMany_l22 (x2 : Int32) (x3 : Int32) (x4 : Int32) (reached : Int32) (dist : Nat → Int32) (ord : Nat → Int32) (paths : Nat → Int64) : Nat → (Int64 × Int32) → Option (Int64) := nx_lp (fun rec z => f_X5_howMany_b22 x2 x3 x4 reached dist ord paths rec z.1 z.2)
def f_X5_howMany (N : Nat) (x1 : Int32) (x2 : Int32) (x3 : Int32) (size : Int32) (on : Int32) (kinds : Nat → Int32) (marks : Nat → Int32) (nb : Nat → Int32) (reached : Int32) (dist : Nat → Int32) (lastW : Nat → Int32) (par : Nat → Int32) (ord : Nat → Int32) (paths : Nat → Int64) : Option (Int64 × (Int32 × (Nat → Int32) × (Nat → Int32) × (Nat → Int32) × (Nat → Int32) × (Nat → Int64))) :=
  (f_X5_endOf N x1 x2 x3 size on kinds marks nb reached dist lastW par ord paths).bind fun t_19 => (f_X8_distanceTo t_19.1 t_19.2.2.1).bind fun r_21 => (f_X5_howMany_l22 x2 x3 r_21 t_19.2.1 t_19.2.2.1 t_19.2.2.2.2.2.1 t_19.2.2.2.2.2.2 N (0, 0)).bind fun z_22 => some (z_22, (t_19.2.1, t_19.2.2.1, t_19.2.2.2.1, t_19.2.2.2.2.1, t_19.2.2.2.2.2.1, t_19.2.2.2.2.2.2))
set_option maxHeartbeats 4000000 in
set_option maxRecDepth 100000 in
theorem c_X5_howMany (l : Launch) (N : Nat) (E : nx_E) (sz : Nat) (a : Nat → Nat) (size : Int32) (on : Int32) (kinds : Nat → Int32) (marks : Nat → Int32) (nb : Nat → Int32) (reached : Int32) (dist : Nat → Int32) (lastW : Nat → Int32) (par : Nat → Int32) (ord : Nat → Int32) (paths : Nat → Int64) (costs : Nat → Int32) (wanted : Int32) (tlen : Int32) (onlyF : Int32) (found : Int32) (steps : Nat → Int32) (plen : Int32) (rowW : Nat → Int32) (rowS : Nat → Int32) (tally : Nat → Int32) (x1 : Int32) (x2 : Int32) (x3 : Int32) (hI : nx_inj a 24) (o : Int64 × (Int32 × (Nat → Int32) × (Nat → Int32) × (Nat → Int32) × (Nat → Int32) × (Nat → Int64))) (h : f_X5_howMany N x1 x2 x3 size on kinds marks nb reached dist lastW par ord paths = some o) : Met l yX5_howMany (.code yX5_howMany cX5_howMany 9 (some .long) :: nx_T) (nx_rm 5 120) (va_Pc [.ref (a 13), .int x1, .int x2, .int x3] (nx_P E (nx_A a 24 sz) sz (cW E a size on kinds marks nb reached dist lastW par ord paths costs wanted tlen onlyF found steps plen rowW rowS tally))) (va_Ql (fun v u => (v, u) = o) (fun u t => va_P E.1 vwCl (cW E a size on kinds marks nb (u.1) (u.2.1) (u.2.2.1) (u.2.2.2.1) (u.2.2.2.2.1) (u.2.2.2.2.2) costs wanted tlen onlyF found steps plen rowW rowS tally) t.heap) (nx_A a 24 sz)) 0 0 (nx_A a 24 sz) := by
  refine nx_enJ (fun v u => (v, u) = o) (fun (u : Int32 × (Nat → Int32) × (Nat → Int32) × (Nat → Int32) × (Nat → Int32) × (Nat → Int64)) => (cW E a size on kinds marks nb (u.1) (u.2.1) (u.2.2.1) (u.2.2.2.1) (u.2.2.2.2.1) (u.2.2.2.2.2) costs wanted tlen onlyF found steps plen rowW rowS tally)) (by decide) (Nat.le_of_ble_eq_true rfl) ?_
  intro p e s m below meth c Q X kr hsz hP ls hl
  subst hsz
  generalize hargs : (List.toArray [.ref (a 13), .int x1, .int x2, .int x3] : Array Value) = args at X kr ⊢
  clear hargs
  obtain ⟨⟨hx, hb, hml, hown, hts⟩, hK, hSt, hNz⟩ := id X
  have hS : va_S (nx_A a 24 s.heap.size) s.heap s.heap [] := va_S.rf
  have hl : lv_has ls 9 [(0, .ref (a 13)), (1, .int x1), (2, .int x2), (3, .int x3)] := hl
  have L22 : ∀ (x2 : Int32) (x3 : Int32) (x4 : Int32) (reached : Int32) (dist : Nat → Int32) (ord : Nat → Int32) (paths : Nat → Int64) (lastW : Nat → Int32) (par : Nat → Int32) (n : Nat) (x5 : Int64) (x7 : Int32) (z : (Int64)), f_X5_howMany_l22 x2 x3 x4 reached dist ord paths n (x5, x7) = some z → ∀ (H : Heap) (locs : List Loc) (ls : Array Slot), va_P E.1 vwCl (cW E a size on kinds marks nb reached dist lastW par ord paths costs wanted tlen onlyF found steps plen rowW rowS tally) H → va_S (nx_A a 24 s.heap.size) s.heap H locs → lv_has ls 9 [(0, .ref (a 13)), (2, .int x2), (3, .int x3), (4, .int x4), (5, .long x5), (7, .int x7)] → ∀ (kR : ∀ (H : Heap) (locs : List Loc) (ls : Array Slot), va_P E.1 vwCl (cW E a size on kinds marks nb reached dist lastW par ord paths costs wanted tlen onlyF found steps plen rowW rowS tally) H → va_S (nx_A a 24 s.heap.size) s.heap H locs → lv_has ls 9 [(0, .ref (a 13)), (5, .long z)] → W p l e (nx_rm 5 120) s m args below meth c H locs 0 0 Q (F0 m 89 ls [])), W p l e (nx_rm 5 120) s m args below meth c H locs 0 0 Q (F0 m 22 ls []) := by
   intro x2 x3 x4 reached dist ord paths lastW par n
   induction n with
   | zero => intro x5 x7 z h; exact nomatch (show none = some z from h)
   | succ n ih =>
    intro x5 x7 z h H locs ls hP hS hl kR
    have h : f_X5_howMany_b22 x2 x3 x4 reached dist ord paths (f_X5_howMany_l22 x2 x3 x4 reached dist ord paths n) x5 x7 = some z := h
    unfold f_X5_howMany_b22 at h
    refine lv_iload hx hb dX5_howMany_22 (lv_at hl 5 rfl) ?_
    refine lv_aload_n hx hb dX5_howMany_24 rfl (lv_at hl 0 rfl) ?_
    refine nx_gf X hP uw_X5 (ci := 5) rfl 13 rfl 1 (by decide) wf_RX5_19 rfl dX5_howMany_25 ?_
    obtain ⟨r_2, hc_1, h⟩ := nx_bd h
    refine nx_ki (nx_runV (As := []) (rest := [.int x7]) X hS hP (c_X8_reached l E H.size a size on kinds marks nb reached dist lastW par ord paths costs wanted tlen onlyF found steps plen rowW rowS tally _ hc_1) nx_FA qV_RX5_40 ⟨rfl, rfl⟩ ⟨Nat.le_of_ble_eq_true rfl, Nat.le_of_ble_eq_true rfl⟩ ⟨Nat.zero_le _, Nat.zero_le _⟩ 6 rfl rfl rfl rfl hl.1 (Nat.le_of_ble_eq_true rfl) dX5_howMany_28) hS nx_FA (fun H locs hP hS => ?_)
    refine lv_icmp_ge (tgt := 89) hx hb dX5_howMany_31 (by decide) (fun hc => ?_) (fun hc => ?_)
    · have h := nx_it h hc
      obtain rfl := Option.some.inj h
      exact kR H locs ls hP hS (lv_sub hl [0, 4] rfl)
    · have h := nx_if h hc
      refine lv_aload_n hx hb dX5_howMany_34 rfl (lv_at hl 0 rfl) ?_
      refine nx_gf X hP uw_X5 (ci := 5) rfl 13 rfl 1 (by decide) wf_RX5_19 rfl dX5_howMany_35 ?_
      refine lv_iload hx hb dX5_howMany_38 (lv_at hl 5 rfl) ?_
      obtain ⟨r_4, hc_3, h⟩ := nx_bd h
      refine nx_ki (nx_runV (As := [.int x7]) (rest := []) X hS hP (c_X8_reachedAt l E H.size a size on kinds marks nb reached dist lastW par ord paths costs wanted tlen onlyF found steps plen rowW rowS tally x7 _ hc_3) nx_FA qV_RX5_44 ⟨rfl, rfl⟩ ⟨Nat.le_of_ble_eq_true rfl, Nat.le_of_ble_eq_true rfl⟩ ⟨Nat.zero_le _, Nat.zero_le _⟩ 6 rfl rfl rfl rfl hl.1 (Nat.le_of_ble_eq_true rfl) dX5_howMany_40) hS nx_FA (fun H locs hP hS => ?_)
      refine lv_istore (lv' := [(8, .int r_4), (0, .ref (a 13)), (2, .int x2), (3, .int x3), (4, .int x4), (5, .long x5), (7, .int x7)]) hx hb dX5_howMany_43 hl (by decide) rfl (fun ls hl => ?_)
      refine lv_iload hx hb dX5_howMany_45 (lv_at hl 0 rfl) ?_
      refine lv_iload_n hx hb dX5_howMany_47 rfl (lv_at hl 2 rfl) ?_
      refine lv_iload_n hx hb dX5_howMany_48 rfl (lv_at hl 3 rfl) ?_
      obtain ⟨r_6, hc_5, h⟩ := nx_bd h
      refine nx_ki (nx_runS (As := [.int r_4, .int x2, .int x3]) (rest := []) X hS hP (c_X5_meets l E H.size _ r_4 x2 x3 _ hc_5) nx_FA qS_RX5_47 ⟨rfl, rfl⟩ ⟨Nat.le_of_ble_eq_true rfl, Nat.le_of_ble_eq_true rfl⟩ ⟨Nat.zero_le _, Nat.zero_le _⟩ rfl rfl hl.1 (Nat.le_of_ble_eq_true rfl) dX5_howMany_49) hS nx_FA (fun H locs hP hS => ?_)
      refine lv_if_eq (tgt := 83) hx hb dX5_howMany_52 (by decide) (fun hc => ?_) (fun hc => ?_)
      · have h := nx_it h hc
        refine lv_iinc (v := (x7 + 1)) (lv' := [(7, .int (x7 + 1)), (8, .int r_4), (0, .ref (a 13)), (2, .int x2), (3, .int x3), (4, .int x4), (5, .long x5)]) hx hb dX5_howMany_83 hl (k := 6) rfl rfl (by decide) rfl (fun ls hl => ?_)
        refine lv_goto (tgt := 22) hx hb dX5_howMany_86 (by decide) ?_
        exact ih _ _ z h H locs ls hP hS (lv_sub hl [2, 3, 4, 5, 6, 0] rfl) kR
      · have h := nx_if h hc
        refine lv_aload_n hx hb dX5_howMany_55 rfl (lv_at hl 1 rfl) ?_
        refine nx_gf X hP uw_X5 (ci := 5) rfl 13 rfl 1 (by decide) wf_RX5_19 rfl dX5_howMany_56 ?_
        refine lv_iload hx hb dX5_howMany_59 (lv_at hl 0 rfl) ?_
        obtain ⟨r_8, hc_7, h⟩ := nx_bd h
        refine nx_ki (nx_runV (As := [.int r_4]) (rest := []) X hS hP (c_X8_distanceTo l E H.size a size on kinds marks nb reached dist lastW par ord paths costs wanted tlen onlyF found steps plen rowW rowS tally r_4 _ hc_7) nx_FA qV_RX5_27 ⟨rfl, rfl⟩ ⟨Nat.le_of_ble_eq_true rfl, Nat.le_of_ble_eq_true rfl⟩ ⟨Nat.zero_le _, Nat.zero_le _⟩ 6 rfl rfl rfl rfl hl.1 (Nat.le_of_ble_eq_true rfl) dX5_howMany_61) hS nx_FA (fun H locs hP hS => ?_)
        refine lv_iload hx hb dX5_howMany_64 (lv_at hl 4 rfl) ?_
        refine lv_icmp_ne (tgt := 83) hx hb dX5_howMany_66 (by decide) (fun hc => ?_) (fun hc => ?_)
        · have h := nx_if h hc
          refine lv_iinc (v := (x7 + 1)) (lv' := [(7, .int (x7 + 1)), (8, .int r_4), (0, .ref (a 13)), (2, .int x2), (3, .int x3), (4, .int x4), (5, .long x5)]) hx hb dX5_howMany_83 hl (k := 6) rfl rfl (by decide) rfl (fun ls hl => ?_)
          refine lv_goto (tgt := 22) hx hb dX5_howMany_86 (by decide) ?_
          exact ih _ _ z h H locs ls hP hS (lv_sub hl [2, 3, 4, 5, 6, 0] rfl) kR
        · have h := nx_it h hc
          refine lv_lload hx hb dX5_howMany_69 (lv_at hl 5 rfl) ?_
          refine lv_aload_n hx hb dX5_howMany_71 rfl (lv_at hl 1 rfl) ?_
          refine nx_gf X hP uw_X5 (ci := 5) rfl 13 rfl 1 (by decide) wf_RX5_19 rfl dX5_howMany_72 ?_
          refine lv_iload hx hb dX5_howMany_75 (lv_at hl 0 rfl) ?_
          obtain ⟨r_10, hc_9, h⟩ := nx_bd h
          refine nx_kl (nx_runV (As := [.int r_4]) (rest := [.long x5]) X hS hP (c_X8_pathsTo l E H.size a size on kinds marks nb reached dist lastW par ord paths costs wanted tlen onlyF found steps plen rowW rowS tally r_4 _ hc_9) nx_FA qV_RX5_51 ⟨rfl, rfl⟩ ⟨Nat.le_of_ble_eq_true rfl, Nat.le_of_ble_eq_true rfl⟩ ⟨Nat.zero_le _, Nat.zero_le _⟩ 6 rfl rfl rfl rfl hl.1 (Nat.le_of_ble_eq_true rfl) dX5_howMany_77) hS nx_FA (fun H locs hP hS => ?_)
          refine lv_ladd hx hb dX5_howMany_80 ?_
          refine lv_lstore (lv' := [(5, .long (x5 + r_10)), (8, .int r_4), (0, .ref (a 13)), (2, .int x2), (3, .int x3), (4, .int x4), (7, .int x7)]) hx hb dX5_howMany_81 hl (by decide) rfl (fun ls hl => ?_)
          refine lv_iinc (v := (x7 + 1)) (lv' := [(7, .int (x7 + 1)), (5, .long (x5 + r_10)), (8, .int r_4), (0, .ref (a 13)), (2, .int x2), (3, .int x3), (4, .int x4)]) hx hb dX5_howMany_83 hl (k := 6) rfl rfl (by decide) rfl (fun ls hl => ?_)
          refine lv_goto (tgt := 22) hx hb dX5_howMany_86 (by decide) ?_
          exact ih _ _ z h H locs ls hP hS (lv_sub hl [3, 4, 5, 6, 1, 0] rfl) kR
  unfold f_X5_howMany at h
  suffices hw : ∀ (H : Heap) (locs : List Loc), va_P E.1 vwCl (cW E a size on kinds marks nb reached dist lastW par ord paths costs wanted tlen onlyF found steps plen rowW rowS tally) H → va_S (nx_A a 24 s.heap.size) s.heap H locs → W p l e (nx_rm 5 120) s m args below meth c H locs 0 0 Q (F0 m 0 ls []) from hw _ _ hP va_S.rf
  intro H locs hP hS
  refine lv_aload_n hx hb dX5_howMany_0 rfl (lv_at hl 0 rfl) ?_
  refine nx_gf X hP uw_X5 (ci := 5) rfl 13 rfl 1 (by decide) wf_RX5_19 rfl dX5_howMany_1 ?_
  refine lv_aload_n hx hb dX5_howMany_4 rfl (lv_at hl 0 rfl) ?_
  refine lv_iload_n hx hb dX5_howMany_5 rfl (lv_at hl 1 rfl) ?_
  refine lv_iload_n hx hb dX5_howMany_6 rfl (lv_at hl 2 rfl) ?_
  refine lv_iload_n hx hb dX5_howMany_7 rfl (lv_at hl 3 rfl) ?_
  obtain ⟨⟨r_12, ⟨k_13, k_14, k_15, k_16, k_17, k_18⟩⟩, hc_11, h⟩ := nx_bd h
  refine nx_kwi (nx_runV (As := [.int x1, .int x2, .int x3]) (rest := [.ref (a 6)]) X hS hP (c_X5_endOf l N E H.size a size on kinds marks nb reached dist lastW par ord paths costs wanted tlen onlyF found steps plen rowW rowS tally x1 x2 x3 hI _ hc_11) (nx_Am hS.1) qV_RX5_23 ⟨rfl, rfl⟩ ⟨Nat.le_of_ble_eq_true rfl, Nat.le_of_ble_eq_true rfl⟩ ⟨Nat.zero_le _, Nat.zero_le _⟩ 13 rfl rfl rfl rfl hl.1 (Nat.le_of_ble_eq_true rfl) dX5_howMany_8) hS (nx_Am hS.1) (fun H locs hP hS => ?_)
  have hP : va_P E.1 vwCl (cW E a size on kinds marks nb k_13 k_14 k_15 k_16 k_17 k_18 costs wanted tlen onlyF found steps plen rowW rowS tally) H := hP
  obtain ⟨r_21, hc_20, h⟩ := nx_bd h
  refine nx_ki (nx_runV (As := [.int r_12]) (rest := []) X hS hP (c_X8_distanceTo l E H.size a size on kinds marks nb k_13 k_14 k_15 k_16 k_17 k_18 costs wanted tlen onlyF found steps plen rowW rowS tally r_12 _ hc_20) nx_FA qV_RX5_27 ⟨rfl, rfl⟩ ⟨Nat.le_of_ble_eq_true rfl, Nat.le_of_ble_eq_true rfl⟩ ⟨Nat.zero_le _, Nat.zero_le _⟩ 6 rfl rfl rfl rfl hl.1 (Nat.le_of_ble_eq_true rfl) dX5_howMany_11) hS nx_FA (fun H locs hP hS => ?_)
  refine lv_istore (lv' := [(4, .int r_21), (0, .ref (a 13)), (1, .int x1), (2, .int x2), (3, .int x3)]) hx hb dX5_howMany_14 hl (by decide) rfl (fun ls hl => ?_)
  refine lv_lconst (v := 0) hx hb dX5_howMany_16 (by decide) ?_
  refine lv_lstore (lv' := [(5, .long 0), (4, .int r_21), (0, .ref (a 13)), (1, .int x1), (2, .int x2), (3, .int x3)]) hx hb dX5_howMany_17 hl (by decide) rfl (fun ls hl => ?_)
  refine lv_iconst (v := 0) hx hb dX5_howMany_19 (by decide) ?_
  refine lv_istore (lv' := [(7, .int 0), (5, .long 0), (4, .int r_21), (0, .ref (a 13)), (1, .int x1), (2, .int x2), (3, .int x3)]) hx hb dX5_howMany_20 hl (by decide) rfl (fun ls hl => ?_)
  obtain ⟨z_22, hz_23, h⟩ := nx_bd h
  refine L22 _ _ _ _ _ _ _ _ _ N _ _ _ hz_23 H locs ls hP hS (lv_sub hl [3, 5, 6, 2, 1, 0] rfl) (fun H locs ls hP hS hl => ?_)
  refine lv_lload hx hb dX5_howMany_89 (lv_at hl 1 rfl) ?_
  exact kr 91 ls z_22 (k_13, k_14, k_15, k_16, k_17, k_18) H locs dX5_howMany_91 (Option.some.inj h) hP hS
def f_X10_ways (N : Nat) (x1 : Int32) (x2 : Int32) (x3 : Int32) (x4 : Int32) (size : Int32) (on : Int32) (kinds : Nat → Int32) (marks : Nat → Int32) (nb : Nat → Int32) (reached : Int32) (dist : Nat → Int32) (lastW : Nat → Int32) (par : Nat → Int32) (ord : Nat → Int32) (paths : Nat → Int64) : Option (Int64 × (Int32 × (Nat → Int32) × (Nat → Int32) × (Nat → Int32) × (Nat → Int32) × (Nat → Int64))) :=
  (f_X10_refusalOfGoal x1 x2 x3 x4 size).bind fun r_2 => if r_2 = 0 then ((f_X4_at x1 x2).bind fun r_4 => (f_X5_howMany N r_4 x3 x4 size on kinds marks nb reached dist lastW par ord paths).bind fun t_13 => some (t_13.1, (t_13.2.1, t_13.2.2.1, t_13.2.2.2.1, t_13.2.2.2.2.1, t_13.2.2.2.2.2.1, t_13.2.2.2.2.2.2))) else (some (((r_2 : Int32).toInt64), (reached, dist, lastW, par, ord, paths)))
set_option maxHeartbeats 4000000 in
set_option maxRecDepth 100000 in
theorem c_X10_ways (l : Launch) (N : Nat) (E : nx_E) (sz : Nat) (a : Nat → Nat) (size : Int32) (on : Int32) (kinds : Nat → Int32) (marks : Nat → Int32) (nb : Nat → Int32) (reached : Int32) (dist : Nat → Int32) (lastW : Nat → Int32) (par : Nat → Int32) (ord : Nat → Int32) (paths : Nat → Int64) (costs : Nat → Int32) (wanted : Int32) (tlen : Int32) (onlyF : Int32) (found : Int32) (steps : Nat → Int32) (plen : Int32) (rowW : Nat → Int32) (rowS : Nat → Int32) (tally : Nat → Int32) (x1 : Int32) (x2 : Int32) (x3 : Int32) (x4 : Int32) (hI : nx_inj a 24) (o : Int64 × (Int32 × (Nat → Int32) × (Nat → Int32) × (Nat → Int32) × (Nat → Int32) × (Nat → Int64))) (h : f_X10_ways N x1 x2 x3 x4 size on kinds marks nb reached dist lastW par ord paths = some o) : Met l yX10_ways (.code yX10_ways cX10_ways 6 (some .long) :: nx_T) (nx_rm 6 148) (va_Pc [.ref (a 0), .int x1, .int x2, .int x3, .int x4] (nx_P E (nx_A a 24 sz) sz (cW E a size on kinds marks nb reached dist lastW par ord paths costs wanted tlen onlyF found steps plen rowW rowS tally))) (va_Ql (fun v u => (v, u) = o) (fun u t => va_P E.1 vwCl (cW E a size on kinds marks nb (u.1) (u.2.1) (u.2.2.1) (u.2.2.2.1) (u.2.2.2.2.1) (u.2.2.2.2.2) costs wanted tlen onlyF found steps plen rowW rowS tally) t.heap) (nx_A a 24 sz)) 0 0 (nx_A a 24 sz) := by
  refine nx_enJ (fun v u => (v, u) = o) (fun (u : Int32 × (Nat → Int32) × (Nat → Int32) × (Nat → Int32) × (Nat → Int32) × (Nat → Int64)) => (cW E a size on kinds marks nb (u.1) (u.2.1) (u.2.2.1) (u.2.2.2.1) (u.2.2.2.2.1) (u.2.2.2.2.2) costs wanted tlen onlyF found steps plen rowW rowS tally)) (by decide) (Nat.le_of_ble_eq_true rfl) ?_
  intro p e s m below meth c Q X kr hsz hP ls hl
  subst hsz
  generalize hargs : (List.toArray [.ref (a 0), .int x1, .int x2, .int x3, .int x4] : Array Value) = args at X kr ⊢
  clear hargs
  obtain ⟨⟨hx, hb, hml, hown, hts⟩, hK, hSt, hNz⟩ := id X
  have hS : va_S (nx_A a 24 s.heap.size) s.heap s.heap [] := va_S.rf
  have hl : lv_has ls 6 [(0, .ref (a 0)), (1, .int x1), (2, .int x2), (3, .int x3), (4, .int x4)] := hl
  unfold f_X10_ways at h
  suffices hw : ∀ (H : Heap) (locs : List Loc), va_P E.1 vwCl (cW E a size on kinds marks nb reached dist lastW par ord paths costs wanted tlen onlyF found steps plen rowW rowS tally) H → va_S (nx_A a 24 s.heap.size) s.heap H locs → W p l e (nx_rm 6 148) s m args below meth c H locs 0 0 Q (F0 m 0 ls []) from hw _ _ hP va_S.rf
  intro H locs hP hS
  refine lv_aload_n hx hb dX10_ways_0 rfl (lv_at hl 0 rfl) ?_
  refine lv_iload_n hx hb dX10_ways_1 rfl (lv_at hl 1 rfl) ?_
  refine lv_iload_n hx hb dX10_ways_2 rfl (lv_at hl 2 rfl) ?_
  refine lv_iload_n hx hb dX10_ways_3 rfl (lv_at hl 3 rfl) ?_
  refine lv_iload hx hb dX10_ways_4 (lv_at hl 4 rfl) ?_
  obtain ⟨r_2, hc_1, h⟩ := nx_bd h
  refine nx_ki (nx_runV (As := [.int x1, .int x2, .int x3, .int x4]) (rest := []) X hS hP (c_X10_refusalOfGoal l E H.size a size on kinds marks nb reached dist lastW par ord paths costs wanted tlen onlyF found steps plen rowW rowS tally x1 x2 x3 x4 _ hc_1) nx_FA qV_RX10_158 ⟨rfl, rfl⟩ ⟨Nat.le_of_ble_eq_true rfl, Nat.le_of_ble_eq_true rfl⟩ ⟨Nat.zero_le _, Nat.zero_le _⟩ 0 rfl rfl rfl rfl hl.1 (Nat.le_of_ble_eq_true rfl) dX10_ways_6) hS nx_FA (fun H locs hP hS => ?_)
  refine lv_istore (lv' := [(5, .int r_2), (0, .ref (a 0)), (1, .int x1), (2, .int x2), (3, .int x3), (4, .int x4)]) hx hb dX10_ways_9 hl (by decide) rfl (fun ls hl => ?_)
  refine lv_iload hx hb dX10_ways_11 (lv_at hl 0 rfl) ?_
  refine lv_if_eq (tgt := 22) hx hb dX10_ways_13 (by decide) (fun hc => ?_) (fun hc => ?_)
  · have h := nx_it h hc
    refine lv_aload_n hx hb dX10_ways_22 rfl (lv_at hl 1 rfl) ?_
    refine nx_gf X hP uw_X10 (ci := 9) rfl 0 rfl 4 (by decide) wf_RX10_44 rfl dX10_ways_23 ?_
    refine lv_iload_n hx hb dX10_ways_26 rfl (lv_at hl 2 rfl) ?_
    refine lv_iload_n hx hb dX10_ways_27 rfl (lv_at hl 3 rfl) ?_
    obtain ⟨r_4, hc_3, h⟩ := nx_bd h
    refine nx_ki (nx_runS (As := [.int x1, .int x2]) (rest := [.ref (a 13)]) X hS hP (c_X4_at l E H.size _ x1 x2 _ hc_3) nx_FA qS_RX10_152 ⟨rfl, rfl⟩ ⟨Nat.le_of_ble_eq_true rfl, Nat.le_of_ble_eq_true rfl⟩ ⟨Nat.zero_le _, Nat.zero_le _⟩ rfl rfl hl.1 (Nat.le_of_ble_eq_true rfl) dX10_ways_28) hS nx_FA (fun H locs hP hS => ?_)
    refine lv_iload_n hx hb dX10_ways_31 rfl (lv_at hl 4 rfl) ?_
    refine lv_iload hx hb dX10_ways_32 (lv_at hl 5 rfl) ?_
    obtain ⟨⟨r_6, ⟨k_7, k_8, k_9, k_10, k_11, k_12⟩⟩, hc_5, h⟩ := nx_bd h
    refine nx_kwl (nx_runV (As := [.int r_4, .int x3, .int x4]) (rest := []) X hS hP (c_X5_howMany l N E H.size a size on kinds marks nb reached dist lastW par ord paths costs wanted tlen onlyF found steps plen rowW rowS tally r_4 x3 x4 hI _ hc_5) (nx_Am hS.1) qV_RX10_169 ⟨rfl, rfl⟩ ⟨Nat.le_of_ble_eq_true rfl, Nat.le_of_ble_eq_true rfl⟩ ⟨Nat.zero_le _, Nat.zero_le _⟩ 13 rfl rfl rfl rfl hl.1 (Nat.le_of_ble_eq_true rfl) dX10_ways_34) hS (nx_Am hS.1) (fun H locs hP hS => ?_)
    have hP : va_P E.1 vwCl (cW E a size on kinds marks nb k_7 k_8 k_9 k_10 k_11 k_12 costs wanted tlen onlyF found steps plen rowW rowS tally) H := hP
    exact kr 37 ls r_6 (k_7, k_8, k_9, k_10, k_11, k_12) H locs dX10_ways_37 (Option.some.inj h) hP hS
  · have h := nx_if h hc
    refine lv_iload hx hb dX10_ways_16 (lv_at hl 0 rfl) ?_
    refine lv_i2l (v := (r_2 : Int32).toInt64) hx hb dX10_ways_18 rfl ?_
    refine lv_goto (tgt := 37) hx hb dX10_ways_19 (by decide) ?_
    exact kr 37 ls ((r_2 : Int32).toInt64) (reached, dist, lastW, par, ord, paths) H locs dX10_ways_37 (Option.some.inj h) hP hS
def f_J7_fill_53178_r14_b5 (x1 : Int32) (x3 : Int32) (rec : (Int32 × (Nat → Int32)) → Option ((Nat → Int32))) (x2 : Int32) (costs : Nat → Int32) : Option ((Nat → Int32)) :=
  if x3 ≤ x2 then (some costs) else ((nx_ck 600 x2).bind fun _ => rec ((x2 + 1), (upd costs x2.toNatClampNeg x1)))
def f_J7_fill_53178_r14_l5 (x1 : Int32) (x3 : Int32) : Nat → (Int32 × (Nat → Int32)) → Option ((Nat → Int32)) := nx_lp (fun rec z => f_J7_fill_53178_r14_b5 x1 x3 rec z.1 z.2)
def f_J7_fill_53178_r14 (N : Nat) (x1 : Int32) (costs : Nat → Int32) : Option ((Nat → Int32)) :=
  (f_J7_fill_53178_r14_l5 x1 600 N (0, costs)).bind fun z_2 => some z_2
set_option maxHeartbeats 4000000 in
set_option maxRecDepth 100000 in
theorem c_J7_fill_53178_r14 (l : Launch) (N : Nat) (E : nx_E) (sz : Nat) (a : Nat → Nat) (size : Int32) (on : Int32) (kinds : Nat → Int32) (marks : Nat → Int32) (nb : Nat → Int32) (reached : Int32) (dist : Nat → Int32) (lastW : Nat → Int32) (par : Nat → Int32) (ord : Nat → Int32) (paths : Nat → Int64) (costs : Nat → Int32) (wanted : Int32) (tlen : Int32) (onlyF : Int32) (found : Int32) (steps : Nat → Int32) (plen : Int32) (rowW : Nat → Int32) (rowS : Nat → Int32) (tally : Nat → Int32) (x1 : Int32) (hI : nx_inj a 24) (o : (Nat → Int32)) (h : f_J7_fill_53178_r14 N x1 costs = some o) : Met l yJ7_fill_53178 (.code yJ7_fill_53178 cJ7_fill_53178 4 none :: nx_T) (nx_rm 0 0) (va_Pc [.ref (a 14), .int x1] (nx_P E (nx_A a 24 sz) sz (cW E a size on kinds marks nb reached dist lastW par ord paths costs wanted tlen onlyF found steps plen rowW rowS tally))) (va_Qv (fun u => u = o) (fun u t => va_P E.1 vwCl (cW E a size on kinds marks nb reached dist lastW par ord paths u wanted tlen onlyF found steps plen rowW rowS tally) t.heap) (nx_A a 24 sz)) 0 0 (nx_A a 24 sz) := by
  refine nx_enV (fun u => u = o) (fun (u : (Nat → Int32)) => (cW E a size on kinds marks nb reached dist lastW par ord paths u wanted tlen onlyF found steps plen rowW rowS tally)) (by decide) (Nat.le_of_ble_eq_true rfl) ?_
  intro p e s m below meth c Q X kr hsz hP ls hl
  subst hsz
  generalize hargs : (List.toArray [.ref (a 14), .int x1] : Array Value) = args at X kr ⊢
  clear hargs
  obtain ⟨⟨hx, hb, hml, hown, hts⟩, hK, hSt, hNz⟩ := id X
  have hS : va_S (nx_A a 24 s.heap.size) s.heap s.heap [] := va_S.rf
  have hl : lv_has ls 4 [(0, .ref (a 14)), (1, .int x1)] := hl
  have L5 : ∀ (x1 : Int32) (x3 : Int32) (n : Nat) (x2 : Int32) (costs : Nat → Int32) (z : ((Nat → Int32))), f_J7_fill_53178_r14_l5 x1 x3 n (x2, costs) = some z → ∀ (H : Heap) (locs : List Loc) (ls : Array Slot), va_P E.1 vwCl (cW E a size on kinds marks nb reached dist lastW par ord paths costs wanted tlen onlyF found steps plen rowW rowS tally) H → va_S (nx_A a 24 s.heap.size) s.heap H locs → lv_has ls 4 [(0, .ref (a 14)), (1, .int x1), (2, .int x2), (3, .int x3)] → ∀ (kR : ∀ (H : Heap) (locs : List Loc) (ls : Array Slot), va_P E.1 vwCl (cW E a size on kinds marks nb reached dist lastW par ord paths z wanted tlen onlyF found steps plen rowW rowS tally) H → va_S (nx_A a 24 s.heap.size) s.heap H locs → lv_has ls 4 [(0, .ref (a 14))] → W p l e (nx_rm 0 0) s m args below meth c H locs 0 0 Q (F0 m 20 ls [])), W p l e (nx_rm 0 0) s m args below meth c H locs 0 0 Q (F0 m 5 ls []) := by
   intro x1 x3 n
   induction n with
   | zero => intro x2 costs z h; exact nomatch (show none = some z from h)
   | succ n ih =>
    intro x2 costs z h H locs ls hP hS hl kR
    have h : f_J7_fill_53178_r14_b5 x1 x3 (f_J7_fill_53178_r14_l5 x1 x3 n) x2 costs = some z := h
    unfold f_J7_fill_53178_r14_b5 at h
    refine lv_iload_n hx hb dJ7_fill_53178_5 rfl (lv_at hl 2 rfl) ?_
    refine lv_iload_n hx hb dJ7_fill_53178_6 rfl (lv_at hl 3 rfl) ?_
    refine lv_icmp_ge (tgt := 20) hx hb dJ7_fill_53178_7 (by decide) (fun hc => ?_) (fun hc => ?_)
    · have h := nx_it h hc
      obtain rfl := Option.some.inj h
      exact kR H locs ls hP hS (lv_sub hl [0] rfl)
    · have h := nx_if h hc
      refine lv_aload_n hx hb dJ7_fill_53178_10 rfl (lv_at hl 0 rfl) ?_
      refine lv_iload_n hx hb dJ7_fill_53178_11 rfl (lv_at hl 2 rfl) ?_
      refine lv_iload_n hx hb dJ7_fill_53178_12 rfl (lv_at hl 1 rfl) ?_
      obtain ⟨hv_1, h⟩ := nx_cb h
      refine nx_st X hI cW_ad hP hS 14 rfl hv_1 dJ7_fill_53178_13 (fun H locs hP hS => ?_)
      have hP : va_P E.1 vwCl (cW E a size on kinds marks nb reached dist lastW par ord paths (upd costs x2.toNatClampNeg x1) wanted tlen onlyF found steps plen rowW rowS tally) H := hP
      refine lv_iinc (v := (x2 + 1)) (lv' := [(2, .int (x2 + 1)), (0, .ref (a 14)), (1, .int x1), (3, .int x3)]) hx hb dJ7_fill_53178_14 hl (k := 2) rfl rfl (by decide) rfl (fun ls hl => ?_)
      refine lv_goto (tgt := 5) hx hb dJ7_fill_53178_17 (by decide) ?_
      exact ih _ _ z h H locs ls hP hS (lv_sub hl [1, 2, 0, 3] rfl) kR
  unfold f_J7_fill_53178_r14 at h
  suffices hw : ∀ (H : Heap) (locs : List Loc), va_P E.1 vwCl (cW E a size on kinds marks nb reached dist lastW par ord paths costs wanted tlen onlyF found steps plen rowW rowS tally) H → va_S (nx_A a 24 s.heap.size) s.heap H locs → W p l e (nx_rm 0 0) s m args below meth c H locs 0 0 Q (F0 m 0 ls []) from hw _ _ hP va_S.rf
  intro H locs hP hS
  refine lv_iconst (v := 0) hx hb dJ7_fill_53178_0 (by decide) ?_
  refine lv_istore_n (lv' := [(2, .int 0), (0, .ref (a 14)), (1, .int x1)]) hx hb dJ7_fill_53178_1 rfl hl (by decide) rfl (fun ls hl => ?_)
  refine lv_aload_n hx hb dJ7_fill_53178_2 rfl (lv_at hl 1 rfl) ?_
  refine nx_al (v := 600) X hP 14 rfl rfl dJ7_fill_53178_3 ?_
  refine lv_istore_n (lv' := [(3, .int 600), (2, .int 0), (0, .ref (a 14)), (1, .int x1)]) hx hb dJ7_fill_53178_4 rfl hl (by decide) rfl (fun ls hl => ?_)
  obtain ⟨z_2, hz_3, h⟩ := nx_bd h
  refine L5 _ _ N _ _ _ hz_3 H locs ls hP hS (lv_sub hl [2, 3, 1, 0] rfl) (fun H locs ls hP hS hl => ?_)
  exact kr 20 ls z_2 H locs dJ7_fill_53178_20 (Option.some.inj h) hP hS
def f_X3_belowOf (x0 : Int32)  : Option (Int32) :=
  (f_X3_topOf x0).bind fun r_2 => some (7 - r_2)
set_option maxHeartbeats 4000000 in
set_option maxRecDepth 100000 in
theorem c_X3_belowOf (l : Launch) (E : nx_E) (sz : Nat) (ws : va_W) (x0 : Int32) (o : Int32) (h : f_X3_belowOf x0 = some o) : Met l yX3_belowOf (.code yX3_belowOf cX3_belowOf 1 (some .int) :: nx_T) (nx_rm 1 20) (va_Pc [.int x0] (nx_P E (nx_F) sz ws)) (va_Qi (fun v (_ : Unit) => v = o) (fun _ t => va_P E.1 vwCl ws t.heap) (nx_F)) 0 0 (nx_F) := by
  refine nx_enI (fun v (_ : Unit) => v = o) (fun (_ : Unit) => ws) (by decide) (Nat.le_of_ble_eq_true rfl) ?_
  intro p e s m below meth c Q X kr hsz hP ls hl
  subst hsz
  generalize hargs : (List.toArray [.int x0] : Array Value) = args at X kr ⊢
  clear hargs
  obtain ⟨⟨hx, hb, hml, hown, hts⟩, hK, hSt, hNz⟩ := id X
  have hS : va_S (nx_F) s.heap s.heap [] := va_S.rf
  have hl : lv_has ls 1 [(0, .int x0)] := hl
  unfold f_X3_belowOf at h
  suffices hw : ∀ (H : Heap) (locs : List Loc), va_P E.1 vwCl ws H → va_S (nx_F) s.heap H locs → W p l e (nx_rm 1 20) s m args below meth c H locs 0 0 Q (F0 m 0 ls []) from hw _ _ hP va_S.rf
  intro H locs hP hS
  refine lv_bipush (v := 7) hx hb dX3_belowOf_0 (by decide) ?_
  refine lv_iload_n hx hb dX3_belowOf_2 rfl (lv_at hl 0 rfl) ?_
  obtain ⟨r_2, hc_1, h⟩ := nx_bd h
  refine nx_ki (nx_runS (As := [.int x0]) (rest := [.int 7]) X hS hP (c_X3_topOf l E H.size _ x0 _ hc_1) nx_FA qS_RX3_9 ⟨rfl, rfl⟩ ⟨Nat.le_of_ble_eq_true rfl, Nat.le_of_ble_eq_true rfl⟩ ⟨Nat.zero_le _, Nat.zero_le _⟩ rfl rfl hl.1 (Nat.le_of_ble_eq_true rfl) dX3_belowOf_3) hS nx_FA (fun H locs hP hS => ?_)
  refine lv_isub hx hb dX3_belowOf_6 ?_
  exact kr 7 ls (7 - r_2) () H locs dX3_belowOf_7 (Option.some.inj h) hP hS
def f_X4_printOf (x0 : Int32)  : Option (Int32) :=
  (f_X4_stanceOf x0).bind fun r_2 => (f_X3_belowOf r_2).bind fun r_4 => some r_4
set_option maxHeartbeats 4000000 in
set_option maxRecDepth 100000 in
theorem c_X4_printOf (l : Launch) (E : nx_E) (sz : Nat) (ws : va_W) (x0 : Int32) (o : Int32) (h : f_X4_printOf x0 = some o) : Met l yX4_printOf (.code yX4_printOf cX4_printOf 1 (some .int) :: nx_T) (nx_rm 2 40) (va_Pc [.int x0] (nx_P E (nx_F) sz ws)) (va_Qi (fun v (_ : Unit) => v = o) (fun _ t => va_P E.1 vwCl ws t.heap) (nx_F)) 0 0 (nx_F) := by
  refine nx_enI (fun v (_ : Unit) => v = o) (fun (_ : Unit) => ws) (by decide) (Nat.le_of_ble_eq_true rfl) ?_
  intro p e s m below meth c Q X kr hsz hP ls hl
  subst hsz
  generalize hargs : (List.toArray [.int x0] : Array Value) = args at X kr ⊢
  clear hargs
  obtain ⟨⟨hx, hb, hml, hown, hts⟩, hK, hSt, hNz⟩ := id X
  have hS : va_S (nx_F) s.heap s.heap [] := va_S.rf
  have hl : lv_has ls 1 [(0, .int x0)] := hl
  unfold f_X4_printOf at h
  suffices hw : ∀ (H : Heap) (locs : List Loc), va_P E.1 vwCl ws H → va_S (nx_F) s.heap H locs → W p l e (nx_rm 2 40) s m args below meth c H locs 0 0 Q (F0 m 0 ls []) from hw _ _ hP va_S.rf
  intro H locs hP hS
  refine lv_iload_n hx hb dX4_printOf_0 rfl (lv_at hl 0 rfl) ?_
  obtain ⟨r_2, hc_1, h⟩ := nx_bd h
  refine nx_ki (nx_runS (As := [.int x0]) (rest := []) X hS hP (c_X4_stanceOf l E H.size _ x0 _ hc_1) nx_FA qS_RX4_15 ⟨rfl, rfl⟩ ⟨Nat.le_of_ble_eq_true rfl, Nat.le_of_ble_eq_true rfl⟩ ⟨Nat.zero_le _, Nat.zero_le _⟩ rfl rfl hl.1 (Nat.le_of_ble_eq_true rfl) dX4_printOf_1) hS nx_FA (fun H locs hP hS => ?_)
  obtain ⟨r_4, hc_3, h⟩ := nx_bd h
  refine nx_ki (nx_runS (As := [.int r_2]) (rest := []) X hS hP (c_X3_belowOf l E H.size _ r_2 _ hc_3) nx_FA qS_RX4_19 ⟨rfl, rfl⟩ ⟨Nat.le_of_ble_eq_true rfl, Nat.le_of_ble_eq_true rfl⟩ ⟨Nat.zero_le _, Nat.zero_le _⟩ rfl rfl hl.1 (Nat.le_of_ble_eq_true rfl) dX4_printOf_4) hS nx_FA (fun H locs hP hS => ?_)
  exact kr 7 ls r_4 () H locs dX4_printOf_7 (Option.some.inj h) hP hS
def f_X5_lowerCost (x1 : Int32) (x2 : Int32) (costs : Nat → Int32) : Option (Int32 × ((Nat → Int32))) :=
  if x1 < 0 then (some (0, costs)) else (if 600 ≤ x1 then (some (0, costs)) else (if x2 < 0 then (some (0, costs)) else (if x2 < 600 then ((nx_rd costs 600 x1).bind fun _ => (f_X4_printOf x2).bind fun r_4 => (nx_rd costs 600 x2).bind fun _ => if ((costs x1.toNatClampNeg) + r_4) < (costs x2.toNatClampNeg) then ((nx_ck 600 x2).bind fun _ => some (1, (upd costs x2.toNatClampNeg ((costs x1.toNatClampNeg) + r_4)))) else (some (0, costs))) else (some (0, costs)))))
set_option maxHeartbeats 4000000 in
set_option maxRecDepth 100000 in
theorem c_X5_lowerCost (l : Launch) (E : nx_E) (sz : Nat) (a : Nat → Nat) (size : Int32) (on : Int32) (kinds : Nat → Int32) (marks : Nat → Int32) (nb : Nat → Int32) (reached : Int32) (dist : Nat → Int32) (lastW : Nat → Int32) (par : Nat → Int32) (ord : Nat → Int32) (paths : Nat → Int64) (costs : Nat → Int32) (wanted : Int32) (tlen : Int32) (onlyF : Int32) (found : Int32) (steps : Nat → Int32) (plen : Int32) (rowW : Nat → Int32) (rowS : Nat → Int32) (tally : Nat → Int32) (x1 : Int32) (x2 : Int32) (hI : nx_inj a 24) (o : Int32 × ((Nat → Int32))) (h : f_X5_lowerCost x1 x2 costs = some o) : Met l yX5_lowerCost (.code yX5_lowerCost cX5_lowerCost 4 (some .boolean) :: nx_T) (nx_rm 3 60) (va_Pc [.ref (a 13), .int x1, .int x2] (nx_P E (nx_A a 24 sz) sz (cW E a size on kinds marks nb reached dist lastW par ord paths costs wanted tlen onlyF found steps plen rowW rowS tally))) (va_Qi (fun v u => (v, u) = o) (fun u t => va_P E.1 vwCl (cW E a size on kinds marks nb reached dist lastW par ord paths u wanted tlen onlyF found steps plen rowW rowS tally) t.heap) (nx_A a 24 sz)) 0 0 (nx_A a 24 sz) := by
  refine nx_enZ (fun v u => (v, u) = o) (fun (u : (Nat → Int32)) => (cW E a size on kinds marks nb reached dist lastW par ord paths u wanted tlen onlyF found steps plen rowW rowS tally)) (by decide) (Nat.le_of_ble_eq_true rfl) ?_
  intro p e s m below meth c Q X kr hsz hP ls hl
  subst hsz
  generalize hargs : (List.toArray [.ref (a 13), .int x1, .int x2] : Array Value) = args at X kr ⊢
  clear hargs
  obtain ⟨⟨hx, hb, hml, hown, hts⟩, hK, hSt, hNz⟩ := id X
  have hS : va_S (nx_A a 24 s.heap.size) s.heap s.heap [] := va_S.rf
  have hl : lv_has ls 4 [(0, .ref (a 13)), (1, .int x1), (2, .int x2)] := hl
  unfold f_X5_lowerCost at h
  suffices hw : ∀ (H : Heap) (locs : List Loc), va_P E.1 vwCl (cW E a size on kinds marks nb reached dist lastW par ord paths costs wanted tlen onlyF found steps plen rowW rowS tally) H → va_S (nx_A a 24 s.heap.size) s.heap H locs → W p l e (nx_rm 3 60) s m args below meth c H locs 0 0 Q (F0 m 0 ls []) from hw _ _ hP va_S.rf
  intro H locs hP hS
  refine lv_iload_n hx hb dX5_lowerCost_0 rfl (lv_at hl 1 rfl) ?_
  refine lv_if_lt (tgt := 22) hx hb dX5_lowerCost_1 (by decide) (fun hc => ?_) (fun hc => ?_)
  · have h := nx_it h hc
    refine lv_iconst (v := 0) hx hb dX5_lowerCost_22 (by decide) ?_
    exact kr 23 ls 0 costs H locs dX5_lowerCost_23 (Or.inl rfl) (Option.some.inj h) hP hS
  · have h := nx_if h hc
    refine lv_iload_n hx hb dX5_lowerCost_4 rfl (lv_at hl 1 rfl) ?_
    refine lv_sipush (v := 600) hx hb dX5_lowerCost_5 (by decide) ?_
    refine lv_icmp_ge (tgt := 22) hx hb dX5_lowerCost_8 (by decide) (fun hc => ?_) (fun hc => ?_)
    · have h := nx_it h hc
      refine lv_iconst (v := 0) hx hb dX5_lowerCost_22 (by decide) ?_
      exact kr 23 ls 0 costs H locs dX5_lowerCost_23 (Or.inl rfl) (Option.some.inj h) hP hS
    · have h := nx_if h hc
      refine lv_iload_n hx hb dX5_lowerCost_11 rfl (lv_at hl 2 rfl) ?_
      refine lv_if_lt (tgt := 22) hx hb dX5_lowerCost_12 (by decide) (fun hc => ?_) (fun hc => ?_)
      · have h := nx_it h hc
        refine lv_iconst (v := 0) hx hb dX5_lowerCost_22 (by decide) ?_
        exact kr 23 ls 0 costs H locs dX5_lowerCost_23 (Or.inl rfl) (Option.some.inj h) hP hS
      · have h := nx_if h hc
        refine lv_iload_n hx hb dX5_lowerCost_15 rfl (lv_at hl 2 rfl) ?_
        refine lv_sipush (v := 600) hx hb dX5_lowerCost_16 (by decide) ?_
        refine lv_icmp_lt (tgt := 24) hx hb dX5_lowerCost_19 (by decide) (fun hc => ?_) (fun hc => ?_)
        · have h := nx_it h hc
          refine lv_aload_n hx hb dX5_lowerCost_24 rfl (lv_at hl 0 rfl) ?_
          refine nx_gf X hP uw_X5 (ci := 5) rfl 13 rfl 2 (by decide) wf_RX5_9 rfl dX5_lowerCost_25 ?_
          refine lv_iload_n hx hb dX5_lowerCost_28 rfl (lv_at hl 1 rfl) ?_
          obtain ⟨hv_1, h⟩ := nx_rb h
          refine nx_ld X hP 14 rfl hv_1 dX5_lowerCost_29 ?_
          refine lv_iload_n hx hb dX5_lowerCost_30 rfl (lv_at hl 2 rfl) ?_
          obtain ⟨r_4, hc_3, h⟩ := nx_bd h
          refine nx_ki (nx_runS (As := [.int x2]) (rest := [.int (costs x1.toNatClampNeg)]) X hS hP (c_X4_printOf l E H.size _ x2 _ hc_3) nx_FA qS_RX5_88 ⟨rfl, rfl⟩ ⟨Nat.le_of_ble_eq_true rfl, Nat.le_of_ble_eq_true rfl⟩ ⟨Nat.zero_le _, Nat.zero_le _⟩ rfl rfl hl.1 (Nat.le_of_ble_eq_true rfl) dX5_lowerCost_31) hS nx_FA (fun H locs hP hS => ?_)
          refine lv_iadd hx hb dX5_lowerCost_34 ?_
          refine lv_istore_n (lv' := [(3, .int ((costs x1.toNatClampNeg) + r_4)), (0, .ref (a 13)), (1, .int x1), (2, .int x2)]) hx hb dX5_lowerCost_35 rfl hl (by decide) rfl (fun ls hl => ?_)
          refine lv_iload_n hx hb dX5_lowerCost_36 rfl (lv_at hl 0 rfl) ?_
          refine lv_aload_n hx hb dX5_lowerCost_37 rfl (lv_at hl 1 rfl) ?_
          refine nx_gf X hP uw_X5 (ci := 5) rfl 13 rfl 2 (by decide) wf_RX5_9 rfl dX5_lowerCost_38 ?_
          refine lv_iload_n hx hb dX5_lowerCost_41 rfl (lv_at hl 3 rfl) ?_
          obtain ⟨hv_5, h⟩ := nx_rb h
          refine nx_ld X hP 14 rfl hv_5 dX5_lowerCost_42 ?_
          refine lv_icmp_lt (tgt := 48) hx hb dX5_lowerCost_43 (by decide) (fun hc => ?_) (fun hc => ?_)
          · have h := nx_it h hc
            refine lv_aload_n hx hb dX5_lowerCost_48 rfl (lv_at hl 1 rfl) ?_
            refine nx_gf X hP uw_X5 (ci := 5) rfl 13 rfl 2 (by decide) wf_RX5_9 rfl dX5_lowerCost_49 ?_
            refine lv_iload_n hx hb dX5_lowerCost_52 rfl (lv_at hl 3 rfl) ?_
            refine lv_iload_n hx hb dX5_lowerCost_53 rfl (lv_at hl 0 rfl) ?_
            obtain ⟨hv_7, h⟩ := nx_cb h
            refine nx_st X hI cW_ad hP hS 14 rfl hv_7 dX5_lowerCost_54 (fun H locs hP hS => ?_)
            have hP : va_P E.1 vwCl (cW E a size on kinds marks nb reached dist lastW par ord paths (upd costs x2.toNatClampNeg ((costs x1.toNatClampNeg) + r_4)) wanted tlen onlyF found steps plen rowW rowS tally) H := hP
            refine lv_iconst (v := 1) hx hb dX5_lowerCost_55 (by decide) ?_
            exact kr 56 ls 1 (upd costs x2.toNatClampNeg ((costs x1.toNatClampNeg) + r_4)) H locs dX5_lowerCost_56 (Or.inr rfl) (Option.some.inj h) hP hS
          · have h := nx_if h hc
            refine lv_iconst (v := 0) hx hb dX5_lowerCost_46 (by decide) ?_
            exact kr 47 ls 0 costs H locs dX5_lowerCost_47 (Or.inl rfl) (Option.some.inj h) hP hS
        · have h := nx_if h hc
          refine lv_iconst (v := 0) hx hb dX5_lowerCost_22 (by decide) ?_
          exact kr 23 ls 0 costs H locs dX5_lowerCost_23 (Or.inl rfl) (Option.some.inj h) hP hS
def f_X5_lowerCosts_b27 (x2 : Int32) (x3 : Int32) (size : Int32) (on : Int32) (kinds : Nat → Int32) (marks : Nat → Int32) (nb : Nat → Int32) (rec : (Int32 × Int32 × (Nat → Int32)) → Option (Int32 × (Nat → Int32))) (x1 : Int32) (x4 : Int32) (costs : Nat → Int32) : Option (Int32 × (Nat → Int32)) :=
  if 4 ≤ x4 then (some (x1, costs)) else ((f_X4_after x3 x4 size on kinds marks nb).bind fun r_2 => (f_X5_lowerCost x3 r_2 costs).bind fun t_6 => if t_6.1 = 0 then (rec (x1, (x4 + 1), t_6.2)) else (rec (1, (x4 + 1), t_6.2)))
def f_X5_lowerCosts_l27 (x2 : Int32) (x3 : Int32) (size : Int32) (on : Int32) (kinds : Nat → Int32) (marks : Nat → Int32) (nb : Nat → Int32) : Nat → (Int32 × Int32 × (Nat → Int32)) → Option (Int32 × (Nat → Int32)) := nx_lp (fun rec z => f_X5_lowerCosts_b27 x2 x3 size on kinds marks nb rec z.1 z.2.1 z.2.2)
def f_X5_lowerCosts_b4 (N : Nat) (size : Int32) (on : Int32) (kinds : Nat → Int32) (marks : Nat → Int32) (nb : Nat → Int32) (reached : Int32) (ord : Nat → Int32) (rec : (Int32 × Int32 × (Nat → Int32)) → Option (Int32 × (Nat → Int32))) (x1 : Int32) (x2 : Int32) (costs : Nat → Int32) : Option (Int32 × (Nat → Int32)) :=
  (f_X8_reached reached).bind fun r_8 => if r_8 ≤ x2 then (some (x1, costs)) else ((f_X8_reachedAt x2 reached ord).bind fun r_10 => (f_X5_lowerCosts_l27 x2 r_10 size on kinds marks nb N (x1, 0, costs)).bind fun z_11 => rec (z_11.1, (x2 + 1), z_11.2))
def f_X5_lowerCosts_l4 (N : Nat) (size : Int32) (on : Int32) (kinds : Nat → Int32) (marks : Nat → Int32) (nb : Nat → Int32) (reached : Int32) (ord : Nat → Int32) : Nat → (Int32 × Int32 × (Nat → Int32)) → Option (Int32 × (Nat → Int32)) := nx_lp (fun rec z => f_X5_lowerCosts_b4 N size on kinds marks nb reached ord rec z.1 z.2.1 z.2.2)
def f_X5_lowerCosts (N : Nat)  (size : Int32) (on : Int32) (kinds : Nat → Int32) (marks : Nat → Int32) (nb : Nat → Int32) (reached : Int32) (ord : Nat → Int32) (costs : Nat → Int32) : Option (Int32 × ((Nat → Int32))) :=
  (f_X5_lowerCosts_l4 N size on kinds marks nb reached ord N (0, 0, costs)).bind fun z_13 => (nx_b z_13.1).bind fun _ => some (z_13.1, z_13.2)
set_option maxHeartbeats 4000000 in
set_option maxRecDepth 100000 in
theorem c_X5_lowerCosts (l : Launch) (N : Nat) (E : nx_E) (sz : Nat) (a : Nat → Nat) (size : Int32) (on : Int32) (kinds : Nat → Int32) (marks : Nat → Int32) (nb : Nat → Int32) (reached : Int32) (dist : Nat → Int32) (lastW : Nat → Int32) (par : Nat → Int32) (ord : Nat → Int32) (paths : Nat → Int64) (costs : Nat → Int32) (wanted : Int32) (tlen : Int32) (onlyF : Int32) (found : Int32) (steps : Nat → Int32) (plen : Int32) (rowW : Nat → Int32) (rowS : Nat → Int32) (tally : Nat → Int32)  (hI : nx_inj a 24) (o : Int32 × ((Nat → Int32))) (h : f_X5_lowerCosts N size on kinds marks nb reached ord costs = some o) : Met l yX5_lowerCosts (.code yX5_lowerCosts cX5_lowerCosts 5 (some .boolean) :: nx_T) (nx_rm 4 83) (va_Pc [.ref (a 13)] (nx_P E (nx_A a 24 sz) sz (cW E a size on kinds marks nb reached dist lastW par ord paths costs wanted tlen onlyF found steps plen rowW rowS tally))) (va_Qi (fun v u => (v, u) = o) (fun u t => va_P E.1 vwCl (cW E a size on kinds marks nb reached dist lastW par ord paths u wanted tlen onlyF found steps plen rowW rowS tally) t.heap) (nx_A a 24 sz)) 0 0 (nx_A a 24 sz) := by
  refine nx_enZ (fun v u => (v, u) = o) (fun (u : (Nat → Int32)) => (cW E a size on kinds marks nb reached dist lastW par ord paths u wanted tlen onlyF found steps plen rowW rowS tally)) (by decide) (Nat.le_of_ble_eq_true rfl) ?_
  intro p e s m below meth c Q X kr hsz hP ls hl
  subst hsz
  generalize hargs : (List.toArray [.ref (a 13)] : Array Value) = args at X kr ⊢
  clear hargs
  obtain ⟨⟨hx, hb, hml, hown, hts⟩, hK, hSt, hNz⟩ := id X
  have hS : va_S (nx_A a 24 s.heap.size) s.heap s.heap [] := va_S.rf
  have hl : lv_has ls 5 [(0, .ref (a 13))] := hl
  have L27 : ∀ (x2 : Int32) (x3 : Int32) (n : Nat) (x1 : Int32) (x4 : Int32) (costs : Nat → Int32) (z : (Int32 × (Nat → Int32))), f_X5_lowerCosts_l27 x2 x3 size on kinds marks nb n (x1, x4, costs) = some z → ∀ (H : Heap) (locs : List Loc) (ls : Array Slot), va_P E.1 vwCl (cW E a size on kinds marks nb reached dist lastW par ord paths costs wanted tlen onlyF found steps plen rowW rowS tally) H → va_S (nx_A a 24 s.heap.size) s.heap H locs → lv_has ls 5 [(0, .ref (a 13)), (1, .int x1), (2, .int x2), (3, .int x3), (4, .int x4)] → ∀ (kR : ∀ (H : Heap) (locs : List Loc) (ls : Array Slot), va_P E.1 vwCl (cW E a size on kinds marks nb reached dist lastW par ord paths (z.2) wanted tlen onlyF found steps plen rowW rowS tally) H → va_S (nx_A a 24 s.heap.size) s.heap H locs → lv_has ls 5 [(0, .ref (a 13)), (1, .int z.1), (2, .int x2)] → W p l e (nx_rm 4 83) s m args below meth c H locs 0 0 Q (F0 m 59 ls [])), W p l e (nx_rm 4 83) s m args below meth c H locs 0 0 Q (F0 m 27 ls []) := by
   intro x2 x3 n
   induction n with
   | zero => intro x1 x4 costs z h; exact nomatch (show none = some z from h)
   | succ n ih =>
    intro x1 x4 costs z h H locs ls hP hS hl kR
    have h : f_X5_lowerCosts_b27 x2 x3 size on kinds marks nb (f_X5_lowerCosts_l27 x2 x3 size on kinds marks nb n) x1 x4 costs = some z := h
    unfold f_X5_lowerCosts_b27 at h
    refine lv_iload hx hb dX5_lowerCosts_27 (lv_at hl 4 rfl) ?_
    refine lv_iconst (v := 4) hx hb dX5_lowerCosts_29 (by decide) ?_
    refine lv_icmp_ge (tgt := 59) hx hb dX5_lowerCosts_30 (by decide) (fun hc => ?_) (fun hc => ?_)
    · have h := nx_it h hc
      obtain rfl := Option.some.inj h
      exact kR H locs ls hP hS (lv_sub hl [0, 1, 2] rfl)
    · have h := nx_if h hc
      refine lv_aload_n hx hb dX5_lowerCosts_33 rfl (lv_at hl 0 rfl) ?_
      refine lv_iload_n hx hb dX5_lowerCosts_34 rfl (lv_at hl 3 rfl) ?_
      refine lv_aload_n hx hb dX5_lowerCosts_35 rfl (lv_at hl 0 rfl) ?_
      refine nx_gf X hP uw_X5 (ci := 5) rfl 13 rfl 0 (by decide) wf_RX5_15 rfl dX5_lowerCosts_36 ?_
      refine lv_iload_n hx hb dX5_lowerCosts_39 rfl (lv_at hl 3 rfl) ?_
      refine lv_iload hx hb dX5_lowerCosts_40 (lv_at hl 4 rfl) ?_
      obtain ⟨r_2, hc_1, h⟩ := nx_bd h
      refine nx_ki (nx_runV (As := [.int x3, .int x4]) (rest := [.int x3, .ref (a 13)]) X hS hP (c_X4_after l E H.size a size on kinds marks nb reached dist lastW par ord paths costs wanted tlen onlyF found steps plen rowW rowS tally x3 x4 _ hc_1) nx_FA qV_RX5_79 ⟨rfl, rfl⟩ ⟨Nat.le_of_ble_eq_true rfl, Nat.le_of_ble_eq_true rfl⟩ ⟨Nat.zero_le _, Nat.zero_le _⟩ 12 rfl rfl rfl rfl hl.1 (Nat.le_of_ble_eq_true rfl) dX5_lowerCosts_42) hS nx_FA (fun H locs hP hS => ?_)
      obtain ⟨⟨r_4, k_5⟩, hc_3, h⟩ := nx_bd h
      refine nx_kwi (nx_runV (As := [.int x3, .int r_2]) (rest := []) X hS hP (c_X5_lowerCost l E H.size a size on kinds marks nb reached dist lastW par ord paths costs wanted tlen onlyF found steps plen rowW rowS tally x3 r_2 hI _ hc_3) (nx_Am hS.1) qV_RX5_84 ⟨rfl, rfl⟩ ⟨Nat.le_of_ble_eq_true rfl, Nat.le_of_ble_eq_true rfl⟩ ⟨Nat.zero_le _, Nat.zero_le _⟩ 13 rfl rfl rfl rfl hl.1 (Nat.le_of_ble_eq_true rfl) dX5_lowerCosts_45) hS (nx_Am hS.1) (fun H locs hP hS => ?_)
      have hP : va_P E.1 vwCl (cW E a size on kinds marks nb reached dist lastW par ord paths k_5 wanted tlen onlyF found steps plen rowW rowS tally) H := hP
      refine lv_if_eq (tgt := 53) hx hb dX5_lowerCosts_48 (by decide) (fun hc => ?_) (fun hc => ?_)
      · have h := nx_it h hc
        refine lv_iinc (v := (x4 + 1)) (lv' := [(4, .int (x4 + 1)), (0, .ref (a 13)), (1, .int x1), (2, .int x2), (3, .int x3)]) hx hb dX5_lowerCosts_53 hl (k := 4) rfl rfl (by decide) rfl (fun ls hl => ?_)
        refine lv_goto (tgt := 27) hx hb dX5_lowerCosts_56 (by decide) ?_
        exact ih _ _ _ z h H locs ls hP hS (lv_sub hl [1, 2, 3, 4, 0] rfl) kR
      · have h := nx_if h hc
        refine lv_iconst (v := 1) hx hb dX5_lowerCosts_51 (by decide) ?_
        refine lv_istore_n (lv' := [(1, .int 1), (0, .ref (a 13)), (2, .int x2), (3, .int x3), (4, .int x4)]) hx hb dX5_lowerCosts_52 rfl hl (by decide) rfl (fun ls hl => ?_)
        refine lv_iinc (v := (x4 + 1)) (lv' := [(4, .int (x4 + 1)), (1, .int 1), (0, .ref (a 13)), (2, .int x2), (3, .int x3)]) hx hb dX5_lowerCosts_53 hl (k := 4) rfl rfl (by decide) rfl (fun ls hl => ?_)
        refine lv_goto (tgt := 27) hx hb dX5_lowerCosts_56 (by decide) ?_
        exact ih _ _ _ z h H locs ls hP hS (lv_sub hl [2, 1, 3, 4, 0] rfl) kR
  have L4 : ∀ (n : Nat) (x1 : Int32) (x2 : Int32) (costs : Nat → Int32) (z : (Int32 × (Nat → Int32))), f_X5_lowerCosts_l4 N size on kinds marks nb reached ord n (x1, x2, costs) = some z → ∀ (H : Heap) (locs : List Loc) (ls : Array Slot), va_P E.1 vwCl (cW E a size on kinds marks nb reached dist lastW par ord paths costs wanted tlen onlyF found steps plen rowW rowS tally) H → va_S (nx_A a 24 s.heap.size) s.heap H locs → lv_has ls 5 [(0, .ref (a 13)), (1, .int x1), (2, .int x2)] → ∀ (kR : ∀ (H : Heap) (locs : List Loc) (ls : Array Slot), va_P E.1 vwCl (cW E a size on kinds marks nb reached dist lastW par ord paths (z.2) wanted tlen onlyF found steps plen rowW rowS tally) H → va_S (nx_A a 24 s.heap.size) s.heap H locs → lv_has ls 5 [(0, .ref (a 13)), (1, .int z.1)] → W p l e (nx_rm 4 83) s m args below meth c H locs 0 0 Q (F0 m 65 ls [])), W p l e (nx_rm 4 83) s m args below meth c H locs 0 0 Q (F0 m 4 ls []) := by
   intro  n
   induction n with
   | zero => intro x1 x2 costs z h; exact nomatch (show none = some z from h)
   | succ n ih =>
    intro x1 x2 costs z h H locs ls hP hS hl kR
    have h : f_X5_lowerCosts_b4 N size on kinds marks nb reached ord (f_X5_lowerCosts_l4 N size on kinds marks nb reached ord n) x1 x2 costs = some z := h
    unfold f_X5_lowerCosts_b4 at h
    refine lv_iload_n hx hb dX5_lowerCosts_4 rfl (lv_at hl 2 rfl) ?_
    refine lv_aload_n hx hb dX5_lowerCosts_5 rfl (lv_at hl 0 rfl) ?_
    refine nx_gf X hP uw_X5 (ci := 5) rfl 13 rfl 1 (by decide) wf_RX5_19 rfl dX5_lowerCosts_6 ?_
    obtain ⟨r_8, hc_7, h⟩ := nx_bd h
    refine nx_ki (nx_runV (As := []) (rest := [.int x2]) X hS hP (c_X8_reached l E H.size a size on kinds marks nb reached dist lastW par ord paths costs wanted tlen onlyF found steps plen rowW rowS tally _ hc_7) nx_FA qV_RX5_40 ⟨rfl, rfl⟩ ⟨Nat.le_of_ble_eq_true rfl, Nat.le_of_ble_eq_true rfl⟩ ⟨Nat.zero_le _, Nat.zero_le _⟩ 6 rfl rfl rfl rfl hl.1 (Nat.le_of_ble_eq_true rfl) dX5_lowerCosts_9) hS nx_FA (fun H locs hP hS => ?_)
    refine lv_icmp_ge (tgt := 65) hx hb dX5_lowerCosts_12 (by decide) (fun hc => ?_) (fun hc => ?_)
    · have h := nx_it h hc
      obtain rfl := Option.some.inj h
      exact kR H locs ls hP hS (lv_sub hl [0, 1] rfl)
    · have h := nx_if h hc
      refine lv_aload_n hx hb dX5_lowerCosts_15 rfl (lv_at hl 0 rfl) ?_
      refine nx_gf X hP uw_X5 (ci := 5) rfl 13 rfl 1 (by decide) wf_RX5_19 rfl dX5_lowerCosts_16 ?_
      refine lv_iload_n hx hb dX5_lowerCosts_19 rfl (lv_at hl 2 rfl) ?_
      obtain ⟨r_10, hc_9, h⟩ := nx_bd h
      refine nx_ki (nx_runV (As := [.int x2]) (rest := []) X hS hP (c_X8_reachedAt l E H.size a size on kinds marks nb reached dist lastW par ord paths costs wanted tlen onlyF found steps plen rowW rowS tally x2 _ hc_9) nx_FA qV_RX5_44 ⟨rfl, rfl⟩ ⟨Nat.le_of_ble_eq_true rfl, Nat.le_of_ble_eq_true rfl⟩ ⟨Nat.zero_le _, Nat.zero_le _⟩ 6 rfl rfl rfl rfl hl.1 (Nat.le_of_ble_eq_true rfl) dX5_lowerCosts_20) hS nx_FA (fun H locs hP hS => ?_)
      refine lv_istore_n (lv' := [(3, .int r_10), (0, .ref (a 13)), (1, .int x1), (2, .int x2)]) hx hb dX5_lowerCosts_23 rfl hl (by decide) rfl (fun ls hl => ?_)
      refine lv_iconst (v := 0) hx hb dX5_lowerCosts_24 (by decide) ?_
      refine lv_istore (lv' := [(4, .int 0), (3, .int r_10), (0, .ref (a 13)), (1, .int x1), (2, .int x2)]) hx hb dX5_lowerCosts_25 hl (by decide) rfl (fun ls hl => ?_)
      obtain ⟨z_11, hz_12, h⟩ := nx_bd h
      refine L27 _ _ N _ _ _ _ hz_12 H locs ls hP hS (lv_sub hl [2, 3, 4, 1, 0] rfl) (fun H locs ls hP hS hl => ?_)
      refine lv_iinc (v := (x2 + 1)) (lv' := [(2, .int (x2 + 1)), (0, .ref (a 13)), (1, .int z_11.1)]) hx hb dX5_lowerCosts_59 hl (k := 2) rfl rfl (by decide) rfl (fun ls hl => ?_)
      refine lv_goto (tgt := 4) hx hb dX5_lowerCosts_62 (by decide) ?_
      exact ih _ _ _ z h H locs ls hP hS (lv_sub hl [1, 2, 0] rfl) kR
  unfold f_X5_lowerCosts at h
  suffices hw : ∀ (H : Heap) (locs : List Loc), va_P E.1 vwCl (cW E a size on kinds marks nb reached dist lastW par ord paths costs wanted tlen onlyF found steps plen rowW rowS tally) H → va_S (nx_A a 24 s.heap.size) s.heap H locs → W p l e (nx_rm 4 83) s m args below meth c H locs 0 0 Q (F0 m 0 ls []) from hw _ _ hP va_S.rf
  intro H locs hP hS
  refine lv_iconst (v := 0) hx hb dX5_lowerCosts_0 (by decide) ?_
  refine lv_istore_n (lv' := [(1, .int 0), (0, .ref (a 13))]) hx hb dX5_lowerCosts_1 rfl hl (by decide) rfl (fun ls hl => ?_)
  refine lv_iconst (v := 0) hx hb dX5_lowerCosts_2 (by decide) ?_
  refine lv_istore_n (lv' := [(2, .int 0), (1, .int 0), (0, .ref (a 13))]) hx hb dX5_lowerCosts_3 rfl hl (by decide) rfl (fun ls hl => ?_)
  obtain ⟨z_13, hz_14, h⟩ := nx_bd h
  refine L4  N _ _ _ _ hz_14 H locs ls hP hS (lv_sub hl [2, 1, 0] rfl) (fun H locs ls hP hS hl => ?_)
  refine lv_iload_n hx hb dX5_lowerCosts_65 rfl (lv_at hl 1 rfl) ?_
  obtain ⟨hz, h⟩ := nx_bb h
  exact kr 66 ls z_13.1 z_13.2 H locs dX5_lowerCosts_66 hz (Option.some.inj h) hP hS
