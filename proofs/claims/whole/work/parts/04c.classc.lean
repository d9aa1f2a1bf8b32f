def f_X10_open (x1 : Int32) (size : Int32) (on : Int32) (kinds : Nat → Int32) : Option (Int32) :=
  (f_X2_has x1 size).bind fun r_2 => if r_2 = 0 then (some (-1)) else ((f_X2_groupsOn on).bind fun r_4 => (f_X2_isOpen x1 r_4 size kinds).bind fun r_6 => (f_X10_oneIf r_6).bind fun r_8 => some r_8)
set_option maxHeartbeats 4000000 in
set_option maxRecDepth 100000 in
theorem c_X10_open (l : Launch) (E : nx_E) (sz : Nat) (a : Nat → Nat) (size : Int32) (on : Int32) (kinds : Nat → Int32) (marks : Nat → Int32) (nb : Nat → Int32) (reached : Int32) (dist : Nat → Int32) (lastW : Nat → Int32) (par : Nat → Int32) (ord : Nat → Int32) (paths : Nat → Int64) (costs : Nat → Int32) (wanted : Int32) (tlen : Int32) (onlyF : Int32) (found : Int32) (steps : Nat → Int32) (plen : Int32) (rowW : Nat → Int32) (rowS : Nat → Int32) (tally : Nat → Int32) (x1 : Int32) (o : Int32) (h : f_X10_open x1 size on kinds = some o) : Met l yX10_open (.code yX10_open cX10_open 2 (some .int) :: nx_T) (nx_rm 1 23) (va_Pc [.ref (a 0), .int x1] (nx_P E (nx_F) sz (cW E a size on kinds marks nb reached dist lastW par ord paths costs wanted tlen onlyF found steps plen rowW rowS tally))) (va_Qi (fun v (_ : Unit) => v = o) (fun _ t => va_P E.1 vwCl (cW E a size on kinds marks nb reached dist lastW par ord paths costs wanted tlen onlyF found steps plen rowW rowS tally) t.heap) (nx_F)) 0 0 (nx_F) := by
  refine nx_enI (fun v (_ : Unit) => v = o) (fun (_ : Unit) => (cW E a size on kinds marks nb reached dist lastW par ord paths costs wanted tlen onlyF found steps plen rowW rowS tally)) (by decide) (Nat.le_of_ble_eq_true rfl) ?_
  intro p e s m below meth c Q X kr hsz hP ls hl
  subst hsz
  generalize hargs : (List.toArray [.ref (a 0), .int x1] : Array Value) = args at X kr ⊢
  clear hargs
  obtain ⟨⟨hx, hb, hml, hown, hts⟩, hK, hSt, hNz⟩ := id X
  have hS : va_S (nx_F) s.heap s.heap [] := va_S.rf
  have hl : lv_has ls 2 [(0, .ref (a 0)), (1, .int x1)] := hl
  unfold f_X10_open at h
  suffices hw : ∀ (H : Heap) (locs : List Loc), va_P E.1 vwCl (cW E a size on kinds marks nb reached dist lastW par ord paths costs wanted tlen onlyF found steps plen rowW rowS tally) H → va_S (nx_F) s.heap H locs → W p l e (nx_rm 1 23) s m args below meth c H locs 0 0 Q (F0 m 0 ls []) from hw _ _ hP va_S.rf
  intro H locs hP hS
  refine lv_aload_n hx hb dX10_open_0 rfl (lv_at hl 0 rfl) ?_
  refine nx_gf X hP uw_X10 (ci := 9) rfl 0 rfl 0 (by decide) wf_RX10_12 rfl dX10_open_1 ?_
  refine lv_iload_n hx hb dX10_open_4 rfl (lv_at hl 1 rfl) ?_
  obtain ⟨r_2, hc_1, h⟩ := nx_bd h
  refine nx_ki (nx_runV (As := [.int x1]) (rest := []) X hS hP (c_X2_has l E H.size a size on kinds marks nb reached dist lastW par ord paths costs wanted tlen onlyF found steps plen rowW rowS tally x1 _ hc_1) nx_FA qV_RX10_85 ⟨rfl, rfl⟩ ⟨Nat.le_of_ble_eq_true rfl, Nat.le_of_ble_eq_true rfl⟩ ⟨Nat.zero_le _, Nat.zero_le _⟩ 1 rfl rfl rfl rfl hl.1 (Nat.le_of_ble_eq_true rfl) dX10_open_5) hS nx_FA (fun H locs hP hS => ?_)
  refine lv_if_ne (tgt := 13) hx hb dX10_open_8 (by decide) (fun hc => ?_) (fun hc => ?_)
  · have h := nx_if h hc
    refine lv_aload_n hx hb dX10_open_13 rfl (lv_at hl 0 rfl) ?_
    refine nx_gf X hP uw_X10 (ci := 9) rfl 0 rfl 0 (by decide) wf_RX10_12 rfl dX10_open_14 ?_
    refine lv_iload_n hx hb dX10_open_17 rfl (lv_at hl 1 rfl) ?_
    refine lv_aload_n hx hb dX10_open_18 rfl (lv_at hl 0 rfl) ?_
    refine nx_gf X hP uw_X10 (ci := 9) rfl 0 rfl 0 (by decide) wf_RX10_12 rfl dX10_open_19 ?_
    obtain ⟨r_4, hc_3, h⟩ := nx_bd h
    refine nx_ki (nx_runV (As := []) (rest := [.int x1, .ref (a 1)]) X hS hP (c_X2_groupsOn l E H.size a size on kinds marks nb reached dist lastW par ord paths costs wanted tlen onlyF found steps plen rowW rowS tally _ hc_3) nx_FA qV_RX10_99 ⟨rfl, rfl⟩ ⟨Nat.le_of_ble_eq_true rfl, Nat.le_of_ble_eq_true rfl⟩ ⟨Nat.zero_le _, Nat.zero_le _⟩ 1 rfl rfl rfl rfl hl.1 (Nat.le_of_ble_eq_true rfl) dX10_open_22) hS nx_FA (fun H locs hP hS => ?_)
    obtain ⟨r_6, hc_5, h⟩ := nx_bd h
    refine nx_ki (nx_runV (As := [.int x1, .int r_4]) (rest := []) X hS hP (c_X2_isOpen l E H.size a size on kinds marks nb reached dist lastW par ord paths costs wanted tlen onlyF found steps plen rowW rowS tally x1 r_4 _ hc_5) nx_FA qV_RX10_102 ⟨rfl, rfl⟩ ⟨Nat.le_of_ble_eq_true rfl, Nat.le_of_ble_eq_true rfl⟩ ⟨Nat.zero_le _, Nat.zero_le _⟩ 1 rfl rfl rfl rfl hl.1 (Nat.le_of_ble_eq_true rfl) dX10_open_25) hS nx_FA (fun H locs hP hS => ?_)
    obtain ⟨r_8, hc_7, h⟩ := nx_bd h
    refine nx_ki (nx_runS (As := [.int r_6]) (rest := []) X hS hP (c_X10_oneIf l E H.size _ r_6 _ hc_7) nx_FA qS_RX10_106 ⟨rfl, rfl⟩ ⟨Nat.le_of_ble_eq_true rfl, Nat.le_of_ble_eq_true rfl⟩ ⟨Nat.zero_le _, Nat.zero_le _⟩ rfl rfl hl.1 (Nat.le_of_ble_eq_true rfl) dX10_open_28) hS nx_FA (fun H locs hP hS => ?_)
    exact kr 31 ls r_8 () H locs dX10_open_31 (Option.some.inj h) hP hS
  · have h := nx_it h hc
    refine lv_iconst (v := (-1)) hx hb dX10_open_11 (by decide) ?_
    exact kr 12 ls (-1) () H locs dX10_open_12 (Option.some.inj h) hP hS
def f_X3_southOf (x0 : Int32)  : Option (Int32) :=
  (f_X10_isStance x0).bind fun r_2 => if r_2 = 0 then (some (-1)) else ((nx_rd nx_south 24 x0).bind fun _ => some (nx_south x0.toNatClampNeg))
set_option maxHeartbeats 4000000 in
set_option maxRecDepth 100000 in
theorem c_X3_southOf (l : Launch) (E : nx_E) (sz : Nat) (ws : va_W) (x0 : Int32) (o : Int32) (h : f_X3_southOf x0 = some o) : Met l yX3_southOf (.code yX3_southOf cX3_southOf 1 (some .int) :: nx_T) (nx_rm 1 20) (va_Pc [.int x0] (nx_P E (nx_F) sz ws)) (va_Qi (fun v (_ : Unit) => v = o) (fun _ t => va_P E.1 vwCl ws t.heap) (nx_F)) 0 0 (nx_F) := by
  refine nx_enI (fun v (_ : Unit) => v = o) (fun (_ : Unit) => ws) (by decide) (Nat.le_of_ble_eq_true rfl) ?_
  intro p e s m below meth c Q X kr hsz hP ls hl
  subst hsz
  generalize hargs : (List.toArray [.int x0] : Array Value) = args at X kr ⊢
  clear hargs
  obtain ⟨⟨hx, hb, hml, hown, hts⟩, hK, hSt, hNz⟩ := id X
  have hS : va_S (nx_F) s.heap s.heap [] := va_S.rf
  have hl : lv_has ls 1 [(0, .int x0)] := hl
  unfold f_X3_southOf at h
  suffices hw : ∀ (H : Heap) (locs : List Loc), va_P E.1 vwCl ws H → va_S (nx_F) s.heap H locs → W p l e (nx_rm 1 20) s m args below meth c H locs 0 0 Q (F0 m 0 ls []) from hw _ _ hP va_S.rf
  intro H locs hP hS
  refine lv_iload_n hx hb dX3_southOf_0 rfl (lv_at hl 0 rfl) ?_
  obtain ⟨r_2, hc_1, h⟩ := nx_bd h
  refine nx_ki (nx_runN (As := [.int x0]) (rest := []) X hS hP (c_X10_isStance l E H.size _ x0 _ hc_1) nx_FA qN_RX3_15 ⟨rfl, rfl⟩ ⟨Nat.le_of_ble_eq_true rfl, Nat.le_of_ble_eq_true rfl⟩ ⟨Nat.zero_le _, Nat.zero_le _⟩ rfl rfl hl.1 (Nat.le_of_ble_eq_true rfl) dX3_southOf_1) hS nx_FA (fun H locs hP hS => ?_)
  refine lv_if_eq (tgt := 15) hx hb dX3_southOf_4 (by decide) (fun hc => ?_) (fun hc => ?_)
  · have h := nx_it h hc
    refine lv_iconst (v := (-1)) hx hb dX3_southOf_15 (by decide) ?_
    exact kr 16 ls (-1) () H locs dX3_southOf_16 (Option.some.inj h) hP hS
  · have h := nx_if h hc
    refine va_gets hx hb X.2.2.1.2.1 hS hown (hts _ wf_RX3_23) (fun _ h => h) dX3_southOf_7 ?_
    refine lv_iload_n hx hb dX3_southOf_10 rfl (lv_at hl 0 rfl) ?_
    obtain ⟨hv_3, h⟩ := nx_rb h
    refine va_ti hx hb X.2.2.1.2.2.2 hS hv_3 rfl dX3_southOf_11 ?_
    refine lv_goto (tgt := 16) hx hb dX3_southOf_12 (by decide) ?_
    exact kr 16 ls (nx_south x0.toNatClampNeg) () H locs dX3_southOf_16 (Option.some.inj h) hP hS
def f_X3_eastOf (x0 : Int32)  : Option (Int32) :=
  (f_X10_isStance x0).bind fun r_2 => if r_2 = 0 then (some (-1)) else ((nx_rd nx_east 24 x0).bind fun _ => some (nx_east x0.toNatClampNeg))
set_option maxHeartbeats 4000000 in
set_option maxRecDepth 100000 in
theorem c_X3_eastOf (l : Launch) (E : nx_E) (sz : Nat) (ws : va_W) (x0 : Int32) (o : Int32) (h : f_X3_eastOf x0 = some o) : Met l yX3_eastOf (.code yX3_eastOf cX3_eastOf 1 (some .int) :: nx_T) (nx_rm 1 20) (va_Pc [.int x0] (nx_P E (nx_F) sz ws)) (va_Qi (fun v (_ : Unit) => v = o) (fun _ t => va_P E.1 vwCl ws t.heap) (nx_F)) 0 0 (nx_F) := by
  refine nx_enI (fun v (_ : Unit) => v = o) (fun (_ : Unit) => ws) (by decide) (Nat.le_of_ble_eq_true rfl) ?_
  intro p e s m below meth c Q X kr hsz hP ls hl
  subst hsz
  generalize hargs : (List.toArray [.int x0] : Array Value) = args at X kr ⊢
  clear hargs
  obtain ⟨⟨hx, hb, hml, hown, hts⟩, hK, hSt, hNz⟩ := id X
  have hS : va_S (nx_F) s.heap s.heap [] := va_S.rf
  have hl : lv_has ls 1 [(0, .int x0)] := hl
  unfold f_X3_eastOf at h
  suffices hw : ∀ (H : Heap) (locs : List Loc), va_P E.1 vwCl ws H → va_S (nx_F) s.heap H locs → W p l e (nx_rm 1 20) s m args below meth c H locs 0 0 Q (F0 m 0 ls []) from hw _ _ hP va_S.rf
  intro H locs hP hS
  refine lv_iload_n hx hb dX3_eastOf_0 rfl (lv_at hl 0 rfl) ?_
  obtain ⟨r_2, hc_1, h⟩ := nx_bd h
  refine nx_ki (nx_runN (As := [.int x0]) (rest := []) X hS hP (c_X10_isStance l E H.size _ x0 _ hc_1) nx_FA qN_RX3_15 ⟨rfl, rfl⟩ ⟨Nat.le_of_ble_eq_true rfl, Nat.le_of_ble_eq_true rfl⟩ ⟨Nat.zero_le _, Nat.zero_le _⟩ rfl rfl hl.1 (Nat.le_of_ble_eq_true rfl) dX3_eastOf_1) hS nx_FA (fun H locs hP hS => ?_)
  refine lv_if_eq (tgt := 15) hx hb dX3_eastOf_4 (by decide) (fun hc => ?_) (fun hc => ?_)
  · have h := nx_it h hc
    refine lv_iconst (v := (-1)) hx hb dX3_eastOf_15 (by decide) ?_
    exact kr 16 ls (-1) () H locs dX3_eastOf_16 (Option.some.inj h) hP hS
  · have h := nx_if h hc
    refine va_gets hx hb X.2.2.1.1 hS hown (hts _ wf_RX3_19) (fun _ h => h) dX3_eastOf_7 ?_
    refine lv_iload_n hx hb dX3_eastOf_10 rfl (lv_at hl 0 rfl) ?_
    obtain ⟨hv_3, h⟩ := nx_rb h
    refine va_ti hx hb X.2.2.1.2.2.1 hS hv_3 rfl dX3_eastOf_11 ?_
    refine lv_goto (tgt := 16) hx hb dX3_eastOf_12 (by decide) ?_
    exact kr 16 ls (nx_east x0.toNatClampNeg) () H locs dX3_eastOf_16 (Option.some.inj h) hP hS
def f_X3_topOf (x0 : Int32)  : Option (Int32) :=
  some ((x0 / 4) + 1)
set_option maxHeartbeats 4000000 in
set_option maxRecDepth 100000 in
theorem c_X3_topOf (l : Launch) (E : nx_E) (sz : Nat) (ws : va_W) (x0 : Int32) (o : Int32) (h : f_X3_topOf x0 = some o) : Met l yX3_topOf (.code yX3_topOf cX3_topOf 1 (some .int) :: nx_T) (nx_rm 0 0) (va_Pc [.int x0] (nx_P E (nx_F) sz ws)) (va_Qi (fun v (_ : Unit) => v = o) (fun _ t => va_P E.1 vwCl ws t.heap) (nx_F)) 0 0 (nx_F) := by
  refine nx_enI (fun v (_ : Unit) => v = o) (fun (_ : Unit) => ws) (by decide) (Nat.le_of_ble_eq_true rfl) ?_
  intro p e s m below meth c Q X kr hsz hP ls hl
  subst hsz
  generalize hargs : (List.toArray [.int x0] : Array Value) = args at X kr ⊢
  clear hargs
  obtain ⟨⟨hx, hb, hml, hown, hts⟩, hK, hSt, hNz⟩ := id X
  have hS : va_S (nx_F) s.heap s.heap [] := va_S.rf
  have hl : lv_has ls 1 [(0, .int x0)] := hl
  unfold f_X3_topOf at h
  suffices hw : ∀ (H : Heap) (locs : List Loc), va_P E.1 vwCl ws H → va_S (nx_F) s.heap H locs → W p l e (nx_rm 0 0) s m args below meth c H locs 0 0 Q (F0 m 0 ls []) from hw _ _ hP va_S.rf
  intro H locs hP hS
  refine lv_iload_n hx hb dX3_topOf_0 rfl (lv_at hl 0 rfl) ?_
  refine lv_iconst (v := 4) hx hb dX3_topOf_1 (by decide) ?_
  refine lv_idiv hx hb dX3_topOf_2 (by decide) ?_
  refine lv_iconst (v := 1) hx hb dX3_topOf_3 (by decide) ?_
  refine lv_iadd hx hb dX3_topOf_4 ?_
  exact kr 5 ls ((x0 / 4) + 1) () H locs dX3_topOf_5 (Option.some.inj h) hP hS
def f_X10_face (x1 : Int32) (x2 : Int32)  : Option (Int32) :=
  (f_X10_isStance x1).bind fun r_2 => if r_2 = 0 then (some (-1)) else (if x2 = 0 then ((f_X3_topOf x1).bind fun r_4 => some r_4) else (if x2 = 1 then ((f_X3_eastOf x1).bind fun r_6 => some r_6) else (if x2 = 2 then ((f_X3_southOf x1).bind fun r_8 => some r_8) else (some (-2)))))
set_option maxHeartbeats 4000000 in
set_option maxRecDepth 100000 in
theorem c_X10_face (l : Launch) (E : nx_E) (sz : Nat) (a : Nat → Nat) (size : Int32) (on : Int32) (kinds : Nat → Int32) (marks : Nat → Int32) (nb : Nat → Int32) (reached : Int32) (dist : Nat → Int32) (lastW : Nat → Int32) (par : Nat → Int32) (ord : Nat → Int32) (paths : Nat → Int64) (costs : Nat → Int32) (wanted : Int32) (tlen : Int32) (onlyF : Int32) (found : Int32) (steps : Nat → Int32) (plen : Int32) (rowW : Nat → Int32) (rowS : Nat → Int32) (tally : Nat → Int32) (x1 : Int32) (x2 : Int32) (o : Int32) (h : f_X10_face x1 x2 = some o) : Met l yX10_face (.code yX10_face cX10_face 3 (some .int) :: nx_T) (nx_rm 2 40) (va_Pc [.ref (a 0), .int x1, .int x2] (nx_P E (nx_F) sz (cW E a size on kinds marks nb reached dist lastW par ord paths costs wanted tlen onlyF found steps plen rowW rowS tally))) (va_Qi (fun v (_ : Unit) => v = o) (fun _ t => va_P E.1 vwCl (cW E a size on kinds marks nb reached dist lastW par ord paths costs wanted tlen onlyF found steps plen rowW rowS tally) t.heap) (nx_F)) 0 0 (nx_F) := by
  refine nx_enI (fun v (_ : Unit) => v = o) (fun (_ : Unit) => (cW E a size on kinds marks nb reached dist lastW par ord paths costs wanted tlen onlyF found steps plen rowW rowS tally)) (by decide) (Nat.le_of_ble_eq_true rfl) ?_
  intro p e s m below meth c Q X kr hsz hP ls hl
  subst hsz
  generalize hargs : (List.toArray [.ref (a 0), .int x1, .int x2] : Array Value) = args at X kr ⊢
  clear hargs
  obtain ⟨⟨hx, hb, hml, hown, hts⟩, hK, hSt, hNz⟩ := id X
  have hS : va_S (nx_F) s.heap s.heap [] := va_S.rf
  have hl : lv_has ls 3 [(0, .ref (a 0)), (1, .int x1), (2, .int x2)] := hl
  unfold f_X10_face at h
  suffices hw : ∀ (H : Heap) (locs : List Loc), va_P E.1 vwCl (cW E a size on kinds marks nb reached dist lastW par ord paths costs wanted tlen onlyF found steps plen rowW rowS tally) H → va_S (nx_F) s.heap H locs → W p l e (nx_rm 2 40) s m args below meth c H locs 0 0 Q (F0 m 0 ls []) from hw _ _ hP va_S.rf
  intro H locs hP hS
  refine lv_iload_n hx hb dX10_face_0 rfl (lv_at hl 1 rfl) ?_
  obtain ⟨r_2, hc_1, h⟩ := nx_bd h
  refine nx_ki (nx_runS (As := [.int x1]) (rest := []) X hS hP (c_X10_isStance l E H.size _ x1 _ hc_1) nx_FA qS_RX10_110 ⟨rfl, rfl⟩ ⟨Nat.le_of_ble_eq_true rfl, Nat.le_of_ble_eq_true rfl⟩ ⟨Nat.zero_le _, Nat.zero_le _⟩ rfl rfl hl.1 (Nat.le_of_ble_eq_true rfl) dX10_face_1) hS nx_FA (fun H locs hP hS => ?_)
  refine lv_if_ne (tgt := 9) hx hb dX10_face_4 (by decide) (fun hc => ?_) (fun hc => ?_)
  · have h := nx_if h hc
    refine lv_iload_n hx hb dX10_face_9 rfl (lv_at hl 2 rfl) ?_
    by_cases hc0 : x2 = 0
    · have h := nx_it h hc0
      refine lv_tableIn (off := 26) (tgt := 36) hx hb dX10_face_10 (by rw [hc0]; decide) (by rw [hc0]; decide) (by rw [hc0]; decide) (by decide) ?_
      refine lv_iload_n hx hb dX10_face_36 rfl (lv_at hl 1 rfl) ?_
      obtain ⟨r_4, hc_3, h⟩ := nx_bd h
      refine nx_ki (nx_runS (As := [.int x1]) (rest := []) X hS hP (c_X3_topOf l E H.size _ x1 _ hc_3) nx_FA qS_RX10_113 ⟨rfl, rfl⟩ ⟨Nat.le_of_ble_eq_true rfl, Nat.le_of_ble_eq_true rfl⟩ ⟨Nat.zero_le _, Nat.zero_le _⟩ rfl rfl hl.1 (Nat.le_of_ble_eq_true rfl) dX10_face_37) hS nx_FA (fun H locs hP hS => ?_)
      exact kr 40 ls r_4 () H locs dX10_face_40 (Option.some.inj h) hP hS
    have h := nx_if h hc0
    by_cases hc1 : x2 = 1
    · have h := nx_it h hc1
      refine lv_tableIn (off := 31) (tgt := 41) hx hb dX10_face_10 (by rw [hc1]; decide) (by rw [hc1]; decide) (by rw [hc1]; decide) (by decide) ?_
      refine lv_iload_n hx hb dX10_face_41 rfl (lv_at hl 1 rfl) ?_
      obtain ⟨r_6, hc_5, h⟩ := nx_bd h
      refine nx_ki (nx_runS (As := [.int x1]) (rest := []) X hS hP (c_X3_eastOf l E H.size _ x1 _ hc_5) nx_FA qS_RX10_117 ⟨rfl, rfl⟩ ⟨Nat.le_of_ble_eq_true rfl, Nat.le_of_ble_eq_true rfl⟩ ⟨Nat.zero_le _, Nat.zero_le _⟩ rfl rfl hl.1 (Nat.le_of_ble_eq_true rfl) dX10_face_42) hS nx_FA (fun H locs hP hS => ?_)
      exact kr 45 ls r_6 () H locs dX10_face_45 (Option.some.inj h) hP hS
    have h := nx_if h hc1
    by_cases hc2 : x2 = 2
    · have h := nx_it h hc2
      refine lv_tableIn (off := 36) (tgt := 46) hx hb dX10_face_10 (by rw [hc2]; decide) (by rw [hc2]; decide) (by rw [hc2]; decide) (by decide) ?_
      refine lv_iload_n hx hb dX10_face_46 rfl (lv_at hl 1 rfl) ?_
      obtain ⟨r_8, hc_7, h⟩ := nx_bd h
      refine nx_ki (nx_runS (As := [.int x1]) (rest := []) X hS hP (c_X3_southOf l E H.size _ x1 _ hc_7) nx_FA qS_RX10_120 ⟨rfl, rfl⟩ ⟨Nat.le_of_ble_eq_true rfl, Nat.le_of_ble_eq_true rfl⟩ ⟨Nat.zero_le _, Nat.zero_le _⟩ rfl rfl hl.1 (Nat.le_of_ble_eq_true rfl) dX10_face_47) hS nx_FA (fun H locs hP hS => ?_)
      exact kr 50 ls r_8 () H locs dX10_face_50 (Option.some.inj h) hP hS
    have h := nx_if h hc2
    refine lv_tableOut (tgt := 51) hx hb dX10_face_10 (nx_sw3 hc0 hc1 hc2) (by decide) ?_
    refine lv_bipush (v := (-2)) hx hb dX10_face_51 (by decide) ?_
    exact kr 53 ls (-2) () H locs dX10_face_53 (Option.some.inj h) hP hS
  · have h := nx_it h hc
    refine lv_iconst (v := (-1)) hx hb dX10_face_7 (by decide) ?_
    exact kr 8 ls (-1) () H locs dX10_face_8 (Option.some.inj h) hP hS
def f_X3_numbered_j27 (x0 : Int32) (s0 : Int32) (s1 : Int32) : Option (Int32) :=
  some ((4 * (x0 - 1)) + (s1 - s0))
def f_X3_numbered_j13 (x0 : Int32) (x1 : Int32) (s0 : Int32) (s1 : Int32) : Option (Int32) :=
  if x1 ≤ (7 - x0) then (f_X3_numbered_j27 x0 0 (s1 - s0)) else (f_X3_numbered_j27 x0 1 (s1 - s0))
def f_X3_numbered (x0 : Int32) (x1 : Int32)  : Option (Int32) :=
  if x1 ≤ x0 then (f_X3_numbered_j13 x0 x1 0 (x1 - 1)) else (f_X3_numbered_j13 x0 x1 1 (x1 - 1))
set_option maxHeartbeats 4000000 in
set_option maxRecDepth 100000 in
theorem c_X3_numbered (l : Launch) (E : nx_E) (sz : Nat) (ws : va_W) (x0 : Int32) (x1 : Int32) (o : Int32) (h : f_X3_numbered x0 x1 = some o) : Met l yX3_numbered (.code yX3_numbered cX3_numbered 3 (some .int) :: nx_T) (nx_rm 0 0) (va_Pc [.int x0, .int x1] (nx_P E (nx_F) sz ws)) (va_Qi (fun v (_ : Unit) => v = o) (fun _ t => va_P E.1 vwCl ws t.heap) (nx_F)) 0 0 (nx_F) := by
  refine nx_enI (fun v (_ : Unit) => v = o) (fun (_ : Unit) => ws) (by decide) (Nat.le_of_ble_eq_true rfl) ?_
  intro p e s m below meth c Q X kr hsz hP ls hl
  subst hsz
  generalize hargs : (List.toArray [.int x0, .int x1] : Array Value) = args at X kr ⊢
  clear hargs
  obtain ⟨⟨hx, hb, hml, hown, hts⟩, hK, hSt, hNz⟩ := id X
  have hS : va_S (nx_F) s.heap s.heap [] := va_S.rf
  have hl : lv_has ls 3 [(0, .int x0), (1, .int x1)] := hl
  have J27 : ∀ (x0 : Int32) (s0 : Int32) (s1 : Int32), f_X3_numbered_j27 x0 s0 s1 = some o → ∀ (H : Heap) (locs : List Loc) (ls : Array Slot), va_P E.1 vwCl ws H → va_S (nx_F) s.heap H locs → lv_has ls 3 [(0, .int x0)] → W p l e (nx_rm 0 0) s m args below meth c H locs 0 0 Q (F0 m 27 ls [.int s0, .int s1]) := by
    intro x0 s0 s1 h H locs ls hP hS hl
    unfold f_X3_numbered_j27 at h
    refine lv_isub hx hb dX3_numbered_27 ?_
    refine lv_istore_n (lv' := [(2, .int (s1 - s0)), (0, .int x0)]) hx hb dX3_numbered_28 rfl hl (by decide) rfl (fun ls hl => ?_)
    refine lv_iconst (v := 4) hx hb dX3_numbered_29 (by decide) ?_
    refine lv_iload_n hx hb dX3_numbered_30 rfl (lv_at hl 1 rfl) ?_
    refine lv_iconst (v := 1) hx hb dX3_numbered_31 (by decide) ?_
    refine lv_isub hx hb dX3_numbered_32 ?_
    refine lv_imul hx hb dX3_numbered_33 ?_
    refine lv_iload_n hx hb dX3_numbered_34 rfl (lv_at hl 0 rfl) ?_
    refine lv_iadd hx hb dX3_numbered_35 ?_
    exact kr 36 ls ((4 * (x0 - 1)) + (s1 - s0)) () H locs dX3_numbered_36 (Option.some.inj h) hP hS
  have J13 : ∀ (x0 : Int32) (x1 : Int32) (s0 : Int32) (s1 : Int32), f_X3_numbered_j13 x0 x1 s0 s1 = some o → ∀ (H : Heap) (locs : List Loc) (ls : Array Slot), va_P E.1 vwCl ws H → va_S (nx_F) s.heap H locs → lv_has ls 3 [(0, .int x0), (1, .int x1)] → W p l e (nx_rm 0 0) s m args below meth c H locs 0 0 Q (F0 m 13 ls [.int s0, .int s1]) := by
    intro x0 x1 s0 s1 h H locs ls hP hS hl
    unfold f_X3_numbered_j13 at h
    refine lv_isub hx hb dX3_numbered_13 ?_
    refine lv_bipush (v := 7) hx hb dX3_numbered_14 (by decide) ?_
    refine lv_iload_n hx hb dX3_numbered_16 rfl (lv_at hl 0 rfl) ?_
    refine lv_isub hx hb dX3_numbered_17 ?_
    refine lv_iload_n hx hb dX3_numbered_18 rfl (lv_at hl 1 rfl) ?_
    refine lv_icmp_ge (tgt := 26) hx hb dX3_numbered_19 (by decide) (fun hc => ?_) (fun hc => ?_)
    · have h := nx_it h hc
      refine lv_iconst (v := 0) hx hb dX3_numbered_26 (by decide) ?_
      exact J27 _ _ _ h H locs ls hP hS (lv_sub hl [0] rfl)
    · have h := nx_if h hc
      refine lv_iconst (v := 1) hx hb dX3_numbered_22 (by decide) ?_
      refine lv_goto (tgt := 27) hx hb dX3_numbered_23 (by decide) ?_
      exact J27 _ _ _ h H locs ls hP hS (lv_sub hl [0] rfl)
  unfold f_X3_numbered at h
  suffices hw : ∀ (H : Heap) (locs : List Loc), va_P E.1 vwCl ws H → va_S (nx_F) s.heap H locs → W p l e (nx_rm 0 0) s m args below meth c H locs 0 0 Q (F0 m 0 ls []) from hw _ _ hP va_S.rf
  intro H locs hP hS
  refine lv_iload_n hx hb dX3_numbered_0 rfl (lv_at hl 1 rfl) ?_
  refine lv_iconst (v := 1) hx hb dX3_numbered_1 (by decide) ?_
  refine lv_isub hx hb dX3_numbered_2 ?_
  refine lv_iload_n hx hb dX3_numbered_3 rfl (lv_at hl 0 rfl) ?_
  refine lv_iload_n hx hb dX3_numbered_4 rfl (lv_at hl 1 rfl) ?_
  refine lv_icmp_ge (tgt := 12) hx hb dX3_numbered_5 (by decide) (fun hc => ?_) (fun hc => ?_)
  · have h := nx_it h hc
    refine lv_iconst (v := 0) hx hb dX3_numbered_12 (by decide) ?_
    exact J13 _ _ _ _ h H locs ls hP hS (lv_sub hl [0, 1] rfl)
  · have h := nx_if h hc
    refine lv_iconst (v := 1) hx hb dX3_numbered_8 (by decide) ?_
    refine lv_goto (tgt := 13) hx hb dX3_numbered_9 (by decide) ?_
    exact J13 _ _ _ _ h H locs ls hP hS (lv_sub hl [0, 1] rfl)
def f_X3_turned (x0 : Int32) (x1 : Int32)  : Option (Int32) :=
  (f_X10_isStance x0).bind fun r_2 => if r_2 = 0 then (some (-1)) else ((f_X3_topOf x0).bind fun r_4 => (nx_rd nx_east 24 x0).bind fun _ => (nx_rd nx_south 24 x0).bind fun _ => if x1 = 0 then ((f_X3_numbered (7 - (nx_east x0.toNatClampNeg)) r_4).bind fun r_10 => some r_10) else (if x1 = 1 then ((f_X3_numbered (7 - (nx_south x0.toNatClampNeg)) (nx_east x0.toNatClampNeg)).bind fun r_12 => some r_12) else (if x1 = 2 then ((f_X3_numbered (nx_east x0.toNatClampNeg) (7 - r_4)).bind fun r_14 => some r_14) else ((f_X3_numbered (nx_south x0.toNatClampNeg) (nx_east x0.toNatClampNeg)).bind fun r_16 => some r_16))))
set_option maxHeartbeats 4000000 in
set_option maxRecDepth 100000 in
theorem c_X3_turned (l : Launch) (E : nx_E) (sz : Nat) (ws : va_W) (x0 : Int32) (x1 : Int32) (o : Int32) (h : f_X3_turned x0 x1 = some o) : Met l yX3_turned (.code yX3_turned cX3_turned 5 (some .int) :: nx_T) (nx_rm 1 22) (va_Pc [.int x0, .int x1] (nx_P E (nx_F) sz ws)) (va_Qi (fun v (_ : Unit) => v = o) (fun _ t => va_P E.1 vwCl ws t.heap) (nx_F)) 0 0 (nx_F) := by
  refine nx_enI (fun v (_ : Unit) => v = o) (fun (_ : Unit) => ws) (by decide) (Nat.le_of_ble_eq_true rfl) ?_
  intro p e s m below meth c Q X kr hsz hP ls hl
  subst hsz
  generalize hargs : (List.toArray [.int x0, .int x1] : Array Value) = args at X kr ⊢
  clear hargs
  obtain ⟨⟨hx, hb, hml, hown, hts⟩, hK, hSt, hNz⟩ := id X
  have hS : va_S (nx_F) s.heap s.heap [] := va_S.rf
  have hl : lv_has ls 5 [(0, .int x0), (1, .int x1)] := hl
  unfold f_X3_turned at h
  suffices hw : ∀ (H : Heap) (locs : List Loc), va_P E.1 vwCl ws H → va_S (nx_F) s.heap H locs → W p l e (nx_rm 1 22) s m args below meth c H locs 0 0 Q (F0 m 0 ls []) from hw _ _ hP va_S.rf
  intro H locs hP hS
  refine lv_iload_n hx hb dX3_turned_0 rfl (lv_at hl 0 rfl) ?_
  obtain ⟨r_2, hc_1, h⟩ := nx_bd h
  refine nx_ki (nx_runN (As := [.int x0]) (rest := []) X hS hP (c_X10_isStance l E H.size _ x0 _ hc_1) nx_FA qN_RX3_15 ⟨rfl, rfl⟩ ⟨Nat.le_of_ble_eq_true rfl, Nat.le_of_ble_eq_true rfl⟩ ⟨Nat.zero_le _, Nat.zero_le _⟩ rfl rfl hl.1 (Nat.le_of_ble_eq_true rfl) dX3_turned_1) hS nx_FA (fun H locs hP hS => ?_)
  refine lv_if_ne (tgt := 9) hx hb dX3_turned_4 (by decide) (fun hc => ?_) (fun hc => ?_)
  · have h := nx_if h hc
    refine lv_iload_n hx hb dX3_turned_9 rfl (lv_at hl 0 rfl) ?_
    obtain ⟨r_4, hc_3, h⟩ := nx_bd h
    refine nx_ki (nx_runS (As := [.int x0]) (rest := []) X hS hP (c_X3_topOf l E H.size _ x0 _ hc_3) nx_FA qS_RX3_9 ⟨rfl, rfl⟩ ⟨Nat.le_of_ble_eq_true rfl, Nat.le_of_ble_eq_true rfl⟩ ⟨Nat.zero_le _, Nat.zero_le _⟩ rfl rfl hl.1 (Nat.le_of_ble_eq_true rfl) dX3_turned_10) hS nx_FA (fun H locs hP hS => ?_)
    refine lv_istore_n (lv' := [(2, .int r_4), (0, .int x0), (1, .int x1)]) hx hb dX3_turned_13 rfl hl (by decide) rfl (fun ls hl => ?_)
    refine va_gets hx hb X.2.2.1.1 hS hown (hts _ wf_RX3_19) (fun _ h => h) dX3_turned_14 ?_
    refine lv_iload_n hx hb dX3_turned_17 rfl (lv_at hl 1 rfl) ?_
    obtain ⟨hv_5, h⟩ := nx_rb h
    refine va_ti hx hb X.2.2.1.2.2.1 hS hv_5 rfl dX3_turned_18 ?_
    refine lv_istore_n (lv' := [(3, .int (nx_east x0.toNatClampNeg)), (2, .int r_4), (0, .int x0), (1, .int x1)]) hx hb dX3_turned_19 rfl hl (by decide) rfl (fun ls hl => ?_)
    refine va_gets hx hb X.2.2.1.2.1 hS hown (hts _ wf_RX3_23) (fun _ h => h) dX3_turned_20 ?_
    refine lv_iload_n hx hb dX3_turned_23 rfl (lv_at hl 2 rfl) ?_
    obtain ⟨hv_7, h⟩ := nx_rb h
    refine va_ti hx hb X.2.2.1.2.2.2 hS hv_7 rfl dX3_turned_24 ?_
    refine lv_istore (lv' := [(4, .int (nx_south x0.toNatClampNeg)), (3, .int (nx_east x0.toNatClampNeg)), (2, .int r_4), (0, .int x0), (1, .int x1)]) hx hb dX3_turned_25 hl (by decide) rfl (fun ls hl => ?_)
    refine lv_iload_n hx hb dX3_turned_27 rfl (lv_at hl 4 rfl) ?_
    by_cases hc0 : x1 = 0
    · have h := nx_it h hc0
      refine lv_tableIn (off := 28) (tgt := 56) hx hb dX3_turned_28 (by rw [hc0]; decide) (by rw [hc0]; decide) (by rw [hc0]; decide) (by decide) ?_
      refine lv_bipush (v := 7) hx hb dX3_turned_56 (by decide) ?_
      refine lv_iload_n hx hb dX3_turned_58 rfl (lv_at hl 1 rfl) ?_
      refine lv_isub hx hb dX3_turned_59 ?_
      refine lv_iload_n hx hb dX3_turned_60 rfl (lv_at hl 2 rfl) ?_
      obtain ⟨r_10, hc_9, h⟩ := nx_bd h
      refine nx_ki (nx_runS (As := [.int (7 - (nx_east x0.toNatClampNeg)), .int r_4]) (rest := []) X hS hP (c_X3_numbered l E H.size _ (7 - (nx_east x0.toNatClampNeg)) r_4 _ hc_9) nx_FA qS_RX3_26 ⟨rfl, rfl⟩ ⟨Nat.le_of_ble_eq_true rfl, Nat.le_of_ble_eq_true rfl⟩ ⟨Nat.zero_le _, Nat.zero_le _⟩ rfl rfl hl.1 (Nat.le_of_ble_eq_true rfl) dX3_turned_61) hS nx_FA (fun H locs hP hS => ?_)
      exact kr 64 ls r_10 () H locs dX3_turned_64 (Option.some.inj h) hP hS
    have h := nx_if h hc0
    by_cases hc1 : x1 = 1
    · have h := nx_it h hc1
      refine lv_tableIn (off := 37) (tgt := 65) hx hb dX3_turned_28 (by rw [hc1]; decide) (by rw [hc1]; decide) (by rw [hc1]; decide) (by decide) ?_
      refine lv_bipush (v := 7) hx hb dX3_turned_65 (by decide) ?_
      refine lv_iload hx hb dX3_turned_67 (lv_at hl 0 rfl) ?_
      refine lv_isub hx hb dX3_turned_69 ?_
      refine lv_iload_n hx hb dX3_turned_70 rfl (lv_at hl 1 rfl) ?_
      obtain ⟨r_12, hc_11, h⟩ := nx_bd h
      refine nx_ki (nx_runS (As := [.int (7 - (nx_south x0.toNatClampNeg)), .int (nx_east x0.toNatClampNeg)]) (rest := []) X hS hP (c_X3_numbered l E H.size _ (7 - (nx_south x0.toNatClampNeg)) (nx_east x0.toNatClampNeg) _ hc_11) nx_FA qS_RX3_26 ⟨rfl, rfl⟩ ⟨Nat.le_of_ble_eq_true rfl, Nat.le_of_ble_eq_true rfl⟩ ⟨Nat.zero_le _, Nat.zero_le _⟩ rfl rfl hl.1 (Nat.le_of_ble_eq_true rfl) dX3_turned_71) hS nx_FA (fun H locs hP hS => ?_)
      exact kr 74 ls r_12 () H locs dX3_turned_74 (Option.some.inj h) hP hS
    have h := nx_if h hc1
    by_cases hc2 : x1 = 2
    · have h := nx_it h hc2
      refine lv_tableIn (off := 47) (tgt := 75) hx hb dX3_turned_28 (by rw [hc2]; decide) (by rw [hc2]; decide) (by rw [hc2]; decide) (by decide) ?_
      refine lv_iload_n hx hb dX3_turned_75 rfl (lv_at hl 1 rfl) ?_
      refine lv_bipush (v := 7) hx hb dX3_turned_76 (by decide) ?_
      refine lv_iload_n hx hb dX3_turned_78 rfl (lv_at hl 2 rfl) ?_
      refine lv_isub hx hb dX3_turned_79 ?_
      obtain ⟨r_14, hc_13, h⟩ := nx_bd h
      refine nx_ki (nx_runS (As := [.int (nx_east x0.toNatClampNeg), .int (7 - r_4)]) (rest := []) X hS hP (c_X3_numbered l E H.size _ (nx_east x0.toNatClampNeg) (7 - r_4) _ hc_13) nx_FA qS_RX3_26 ⟨rfl, rfl⟩ ⟨Nat.le_of_ble_eq_true rfl, Nat.le_of_ble_eq_true rfl⟩ ⟨Nat.zero_le _, Nat.zero_le _⟩ rfl rfl hl.1 (Nat.le_of_ble_eq_true rfl) dX3_turned_80) hS nx_FA (fun H locs hP hS => ?_)
      exact kr 83 ls r_14 () H locs dX3_turned_83 (Option.some.inj h) hP hS
    have h := nx_if h hc2
    refine lv_tableOut (tgt := 84) hx hb dX3_turned_28 (nx_sw3 hc0 hc1 hc2) (by decide) ?_
    refine lv_iload hx hb dX3_turned_84 (lv_at hl 0 rfl) ?_
    refine lv_iload_n hx hb dX3_turned_86 rfl (lv_at hl 1 rfl) ?_
    obtain ⟨r_16, hc_15, h⟩ := nx_bd h
    refine nx_ki (nx_runS (As := [.int (nx_south x0.toNatClampNeg), .int (nx_east x0.toNatClampNeg)]) (rest := []) X hS hP (c_X3_numbered l E H.size _ (nx_south x0.toNatClampNeg) (nx_east x0.toNatClampNeg) _ hc_15) nx_FA qS_RX3_26 ⟨rfl, rfl⟩ ⟨Nat.le_of_ble_eq_true rfl, Nat.le_of_ble_eq_true rfl⟩ ⟨Nat.zero_le _, Nat.zero_le _⟩ rfl rfl hl.1 (Nat.le_of_ble_eq_true rfl) dX3_turned_87) hS nx_FA (fun H locs hP hS => ?_)
    exact kr 90 ls r_16 () H locs dX3_turned_90 (Option.some.inj h) hP hS
  · have h := nx_it h hc
    refine lv_iconst (v := (-1)) hx hb dX3_turned_7 (by decide) ?_
    exact kr 8 ls (-1) () H locs dX3_turned_8 (Option.some.inj h) hP hS
def f_X10_turn (x1 : Int32) (x2 : Int32)  : Option (Int32) :=
  (f_X10_isStance x1).bind fun r_2 => if r_2 = 0 then (some (-1)) else ((f_X10_isWay x2).bind fun r_4 => if r_4 = 0 then (some (-2)) else ((f_X3_turned x1 x2).bind fun r_6 => some r_6))
set_option maxHeartbeats 4000000 in
set_option maxRecDepth 100000 in
theorem c_X10_turn (l : Launch) (E : nx_E) (sz : Nat) (a : Nat → Nat) (size : Int32) (on : Int32) (kinds : Nat → Int32) (marks : Nat → Int32) (nb : Nat → Int32) (reached : Int32) (dist : Nat → Int32) (lastW : Nat → Int32) (par : Nat → Int32) (ord : Nat → Int32) (paths : Nat → Int64) (costs : Nat → Int32) (wanted : Int32) (tlen : Int32) (onlyF : Int32) (found : Int32) (steps : Nat → Int32) (plen : Int32) (rowW : Nat → Int32) (rowS : Nat → Int32) (tally : Nat → Int32) (x1 : Int32) (x2 : Int32) (o : Int32) (h : f_X10_turn x1 x2 = some o) : Met l yX10_turn (.code yX10_turn cX10_turn 3 (some .int) :: nx_T) (nx_rm 2 46) (va_Pc [.ref (a 0), .int x1, .int x2] (nx_P E (nx_F) sz (cW E a size on kinds marks nb reached dist lastW par ord paths costs wanted tlen onlyF found steps plen rowW rowS tally))) (va_Qi (fun v (_ : Unit) => v = o) (fun _ t => va_P E.1 vwCl (cW E a size on kinds marks nb reached dist lastW par ord paths costs wanted tlen onlyF found steps plen rowW rowS tally) t.heap) (nx_F)) 0 0 (nx_F) := by
  refine nx_enI (fun v (_ : Unit) => v = o) (fun (_ : Unit) => (cW E a size on kinds marks nb reached dist lastW par ord paths costs wanted tlen onlyF found steps plen rowW rowS tally)) (by decide) (Nat.le_of_ble_eq_true rfl) ?_
  intro p e s m below meth c Q X kr hsz hP ls hl
  subst hsz
  generalize hargs : (List.toArray [.ref (a 0), .int x1, .int x2] : Array Value) = args at X kr ⊢
  clear hargs
  obtain ⟨⟨hx, hb, hml, hown, hts⟩, hK, hSt, hNz⟩ := id X
  have hS : va_S (nx_F) s.heap s.heap [] := va_S.rf
  have hl : lv_has ls 3 [(0, .ref (a 0)), (1, .int x1), (2, .int x2)] := hl
  unfold f_X10_turn at h
  suffices hw : ∀ (H : Heap) (locs : List Loc), va_P E.1 vwCl (cW E a size on kinds marks nb reached dist lastW par ord paths costs wanted tlen onlyF found steps plen rowW rowS tally) H → va_S (nx_F) s.heap H locs → W p l e (nx_rm 2 46) s m args below meth c H locs 0 0 Q (F0 m 0 ls []) from hw _ _ hP va_S.rf
  intro H locs hP hS
  refine lv_iload_n hx hb dX10_turn_0 rfl (lv_at hl 1 rfl) ?_
  obtain ⟨r_2, hc_1, h⟩ := nx_bd h
  refine nx_ki (nx_runS (As := [.int x1]) (rest := []) X hS hP (c_X10_isStance l E H.size _ x1 _ hc_1) nx_FA qS_RX10_110 ⟨rfl, rfl⟩ ⟨Nat.le_of_ble_eq_true rfl, Nat.le_of_ble_eq_true rfl⟩ ⟨Nat.zero_le _, Nat.zero_le _⟩ rfl rfl hl.1 (Nat.le_of_ble_eq_true rfl) dX10_turn_1) hS nx_FA (fun H locs hP hS => ?_)
  refine lv_if_ne (tgt := 9) hx hb dX10_turn_4 (by decide) (fun hc => ?_) (fun hc => ?_)
  · have h := nx_if h hc
    refine lv_iload_n hx hb dX10_turn_9 rfl (lv_at hl 2 rfl) ?_
    obtain ⟨r_4, hc_3, h⟩ := nx_bd h
    refine nx_ki (nx_runS (As := [.int x2]) (rest := []) X hS hP (c_X10_isWay l E H.size _ x2 _ hc_3) nx_FA qS_RX10_123 ⟨rfl, rfl⟩ ⟨Nat.le_of_ble_eq_true rfl, Nat.le_of_ble_eq_true rfl⟩ ⟨Nat.zero_le _, Nat.zero_le _⟩ rfl rfl hl.1 (Nat.le_of_ble_eq_true rfl) dX10_turn_10) hS nx_FA (fun H locs hP hS => ?_)
    refine lv_if_eq (tgt := 24) hx hb dX10_turn_13 (by decide) (fun hc => ?_) (fun hc => ?_)
    · have h := nx_it h hc
      refine lv_bipush (v := (-2)) hx hb dX10_turn_24 (by decide) ?_
      exact kr 26 ls (-2) () H locs dX10_turn_26 (Option.some.inj h) hP hS
    · have h := nx_if h hc
      refine lv_iload_n hx hb dX10_turn_16 rfl (lv_at hl 1 rfl) ?_
      refine lv_iload_n hx hb dX10_turn_17 rfl (lv_at hl 2 rfl) ?_
      obtain ⟨r_6, hc_5, h⟩ := nx_bd h
      refine nx_ki (nx_runS (As := [.int x1, .int x2]) (rest := []) X hS hP (c_X3_turned l E H.size _ x1 x2 _ hc_5) nx_FA qS_RX10_126 ⟨rfl, rfl⟩ ⟨Nat.le_of_ble_eq_true rfl, Nat.le_of_ble_eq_true rfl⟩ ⟨Nat.zero_le _, Nat.zero_le _⟩ rfl rfl hl.1 (Nat.le_of_ble_eq_true rfl) dX10_turn_18) hS nx_FA (fun H locs hP hS => ?_)
      refine lv_goto (tgt := 26) hx hb dX10_turn_21 (by decide) ?_
      exact kr 26 ls r_6 () H locs dX10_turn_26 (Option.some.inj h) hP hS
  · have h := nx_it h hc
    refine lv_iconst (v := (-1)) hx hb dX10_turn_7 (by decide) ?_
    exact kr 8 ls (-1) () H locs dX10_turn_8 (Option.some.inj h) hP hS
def f_X10_stance (x1 : Int32) (x2 : Int32)  : Option (Int32) :=
  (f_X10_isFace x1).bind fun r_2 => if r_2 = 0 then (some (-2)) else ((f_X10_isFace x2).bind fun r_4 => if r_4 = 0 then (some (-2)) else (if x2 = x1 then (some (-9)) else (if x2 = (7 - x1) then (some (-9)) else ((f_X3_numbered x1 x2).bind fun r_6 => some r_6))))
set_option maxHeartbeats 4000000 in
set_option maxRecDepth 100000 in
theorem c_X10_stance (l : Launch) (E : nx_E) (sz : Nat) (a : Nat → Nat) (size : Int32) (on : Int32) (kinds : Nat → Int32) (marks : Nat → Int32) (nb : Nat → Int32) (reached : Int32) (dist : Nat → Int32) (lastW : Nat → Int32) (par : Nat → Int32) (ord : Nat → Int32) (paths : Nat → Int64) (costs : Nat → Int32) (wanted : Int32) (tlen : Int32) (onlyF : Int32) (found : Int32) (steps : Nat → Int32) (plen : Int32) (rowW : Nat → Int32) (rowS : Nat → Int32) (tally : Nat → Int32) (x1 : Int32) (x2 : Int32) (o : Int32) (h : f_X10_stance x1 x2 = some o) : Met l yX10_stance (.code yX10_stance cX10_stance 3 (some .int) :: nx_T) (nx_rm 1 22) (va_Pc [.ref (a 0), .int x1, .int x2] (nx_P E (nx_F) sz (cW E a size on kinds marks nb reached dist lastW par ord paths costs wanted tlen onlyF found steps plen rowW rowS tally))) (va_Qi (fun v (_ : Unit) => v = o) (fun _ t => va_P E.1 vwCl (cW E a size on kinds marks nb reached dist lastW par ord paths costs wanted tlen onlyF found steps plen rowW rowS tally) t.heap) (nx_F)) 0 0 (nx_F) := by
  refine nx_enI (fun v (_ : Unit) => v = o) (fun (_ : Unit) => (cW E a size on kinds marks nb reached dist lastW par ord paths costs wanted tlen onlyF found steps plen rowW rowS tally)) (by decide) (Nat.le_of_ble_eq_true rfl) ?_
  intro p e s m below meth c Q X kr hsz hP ls hl
  subst hsz
  generalize hargs : (List.toArray [.ref (a 0), .int x1, .int x2] : Array Value) = args at X kr ⊢
  clear hargs
  obtain ⟨⟨hx, hb, hml, hown, hts⟩, hK, hSt, hNz⟩ := id X
  have hS : va_S (nx_F) s.heap s.heap [] := va_S.rf
  have hl : lv_has ls 3 [(0, .ref (a 0)), (1, .int x1), (2, .int x2)] := hl
  unfold f_X10_stance at h
  suffices hw : ∀ (H : Heap) (locs : List Loc), va_P E.1 vwCl (cW E a size on kinds marks nb reached dist lastW par ord paths costs wanted tlen onlyF found steps plen rowW rowS tally) H → va_S (nx_F) s.heap H locs → W p l e (nx_rm 1 22) s m args below meth c H locs 0 0 Q (F0 m 0 ls []) from hw _ _ hP va_S.rf
  intro H locs hP hS
  refine lv_iload_n hx hb dX10_stance_0 rfl (lv_at hl 1 rfl) ?_
  obtain ⟨r_2, hc_1, h⟩ := nx_bd h
  refine nx_ki (nx_runS (As := [.int x1]) (rest := []) X hS hP (c_X10_isFace l E H.size _ x1 _ hc_1) nx_FA qS_RX10_129 ⟨rfl, rfl⟩ ⟨Nat.le_of_ble_eq_true rfl, Nat.le_of_ble_eq_true rfl⟩ ⟨Nat.zero_le _, Nat.zero_le _⟩ rfl rfl hl.1 (Nat.le_of_ble_eq_true rfl) dX10_stance_1) hS nx_FA (fun H locs hP hS => ?_)
  refine lv_if_eq (tgt := 14) hx hb dX10_stance_4 (by decide) (fun hc => ?_) (fun hc => ?_)
  · have h := nx_it h hc
    refine lv_bipush (v := (-2)) hx hb dX10_stance_14 (by decide) ?_
    exact kr 16 ls (-2) () H locs dX10_stance_16 (Option.some.inj h) hP hS
  · have h := nx_if h hc
    refine lv_iload_n hx hb dX10_stance_7 rfl (lv_at hl 2 rfl) ?_
    obtain ⟨r_4, hc_3, h⟩ := nx_bd h
    refine nx_ki (nx_runS (As := [.int x2]) (rest := []) X hS hP (c_X10_isFace l E H.size _ x2 _ hc_3) nx_FA qS_RX10_129 ⟨rfl, rfl⟩ ⟨Nat.le_of_ble_eq_true rfl, Nat.le_of_ble_eq_true rfl⟩ ⟨Nat.zero_le _, Nat.zero_le _⟩ rfl rfl hl.1 (Nat.le_of_ble_eq_true rfl) dX10_stance_8) hS nx_FA (fun H locs hP hS => ?_)
    refine lv_if_ne (tgt := 17) hx hb dX10_stance_11 (by decide) (fun hc => ?_) (fun hc => ?_)
    · have h := nx_if h hc
      refine lv_iload_n hx hb dX10_stance_17 rfl (lv_at hl 2 rfl) ?_
      refine lv_iload_n hx hb dX10_stance_18 rfl (lv_at hl 1 rfl) ?_
      refine lv_icmp_eq (tgt := 30) hx hb dX10_stance_19 (by decide) (fun hc => ?_) (fun hc => ?_)
      · have h := nx_it h hc
        refine lv_bipush (v := (-9)) hx hb dX10_stance_30 (by decide) ?_
        refine lv_goto (tgt := 40) hx hb dX10_stance_32 (by decide) ?_
        exact kr 40 ls (-9) () H locs dX10_stance_40 (Option.some.inj h) hP hS
      · have h := nx_if h hc
        refine lv_iload_n hx hb dX10_stance_22 rfl (lv_at hl 2 rfl) ?_
        refine lv_bipush (v := 7) hx hb dX10_stance_23 (by decide) ?_
        refine lv_iload_n hx hb dX10_stance_25 rfl (lv_at hl 1 rfl) ?_
        refine lv_isub hx hb dX10_stance_26 ?_
        refine lv_icmp_ne (tgt := 35) hx hb dX10_stance_27 (by decide) (fun hc => ?_) (fun hc => ?_)
        · have h := nx_if h hc
          refine lv_iload_n hx hb dX10_stance_35 rfl (lv_at hl 1 rfl) ?_
          refine lv_iload_n hx hb dX10_stance_36 rfl (lv_at hl 2 rfl) ?_
          obtain ⟨r_6, hc_5, h⟩ := nx_bd h
          refine nx_ki (nx_runS (As := [.int x1, .int x2]) (rest := []) X hS hP (c_X3_numbered l E H.size _ x1 x2 _ hc_5) nx_FA qS_RX10_132 ⟨rfl, rfl⟩ ⟨Nat.le_of_ble_eq_true rfl, Nat.le_of_ble_eq_true rfl⟩ ⟨Nat.zero_le _, Nat.zero_le _⟩ rfl rfl hl.1 (Nat.le_of_ble_eq_true rfl) dX10_stance_37) hS nx_FA (fun H locs hP hS => ?_)
          exact kr 40 ls r_6 () H locs dX10_stance_40 (Option.some.inj h) hP hS
        · have h := nx_it h hc
          refine lv_bipush (v := (-9)) hx hb dX10_stance_30 (by decide) ?_
          refine lv_goto (tgt := 40) hx hb dX10_stance_32 (by decide) ?_
          exact kr 40 ls (-9) () H locs dX10_stance_40 (Option.some.inj h) hP hS
    · have h := nx_it h hc
      refine lv_bipush (v := (-2)) hx hb dX10_stance_14 (by decide) ?_
      exact kr 16 ls (-2) () H locs dX10_stance_16 (Option.some.inj h) hP hS
def f_J7_fill_53178_r7_b5 (x1 : Int32) (x3 : Int32) (rec : (Int32 × (Nat → Int32)) → Option ((Nat → Int32))) (x2 : Int32) (dist : Nat → Int32) : Option ((Nat → Int32)) :=
  if x3 ≤ x2 then (some dist) else ((nx_ck 600 x2).bind fun _ => rec ((x2 + 1), (upd dist x2.toNatClampNeg x1)))
def f_J7_fill_53178_r7_l5 (x1 : Int32) (x3 : Int32) : Nat → (Int32 × (Nat → Int32)) → Option ((Nat → Int32)) := nx_lp (fun rec z => f_J7_fill_53178_r7_b5 x1 x3 rec z.1 z.2)
def f_J7_fill_53178_r7 (N : Nat) (x1 : Int32) (dist : Nat → Int32) : Option ((Nat → Int32)) :=
  (f_J7_fill_53178_r7_l5 x1 600 N (0, dist)).bind fun z_2 => some z_2
set_option maxHeartbeats 4000000 in
set_option maxRecDepth 100000 in
theorem c_J7_fill_53178_r7 (l : Launch) (N : Nat) (E : nx_E) (sz : Nat) (a : Nat → Nat) (size : Int32) (on : Int32) (kinds : Nat → Int32) (marks : Nat → Int32) (nb : Nat → Int32) (reached : Int32) (dist : Nat → Int32) (lastW : Nat → Int32) (par : Nat → Int32) (ord : Nat → Int32) (paths : Nat → Int64) (costs : Nat → Int32) (wanted : Int32) (tlen : Int32) (onlyF : Int32) (found : Int32) (steps : Nat → Int32) (plen : Int32) (rowW : Nat → Int32) (rowS : Nat → Int32) (tally : Nat → Int32) (x1 : Int32) (hI : nx_inj a 24) (o : (Nat → Int32)) (h : f_J7_fill_53178_r7 N x1 dist = some o) : Met l yJ7_fill_53178 (.code yJ7_fill_53178 cJ7_fill_53178 4 none :: nx_T) (nx_rm 0 0) (va_Pc [.ref (a 7), .int x1] (nx_P E (nx_A a 24 sz) sz (cW E a size on kinds marks nb reached dist lastW par ord paths costs wanted tlen onlyF found steps plen rowW rowS tally))) (va_Qv (fun u => u = o) (fun u t => va_P E.1 vwCl (cW E a size on kinds marks nb reached u lastW par ord paths costs wanted tlen onlyF found steps plen rowW rowS tally) t.heap) (nx_A a 24 sz)) 0 0 (nx_A a 24 sz) := by
  refine nx_enV (fun u => u = o) (fun (u : (Nat → Int32)) => (cW E a size on kinds marks nb reached u lastW par ord paths costs wanted tlen onlyF found steps plen rowW rowS tally)) (by decide) (Nat.le_of_ble_eq_true rfl) ?_
  intro p e s m below meth c Q X kr hsz hP ls hl
  subst hsz
  generalize hargs : (List.toArray [.ref (a 7), .int x1] : Array Value) = args at X kr ⊢
  clear hargs
  obtain ⟨⟨hx, hb, hml, hown, hts⟩, hK, hSt, hNz⟩ := id X
  have hS : va_S (nx_A a 24 s.heap.size) s.heap s.heap [] := va_S.rf
  have hl : lv_has ls 4 [(0, .ref (a 7)), (1, .int x1)] := hl
  have L5 : ∀ (x1 : Int32) (x3 : Int32) (n : Nat) (x2 : Int32) (dist : Nat → Int32) (z : ((Nat → Int32))), f_J7_fill_53178_r7_l5 x1 x3 n (x2, dist) = some z → ∀ (H : Heap) (locs : List Loc) (ls : Array Slot), va_P E.1 vwCl (cW E a size on kinds marks nb reached dist lastW par ord paths costs wanted tlen onlyF found steps plen rowW rowS tally) H → va_S (nx_A a 24 s.heap.size) s.heap H locs → lv_has ls 4 [(0, .ref (a 7)), (1, .int x1), (2, .int x2), (3, .int x3)] → ∀ (kR : ∀ (H : Heap) (locs : List Loc) (ls : Array Slot), va_P E.1 vwCl (cW E a size on kinds marks nb reached z lastW par ord paths costs wanted tlen onlyF found steps plen rowW rowS tally) H → va_S (nx_A a 24 s.heap.size) s.heap H locs → lv_has ls 4 [(0, .ref (a 7))] → W p l e (nx_rm 0 0) s m args below meth c H locs 0 0 Q (F0 m 20 ls [])), W p l e (nx_rm 0 0) s m args below meth c H locs 0 0 Q (F0 m 5 ls []) := by
   intro x1 x3 n
   induction n with
   | zero => intro x2 dist z h; exact nomatch (show none = some z from h)
   | succ n ih =>
    intro x2 dist z h H locs ls hP hS hl kR
    have h : f_J7_fill_53178_r7_b5 x1 x3 (f_J7_fill_53178_r7_l5 x1 x3 n) x2 dist = some z := h
    unfold f_J7_fill_53178_r7_b5 at h
    refine lv_iload_n hx hb dJ7_fill_53178_5 rfl (lv_at hl 2 rfl) ?_
    refine lv_iload_n hx hb dJ7_fill_53178_6 rfl (lv_at hl 3 rfl) ?_
    refine lv_icmp_ge (tgt := 20) hx hb dJ7_fill_53178_7 (by decide) (fun hc => ?_) (fun hc => ?_)
    · have h := nx_it h hc
      obtain rfl := Option.some.inj h
      exact kR H locs ls hP hS (lv_sub hl [0] rfl)
    · have h := nx_if h hc
      refine lv_aload_n hx hb dJ7_fill_53178_10 rfl (lv_at hl 0 rfl) ?_
      refine lv_iload_n hx hb dJ7_fill_53178_11 rfl (lv_at hl 2 rfl) ?_
      refine lv_iload_n hx hb dJ7_fill_53178_12 rfl (lv_at hl 1 rfl) ?_
      obtain ⟨hv_1, h⟩ := nx_cb h
      refine nx_st X hI cW_ad hP hS 7 rfl hv_1 dJ7_fill_53178_13 (fun H locs hP hS => ?_)
      have hP : va_P E.1 vwCl (cW E a size on kinds marks nb reached (upd dist x2.toNatClampNeg x1) lastW par ord paths costs wanted tlen onlyF found steps plen rowW rowS tally) H := hP
      refine lv_iinc (v := (x2 + 1)) (lv' := [(2, .int (x2 + 1)), (0, .ref (a 7)), (1, .int x1), (3, .int x3)]) hx hb dJ7_fill_53178_14 hl (k := 2) rfl rfl (by decide) rfl (fun ls hl => ?_)
      refine lv_goto (tgt := 5) hx hb dJ7_fill_53178_17 (by decide) ?_
      exact ih _ _ z h H locs ls hP hS (lv_sub hl [1, 2, 0, 3] rfl) kR
  unfold f_J7_fill_53178_r7 at h
  suffices hw : ∀ (H : Heap) (locs : List Loc), va_P E.1 vwCl (cW E a size on kinds marks nb reached dist lastW par ord paths costs wanted tlen onlyF found steps plen rowW rowS tally) H → va_S (nx_A a 24 s.heap.size) s.heap H locs → W p l e (nx_rm 0 0) s m args below meth c H locs 0 0 Q (F0 m 0 ls []) from hw _ _ hP va_S.rf
  intro H locs hP hS
  refine lv_iconst (v := 0) hx hb dJ7_fill_53178_0 (by decide) ?_
  refine lv_istore_n (lv' := [(2, .int 0), (0, .ref (a 7)), (1, .int x1)]) hx hb dJ7_fill_53178_1 rfl hl (by decide) rfl (fun ls hl => ?_)
  refine lv_aload_n hx hb dJ7_fill_53178_2 rfl (lv_at hl 1 rfl) ?_
  refine nx_al (v := 600) X hP 7 rfl rfl dJ7_fill_53178_3 ?_
  refine lv_istore_n (lv' := [(3, .int 600), (2, .int 0), (0, .ref (a 7)), (1, .int x1)]) hx hb dJ7_fill_53178_4 rfl hl (by decide) rfl (fun ls hl => ?_)
  obtain ⟨z_2, hz_3, h⟩ := nx_bd h
  refine L5 _ _ N _ _ _ hz_3 H locs ls hP hS (lv_sub hl [2, 3, 1, 0] rfl) (fun H locs ls hP hS hl => ?_)
  exact kr 20 ls z_2 H locs dJ7_fill_53178_20 (Option.some.inj h) hP hS
def f_X8_forget (N : Nat)  (reached : Int32) (dist : Nat → Int32) : Option (Int32 × (Nat → Int32)) :=
  (f_J7_fill_53178_r7 N (-1) dist).bind fun k_2 => some (0, k_2)
set_option maxHeartbeats 4000000 in
set_option maxRecDepth 100000 in
theorem c_X8_forget (l : Launch) (N : Nat) (E : nx_E) (sz : Nat) (a : Nat → Nat) (size : Int32) (on : Int32) (kinds : Nat → Int32) (marks : Nat → Int32) (nb : Nat → Int32) (reached : Int32) (dist : Nat → Int32) (lastW : Nat → Int32) (par : Nat → Int32) (ord : Nat → Int32) (paths : Nat → Int64) (costs : Nat → Int32) (wanted : Int32) (tlen : Int32) (onlyF : Int32) (found : Int32) (steps : Nat → Int32) (plen : Int32) (rowW : Nat → Int32) (rowS : Nat → Int32) (tally : Nat → Int32)  (hI : nx_inj a 24) (o : Int32 × (Nat → Int32)) (h : f_X8_forget N reached dist = some o) : Met l yX8_forget (.code yX8_forget cX8_forget 1 none :: nx_T) (nx_rm 1 23) (va_Pc [.ref (a 6)] (nx_P E (nx_A a 24 sz) sz (cW E a size on kinds marks nb reached dist lastW par ord paths costs wanted tlen onlyF found steps plen rowW rowS tally))) (va_Qv (fun u => u = o) (fun u t => va_P E.1 vwCl (cW E a size on kinds marks nb (u.1) (u.2) lastW par ord paths costs wanted tlen onlyF found steps plen rowW rowS tally) t.heap) (nx_A a 24 sz)) 0 0 (nx_A a 24 sz) := by
  refine nx_enV (fun u => u = o) (fun (u : Int32 × (Nat → Int32)) => (cW E a size on kinds marks nb (u.1) (u.2) lastW par ord paths costs wanted tlen onlyF found steps plen rowW rowS tally)) (by decide) (Nat.le_of_ble_eq_true rfl) ?_
  intro p e s m below meth c Q X kr hsz hP ls hl
  subst hsz
  generalize hargs : (List.toArray [.ref (a 6)] : Array Value) = args at X kr ⊢
  clear hargs
  obtain ⟨⟨hx, hb, hml, hown, hts⟩, hK, hSt, hNz⟩ := id X
  have hS : va_S (nx_A a 24 s.heap.size) s.heap s.heap [] := va_S.rf
  have hl : lv_has ls 1 [(0, .ref (a 6))] := hl
  unfold f_X8_forget at h
  suffices hw : ∀ (H : Heap) (locs : List Loc), va_P E.1 vwCl (cW E a size on kinds marks nb reached dist lastW par ord paths costs wanted tlen onlyF found steps plen rowW rowS tally) H → va_S (nx_A a 24 s.heap.size) s.heap H locs → W p l e (nx_rm 1 23) s m args below meth c H locs 0 0 Q (F0 m 0 ls []) from hw _ _ hP va_S.rf
  intro H locs hP hS
  refine lv_aload_n hx hb dX8_forget_0 rfl (lv_at hl 0 rfl) ?_
  refine nx_gf X hP uw_X8 (ci := 7) rfl 6 rfl 0 (by decide) wf_RX8_9 rfl dX8_forget_1 ?_
  refine lv_iconst (v := (-1)) hx hb dX8_forget_4 (by decide) ?_
  obtain ⟨k_2, hc_1, h⟩ := nx_bd h
  refine nx_kv (nx_runS (As := [.ref (a 7), .int (-1)]) (rest := []) X hS hP (c_J7_fill_53178_r7 l N E H.size a size on kinds marks nb reached dist lastW par ord paths costs wanted tlen onlyF found steps plen rowW rowS tally (-1) hI _ hc_1) (nx_Am hS.1) qS_RX8_28 ⟨rfl, rfl⟩ ⟨Nat.le_of_ble_eq_true rfl, Nat.le_of_ble_eq_true rfl⟩ ⟨Nat.zero_le _, Nat.zero_le _⟩ rfl rfl hl.1 (Nat.le_of_ble_eq_true rfl) dX8_forget_5) hS (nx_Am hS.1) (fun H locs hP hS => ?_)
  have hP : va_P E.1 vwCl (cW E a size on kinds marks nb reached k_2 lastW par ord paths costs wanted tlen onlyF found steps plen rowW rowS tally) H := hP
  refine lv_aload_n hx hb dX8_forget_8 rfl (lv_at hl 0 rfl) ?_
  refine lv_iconst (v := 0) hx hb dX8_forget_9 (by decide) ?_
  refine nx_pf (ty := .int) (v := .int 0) X hI cW_ad hP hS uw_X8 tyX8 tyX8_ok nmX8 (ci := 7) rfl 6 rfl 5 (by decide) wf_RX8_34 rfl (by decide +kernel) rfl rfl (Nat.le_of_ble_eq_true rfl) dX8_forget_10 (fun H locs hP hS => ?_)
  have hP : va_P E.1 vwCl (cW E a size on kinds marks nb 0 k_2 lastW par ord paths costs wanted tlen onlyF found steps plen rowW rowS tally) H := hP
  exact kr 13 ls (0, k_2) H locs dX8_forget_13 (Option.some.inj h) hP hS
def f_X8_isState (x0 : Int32)  : Option (Int32) :=
  if x0 < 0 then (some 0) else (if 600 ≤ x0 then (some 0) else (some 1))
set_option maxHeartbeats 4000000 in
set_option maxRecDepth 100000 in
theorem c_X8_isState (l : Launch) (E : nx_E) (sz : Nat) (ws : va_W) (x0 : Int32) (o : Int32) (h : f_X8_isState x0 = some o) : Met l yX8_isState (.code yX8_isState cX8_isState 1 (some .boolean) :: nx_T) (nx_rm 0 0) (va_Pc [.int x0] (nx_P E (nx_F) sz ws)) (va_Qi (fun v (_ : Unit) => v = o) (fun _ t => va_P E.1 vwCl ws t.heap) (nx_F)) 0 0 (nx_F) := by
  refine nx_enZ (fun v (_ : Unit) => v = o) (fun (_ : Unit) => ws) (by decide) (Nat.le_of_ble_eq_true rfl) ?_
  intro p e s m below meth c Q X kr hsz hP ls hl
  subst hsz
  generalize hargs : (List.toArray [.int x0] : Array Value) = args at X kr ⊢
  clear hargs
  obtain ⟨⟨hx, hb, hml, hown, hts⟩, hK, hSt, hNz⟩ := id X
  have hS : va_S (nx_F) s.heap s.heap [] := va_S.rf
  have hl : lv_has ls 1 [(0, .int x0)] := hl
  unfold f_X8_isState at h
  suffices hw : ∀ (H : Heap) (locs : List Loc), va_P E.1 vwCl ws H → va_S (nx_F) s.heap H locs → W p l e (nx_rm 0 0) s m args below meth c H locs 0 0 Q (F0 m 0 ls []) from hw _ _ hP va_S.rf
  intro H locs hP hS
  refine lv_iload_n hx hb dX8_isState_0 rfl (lv_at hl 0 rfl) ?_
  refine lv_if_lt (tgt := 15) hx hb dX8_isState_1 (by decide) (fun hc => ?_) (fun hc => ?_)
  · have h := nx_it h hc
    refine lv_iconst (v := 0) hx hb dX8_isState_15 (by decide) ?_
    exact kr 16 ls 0 () H locs dX8_isState_16 (Or.inl rfl) (Option.some.inj h) hP hS
  · have h := nx_if h hc
    refine lv_iload_n hx hb dX8_isState_4 rfl (lv_at hl 0 rfl) ?_
    refine lv_sipush (v := 600) hx hb dX8_isState_5 (by decide) ?_
    refine lv_icmp_ge (tgt := 15) hx hb dX8_isState_8 (by decide) (fun hc => ?_) (fun hc => ?_)
    · have h := nx_it h hc
      refine lv_iconst (v := 0) hx hb dX8_isState_15 (by decide) ?_
      exact kr 16 ls 0 () H locs dX8_isState_16 (Or.inl rfl) (Option.some.inj h) hP hS
    · have h := nx_if h hc
      refine lv_iconst (v := 1) hx hb dX8_isState_11 (by decide) ?_
      refine lv_goto (tgt := 16) hx hb dX8_isState_12 (by decide) ?_
      exact kr 16 ls 1 () H locs dX8_isState_16 (Or.inr rfl) (Option.some.inj h) hP hS
def f_X8_add (x1 : Int32) (x2 : Int32) (x3 : Int32) (x4 : Int32) (reached : Int32) (dist : Nat → Int32) (lastW : Nat → Int32) (par : Nat → Int32) (ord : Nat → Int32) (paths : Nat → Int64) : Option (Int32 × (Nat → Int32) × (Nat → Int32) × (Nat → Int32) × (Nat → Int32) × (Nat → Int64)) :=
  (f_X8_isState x1).bind fun r_2 => if r_2 = 0 then (some (reached, dist, lastW, par, ord, paths)) else (if reached < 600 then ((nx_ck 600 x1).bind fun _ => (nx_ck 600 x1).bind fun _ => (nx_ck 600 x1).bind fun _ => (nx_ck 600 x1).bind fun _ => (nx_ck 600 reached).bind fun _ => some ((reached + 1), (upd dist x1.toNatClampNeg x2), (upd lastW x1.toNatClampNeg x4), (upd par x1.toNatClampNeg x3), (upd ord reached.toNatClampNeg x1), (vp_updL paths x1.toNatClampNeg 0))) else (some (reached, dist, lastW, par, ord, paths)))
set_option maxHeartbeats 4000000 in
set_option maxRecDepth 100000 in
theorem c_X8_add (l : Launch) (E : nx_E) (sz : Nat) (a : Nat → Nat) (size : Int32) (on : Int32) (kinds : Nat → Int32) (marks : Nat → Int32) (nb : Nat → Int32) (reached : Int32) (dist : Nat → Int32) (lastW : Nat → Int32) (par : Nat → Int32) (ord : Nat → Int32) (paths : Nat → Int64) (costs : Nat → Int32) (wanted : Int32) (tlen : Int32) (onlyF : Int32) (found : Int32) (steps : Nat → Int32) (plen : Int32) (rowW : Nat → Int32) (rowS : Nat → Int32) (tally : Nat → Int32) (x1 : Int32) (x2 : Int32) (x3 : Int32) (x4 : Int32) (hI : nx_inj a 24) (o : Int32 × (Nat → Int32) × (Nat → Int32) × (Nat → Int32) × (Nat → Int32) × (Nat → Int64)) (h : f_X8_add x1 x2 x3 x4 reached dist lastW par ord paths = some o) : Met l yX8_add (.code yX8_add cX8_add 5 none :: nx_T) (nx_rm 1 20) (va_Pc [.ref (a 6), .int x1, .int x2, .int x3, .int x4] (nx_P E (nx_A a 24 sz) sz (cW E a size on kinds marks nb reached dist lastW par ord paths costs wanted tlen onlyF found steps plen rowW rowS tally))) (va_Qv (fun u => u = o) (fun u t => va_P E.1 vwCl (cW E a size on kinds marks nb (u.1) (u.2.1) (u.2.2.1) (u.2.2.2.1) (u.2.2.2.2.1) (u.2.2.2.2.2) costs wanted tlen onlyF found steps plen rowW rowS tally) t.heap) (nx_A a 24 sz)) 0 0 (nx_A a 24 sz) := by
  refine nx_enV (fun u => u = o) (fun (u : Int32 × (Nat → Int32) × (Nat → Int32) × (Nat → Int32) × (Nat → Int32) × (Nat → Int64)) => (cW E a size on kinds marks nb (u.1) (u.2.1) (u.2.2.1) (u.2.2.2.1) (u.2.2.2.2.1) (u.2.2.2.2.2) costs wanted tlen onlyF found steps plen rowW rowS tally)) (by decide) (Nat.le_of_ble_eq_true rfl) ?_
  intro p e s m below meth c Q X kr hsz hP ls hl
  subst hsz
  generalize hargs : (List.toArray [.ref (a 6), .int x1, .int x2, .int x3, .int x4] : Array Value) = args at X kr ⊢
  clear hargs
  obtain ⟨⟨hx, hb, hml, hown, hts⟩, hK, hSt, hNz⟩ := id X
  have hS : va_S (nx_A a 24 s.heap.size) s.heap s.heap [] := va_S.rf
  have hl : lv_has ls 5 [(0, .ref (a 6)), (1, .int x1), (2, .int x2), (3, .int x3), (4, .int x4)] := hl
  unfold f_X8_add at h
  suffices hw : ∀ (H : Heap) (locs : List Loc), va_P E.1 vwCl (cW E a size on kinds marks nb reached dist lastW par ord paths costs wanted tlen onlyF found steps plen rowW rowS tally) H → va_S (nx_A a 24 s.heap.size) s.heap H locs → W p l e (nx_rm 1 20) s m args below meth c H locs 0 0 Q (F0 m 0 ls []) from hw _ _ hP va_S.rf
  intro H locs hP hS
  refine lv_iload_n hx hb dX8_add_0 rfl (lv_at hl 1 rfl) ?_
  obtain ⟨r_2, hc_1, h⟩ := nx_bd h
  refine nx_ki (nx_runS (As := [.int x1]) (rest := []) X hS hP (c_X8_isState l E H.size _ x1 _ hc_1) nx_FA qS_RX8_38 ⟨rfl, rfl⟩ ⟨Nat.le_of_ble_eq_true rfl, Nat.le_of_ble_eq_true rfl⟩ ⟨Nat.zero_le _, Nat.zero_le _⟩ rfl rfl hl.1 (Nat.le_of_ble_eq_true rfl) dX8_add_1) hS nx_FA (fun H locs hP hS => ?_)
  refine lv_if_eq (tgt := 17) hx hb dX8_add_4 (by decide) (fun hc => ?_) (fun hc => ?_)
  · have h := nx_it h hc
    exact kr 17 ls (reached, dist, lastW, par, ord, paths) H locs dX8_add_17 (Option.some.inj h) hP hS
  · have h := nx_if h hc
    refine lv_aload_n hx hb dX8_add_7 rfl (lv_at hl 0 rfl) ?_
    refine nx_gf X hP uw_X8 (ci := 7) rfl 6 rfl 5 (by decide) wf_RX8_34 rfl dX8_add_8 ?_
    refine lv_sipush (v := 600) hx hb dX8_add_11 (by decide) ?_
    refine lv_icmp_lt (tgt := 18) hx hb dX8_add_14 (by decide) (fun hc => ?_) (fun hc => ?_)
    · have h := nx_it h hc
      refine lv_aload_n hx hb dX8_add_18 rfl (lv_at hl 0 rfl) ?_
      refine nx_gf X hP uw_X8 (ci := 7) rfl 6 rfl 0 (by decide) wf_RX8_9 rfl dX8_add_19 ?_
      refine lv_iload_n hx hb dX8_add_22 rfl (lv_at hl 1 rfl) ?_
      refine lv_iload_n hx hb dX8_add_23 rfl (lv_at hl 2 rfl) ?_
      obtain ⟨hv_3, h⟩ := nx_cb h
      refine nx_st X hI cW_ad hP hS 7 rfl hv_3 dX8_add_24 (fun H locs hP hS => ?_)
      have hP : va_P E.1 vwCl (cW E a size on kinds marks nb reached (upd dist x1.toNatClampNeg x2) lastW par ord paths costs wanted tlen onlyF found steps plen rowW rowS tally) H := hP
      refine lv_aload_n hx hb dX8_add_25 rfl (lv_at hl 0 rfl) ?_
      refine nx_gf X hP uw_X8 (ci := 7) rfl 6 rfl 2 (by decide) wf_RX8_18 rfl dX8_add_26 ?_
      refine lv_iload_n hx hb dX8_add_29 rfl (lv_at hl 1 rfl) ?_
      refine lv_iload_n hx hb dX8_add_30 rfl (lv_at hl 3 rfl) ?_
      obtain ⟨hv_4, h⟩ := nx_cb h
      refine nx_st X hI cW_ad hP hS 9 rfl hv_4 dX8_add_31 (fun H locs hP hS => ?_)
      have hP : va_P E.1 vwCl (cW E a size on kinds marks nb reached (upd dist x1.toNatClampNeg x2) lastW (upd par x1.toNatClampNeg x3) ord paths costs wanted tlen onlyF found steps plen rowW rowS tally) H := hP
      refine lv_aload_n hx hb dX8_add_32 rfl (lv_at hl 0 rfl) ?_
      refine nx_gf X hP uw_X8 (ci := 7) rfl 6 rfl 1 (by decide) wf_RX8_15 rfl dX8_add_33 ?_
      refine lv_iload_n hx hb dX8_add_36 rfl (lv_at hl 1 rfl) ?_
      refine lv_iload hx hb dX8_add_37 (lv_at hl 4 rfl) ?_
      obtain ⟨hv_5, h⟩ := nx_cb h
      refine nx_st X hI cW_ad hP hS 8 rfl hv_5 dX8_add_39 (fun H locs hP hS => ?_)
      have hP : va_P E.1 vwCl (cW E a size on kinds marks nb reached (upd dist x1.toNatClampNeg x2) (upd lastW x1.toNatClampNeg x4) (upd par x1.toNatClampNeg x3) ord paths costs wanted tlen onlyF found steps plen rowW rowS tally) H := hP
      refine lv_aload_n hx hb dX8_add_40 rfl (lv_at hl 0 rfl) ?_
      refine nx_gf X hP uw_X8 (ci := 7) rfl 6 rfl 4 (by decide) wf_RX8_24 rfl dX8_add_41 ?_
      refine lv_iload_n hx hb dX8_add_44 rfl (lv_at hl 1 rfl) ?_
      refine lv_lconst (v := 0) hx hb dX8_add_45 (by decide) ?_
      obtain ⟨hv_6, h⟩ := nx_cb h
      refine nx_stl X hI cW_ad hP hS 11 rfl hv_6 dX8_add_46 (fun H locs hP hS => ?_)
      have hP : va_P E.1 vwCl (cW E a size on kinds marks nb reached (upd dist x1.toNatClampNeg x2) (upd lastW x1.toNatClampNeg x4) (upd par x1.toNatClampNeg x3) ord (vp_updL paths x1.toNatClampNeg 0) costs wanted tlen onlyF found steps plen rowW rowS tally) H := hP
      refine lv_aload_n hx hb dX8_add_47 rfl (lv_at hl 0 rfl) ?_
      refine nx_gf X hP uw_X8 (ci := 7) rfl 6 rfl 3 (by decide) wf_RX8_21 rfl dX8_add_48 ?_
      refine lv_aload_n hx hb dX8_add_51 rfl (lv_at hl 0 rfl) ?_
      refine nx_gf X hP uw_X8 (ci := 7) rfl 6 rfl 5 (by decide) wf_RX8_34 rfl dX8_add_52 ?_
      refine lv_iload_n hx hb dX8_add_55 rfl (lv_at hl 1 rfl) ?_
      obtain ⟨hv_7, h⟩ := nx_cb h
      refine nx_st X hI cW_ad hP hS 10 rfl hv_7 dX8_add_56 (fun H locs hP hS => ?_)
      have hP : va_P E.1 vwCl (cW E a size on kinds marks nb reached (upd dist x1.toNatClampNeg x2) (upd lastW x1.toNatClampNeg x4) (upd par x1.toNatClampNeg x3) (upd ord reached.toNatClampNeg x1) (vp_updL paths x1.toNatClampNeg 0) costs wanted tlen onlyF found steps plen rowW rowS tally) H := hP
      refine lv_aload_n hx hb dX8_add_57 rfl (lv_at hl 0 rfl) ?_
      refine lv_dup hx hb dX8_add_58 rfl ?_
      refine nx_gf X hP uw_X8 (ci := 7) rfl 6 rfl 5 (by decide) wf_RX8_34 rfl dX8_add_59 ?_
      refine lv_iconst (v := 1) hx hb dX8_add_62 (by decide) ?_
      refine lv_iadd hx hb dX8_add_63 ?_
      refine nx_pf (ty := .int) (v := .int (reached + 1)) X hI cW_ad hP hS uw_X8 tyX8 tyX8_ok nmX8 (ci := 7) rfl 6 rfl 5 (by decide) wf_RX8_34 rfl (by decide +kernel) rfl rfl (Nat.le_of_ble_eq_true rfl) dX8_add_64 (fun H locs hP hS => ?_)
      have hP : va_P E.1 vwCl (cW E a size on kinds marks nb (reached + 1) (upd dist x1.toNatClampNeg x2) (upd lastW x1.toNatClampNeg x4) (upd par x1.toNatClampNeg x3) (upd ord reached.toNatClampNeg x1) (vp_updL paths x1.toNatClampNeg 0) costs wanted tlen onlyF found steps plen rowW rowS tally) H := hP
      exact kr 67 ls ((reached + 1), (upd dist x1.toNatClampNeg x2), (upd lastW x1.toNatClampNeg x4), (upd par x1.toNatClampNeg x3), (upd ord reached.toNatClampNeg x1), (vp_updL paths x1.toNatClampNeg 0)) H locs dX8_add_67 (Option.some.inj h) hP hS
    · have h := nx_if h hc
      exact kr 17 ls (reached, dist, lastW, par, ord, paths) H locs dX8_add_17 (Option.some.inj h) hP hS
def f_X8_enter (x1 : Int32) (reached : Int32) (dist : Nat → Int32) (lastW : Nat → Int32) (par : Nat → Int32) (ord : Nat → Int32) (paths : Nat → Int64) : Option (Int32 × (Nat → Int32) × (Nat → Int32) × (Nat → Int32) × (Nat → Int32) × (Nat → Int64)) :=
  (f_X8_isState x1).bind fun r_2 => if r_2 = 0 then (some (reached, dist, lastW, par, ord, paths)) else ((nx_rd dist 600 x1).bind fun _ => if (dist x1.toNatClampNeg) = (-1) then ((f_X8_add x1 0 (-1) (-1) reached dist lastW par ord paths).bind fun t_12 => (nx_ck 600 x1).bind fun _ => some (t_12.1, t_12.2.1, t_12.2.2.1, t_12.2.2.2.1, t_12.2.2.2.2.1, (vp_updL t_12.2.2.2.2.2 x1.toNatClampNeg 1))) else (some (reached, dist, lastW, par, ord, paths)))
set_option maxHeartbeats 4000000 in
set_option maxRecDepth 100000 in
theorem c_X8_enter (l : Launch) (E : nx_E) (sz : Nat) (a : Nat → Nat) (size : Int32) (on : Int32) (kinds : Nat → Int32) (marks : Nat → Int32) (nb : Nat → Int32) (reached : Int32) (dist : Nat → Int32) (lastW : Nat → Int32) (par : Nat → Int32) (ord : Nat → Int32) (paths : Nat → Int64) (costs : Nat → Int32) (wanted : Int32) (tlen : Int32) (onlyF : Int32) (found : Int32) (steps : Nat → Int32) (plen : Int32) (rowW : Nat → Int32) (rowS : Nat → Int32) (tally : Nat → Int32) (x1 : Int32) (hI : nx_inj a 24) (o : Int32 × (Nat → Int32) × (Nat → Int32) × (Nat → Int32) × (Nat → Int32) × (Nat → Int64)) (h : f_X8_enter x1 reached dist lastW par ord paths = some o) : Met l yX8_enter (.code yX8_enter cX8_enter 2 none :: nx_T) (nx_rm 2 44) (va_Pc [.ref (a 6), .int x1] (nx_P E (nx_A a 24 sz) sz (cW E a size on kinds marks nb reached dist lastW par ord paths costs wanted tlen onlyF found steps plen rowW rowS tally))) (va_Qv (fun u => u = o) (fun u t => va_P E.1 vwCl (cW E a size on kinds marks nb (u.1) (u.2.1) (u.2.2.1) (u.2.2.2.1) (u.2.2.2.2.1) (u.2.2.2.2.2) costs wanted tlen onlyF found steps plen rowW rowS tally) t.heap) (nx_A a 24 sz)) 0 0 (nx_A a 24 sz) := by
  refine nx_enV (fun u => u = o) (fun (u : Int32 × (Nat → Int32) × (Nat → Int32) × (Nat → Int32) × (Nat → Int32) × (Nat → Int64)) => (cW E a size on kinds marks nb (u.1) (u.2.1) (u.2.2.1) (u.2.2.2.1) (u.2.2.2.2.1) (u.2.2.2.2.2) costs wanted tlen onlyF found steps plen rowW rowS tally)) (by decide) (Nat.le_of_ble_eq_true rfl) ?_
  intro p e s m below meth c Q X kr hsz hP ls hl
  subst hsz
  generalize hargs : (List.toArray [.ref (a 6), .int x1] : Array Value) = args at X kr ⊢
  clear hargs
  obtain ⟨⟨hx, hb, hml, hown, hts⟩, hK, hSt, hNz⟩ := id X
  have hS : va_S (nx_A a 24 s.heap.size) s.heap s.heap [] := va_S.rf
  have hl : lv_has ls 2 [(0, .ref (a 6)), (1, .int x1)] := hl
  unfold f_X8_enter at h
  suffices hw : ∀ (H : Heap) (locs : List Loc), va_P E.1 vwCl (cW E a size on kinds marks nb reached dist lastW par ord paths costs wanted tlen onlyF found steps plen rowW rowS tally) H → va_S (nx_A a 24 s.heap.size) s.heap H locs → W p l e (nx_rm 2 44) s m args below meth c H locs 0 0 Q (F0 m 0 ls []) from hw _ _ hP va_S.rf
  intro H locs hP hS
  refine lv_iload_n hx hb dX8_enter_0 rfl (lv_at hl 1 rfl) ?_
  obtain ⟨r_2, hc_1, h⟩ := nx_bd h
  refine nx_ki (nx_runS (As := [.int x1]) (rest := []) X hS hP (c_X8_isState l E H.size _ x1 _ hc_1) nx_FA qS_RX8_38 ⟨rfl, rfl⟩ ⟨Nat.le_of_ble_eq_true rfl, Nat.le_of_ble_eq_true rfl⟩ ⟨Nat.zero_le _, Nat.zero_le _⟩ rfl rfl hl.1 (Nat.le_of_ble_eq_true rfl) dX8_enter_1) hS nx_FA (fun H locs hP hS => ?_)
  refine lv_if_eq (tgt := 32) hx hb dX8_enter_4 (by decide) (fun hc => ?_) (fun hc => ?_)
  · have h := nx_it h hc
    exact kr 32 ls (reached, dist, lastW, par, ord, paths) H locs dX8_enter_32 (Option.some.inj h) hP hS
  · have h := nx_if h hc
    refine lv_aload_n hx hb dX8_enter_7 rfl (lv_at hl 0 rfl) ?_
    refine nx_gf X hP uw_X8 (ci := 7) rfl 6 rfl 0 (by decide) wf_RX8_9 rfl dX8_enter_8 ?_
    refine lv_iload_n hx hb dX8_enter_11 rfl (lv_at hl 1 rfl) ?_
    obtain ⟨hv_3, h⟩ := nx_rb h
    refine nx_ld X hP 7 rfl hv_3 dX8_enter_12 ?_
    refine lv_iconst (v := (-1)) hx hb dX8_enter_13 (by decide) ?_
    refine lv_icmp_ne (tgt := 32) hx hb dX8_enter_14 (by decide) (fun hc => ?_) (fun hc => ?_)
    · have h := nx_if h hc
      exact kr 32 ls (reached, dist, lastW, par, ord, paths) H locs dX8_enter_32 (Option.some.inj h) hP hS
    · have h := nx_it h hc
      refine lv_aload_n hx hb dX8_enter_17 rfl (lv_at hl 0 rfl) ?_
      refine lv_iload_n hx hb dX8_enter_18 rfl (lv_at hl 1 rfl) ?_
      refine lv_iconst (v := 0) hx hb dX8_enter_19 (by decide) ?_
      refine lv_iconst (v := (-1)) hx hb dX8_enter_20 (by decide) ?_
      refine lv_iconst (v := (-1)) hx hb dX8_enter_21 (by decide) ?_
      obtain ⟨⟨k_6, k_7, k_8, k_9, k_10, k_11⟩, hc_5, h⟩ := nx_bd h
      refine nx_kv (nx_runV (As := [.int x1, .int 0, .int (-1), .int (-1)]) (rest := []) X hS hP (c_X8_add l E H.size a size on kinds marks nb reached dist lastW par ord paths costs wanted tlen onlyF found steps plen rowW rowS tally x1 0 (-1) (-1) hI _ hc_5) (nx_Am hS.1) qV_RX8_42 ⟨rfl, rfl⟩ ⟨Nat.le_of_ble_eq_true rfl, Nat.le_of_ble_eq_true rfl⟩ ⟨Nat.zero_le _, Nat.zero_le _⟩ 6 rfl rfl rfl rfl hl.1 (Nat.le_of_ble_eq_true rfl) dX8_enter_22) hS (nx_Am hS.1) (fun H locs hP hS => ?_)
      have hP : va_P E.1 vwCl (cW E a size on kinds marks nb k_6 k_7 k_8 k_9 k_10 k_11 costs wanted tlen onlyF found steps plen rowW rowS tally) H := hP
      refine lv_aload_n hx hb dX8_enter_25 rfl (lv_at hl 0 rfl) ?_
      refine nx_gf X hP uw_X8 (ci := 7) rfl 6 rfl 4 (by decide) wf_RX8_24 rfl dX8_enter_26 ?_
      refine lv_iload_n hx hb dX8_enter_29 rfl (lv_at hl 1 rfl) ?_
      refine lv_lconst (v := 1) hx hb dX8_enter_30 (by decide) ?_
      obtain ⟨hv_13, h⟩ := nx_cb h
      refine nx_stl X hI cW_ad hP hS 11 rfl hv_13 dX8_enter_31 (fun H locs hP hS => ?_)
      have hP : va_P E.1 vwCl (cW E a size on kinds marks nb k_6 k_7 k_8 k_9 k_10 (vp_updL k_11 x1.toNatClampNeg 1) costs wanted tlen onlyF found steps plen rowW rowS tally) H := hP
      exact kr 32 ls (k_6, k_7, k_8, k_9, k_10, (vp_updL k_11 x1.toNatClampNeg 1)) H locs dX8_enter_32 (Option.some.inj h) hP hS
