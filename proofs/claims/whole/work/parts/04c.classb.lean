def f_X2_changeKind (x1 : Int32) (x2 : Int32) (size : Int32) (kinds : Nat → Int32) : Option (Int32 × ((Nat → Int32))) :=
  (f_X2_kindOf x1 size kinds).bind fun r_2 => (f_X2_has x1 size).bind fun r_4 => if r_4 = 0 then (some (r_2, kinds)) else ((nx_ck 25 x1).bind fun _ => some (r_2, (upd kinds x1.toNatClampNeg x2)))
set_option maxHeartbeats 4000000 in
set_option maxRecDepth 100000 in
theorem c_X2_changeKind (l : Launch) (E : nx_E) (sz : Nat) (a : Nat → Nat) (size : Int32) (on : Int32) (kinds : Nat → Int32) (marks : Nat → Int32) (nb : Nat → Int32) (reached : Int32) (dist : Nat → Int32) (lastW : Nat → Int32) (par : Nat → Int32) (ord : Nat → Int32) (paths : Nat → Int64) (costs : Nat → Int32) (wanted : Int32) (tlen : Int32) (onlyF : Int32) (found : Int32) (steps : Nat → Int32) (plen : Int32) (rowW : Nat → Int32) (rowS : Nat → Int32) (tally : Nat → Int32) (x1 : Int32) (x2 : Int32) (hI : nx_inj a 24) (o : Int32 × ((Nat → Int32))) (h : f_X2_changeKind x1 x2 size kinds = some o) : Met l yX2_changeKind (.code yX2_changeKind cX2_changeKind 4 (some .int) :: nx_T) (nx_rm 1 21) (va_Pc [.ref (a 1), .int x1, .int x2] (nx_P E (nx_A a 24 sz) sz (cW E a size on kinds marks nb reached dist lastW par ord paths costs wanted tlen onlyF found steps plen rowW rowS tally))) (va_Qi (fun v u => (v, u) = o) (fun u t => va_P E.1 vwCl (cW E a size on u marks nb reached dist lastW par ord paths costs wanted tlen onlyF found steps plen rowW rowS tally) t.heap) (nx_A a 24 sz)) 0 0 (nx_A a 24 sz) := by
  refine nx_enI (fun v u => (v, u) = o) (fun (u : (Nat → Int32)) => (cW E a size on u marks nb reached dist lastW par ord paths costs wanted tlen onlyF found steps plen rowW rowS tally)) (by decide) (Nat.le_of_ble_eq_true rfl) ?_
  intro p e s m below meth c Q X kr hsz hP ls hl
  subst hsz
  generalize hargs : (List.toArray [.ref (a 1), .int x1, .int x2] : Array Value) = args at X kr ⊢
  clear hargs
  obtain ⟨⟨hx, hb, hml, hown, hts⟩, hK, hSt, hNz⟩ := id X
  have hS : va_S (nx_A a 24 s.heap.size) s.heap s.heap [] := va_S.rf
  have hl : lv_has ls 4 [(0, .ref (a 1)), (1, .int x1), (2, .int x2)] := hl
  unfold f_X2_changeKind at h
  suffices hw : ∀ (H : Heap) (locs : List Loc), va_P E.1 vwCl (cW E a size on kinds marks nb reached dist lastW par ord paths costs wanted tlen onlyF found steps plen rowW rowS tally) H → va_S (nx_A a 24 s.heap.size) s.heap H locs → W p l e (nx_rm 1 21) s m args below meth c H locs 0 0 Q (F0 m 0 ls []) from hw _ _ hP va_S.rf
  intro H locs hP hS
  refine lv_aload_n hx hb dX2_changeKind_0 rfl (lv_at hl 0 rfl) ?_
  refine lv_iload_n hx hb dX2_changeKind_1 rfl (lv_at hl 1 rfl) ?_
  obtain ⟨r_2, hc_1, h⟩ := nx_bd h
  refine nx_ki (nx_runV (As := [.int x1]) (rest := []) X hS hP (c_X2_kindOf l E H.size a size on kinds marks nb reached dist lastW par ord paths costs wanted tlen onlyF found steps plen rowW rowS tally x1 _ hc_1) nx_FA qV_RX2_42 ⟨rfl, rfl⟩ ⟨Nat.le_of_ble_eq_true rfl, Nat.le_of_ble_eq_true rfl⟩ ⟨Nat.zero_le _, Nat.zero_le _⟩ 1 rfl rfl rfl rfl hl.1 (Nat.le_of_ble_eq_true rfl) dX2_changeKind_2) hS nx_FA (fun H locs hP hS => ?_)
  refine lv_istore_n (lv' := [(3, .int r_2), (0, .ref (a 1)), (1, .int x1), (2, .int x2)]) hx hb dX2_changeKind_5 rfl hl (by decide) rfl (fun ls hl => ?_)
  refine lv_aload_n hx hb dX2_changeKind_6 rfl (lv_at hl 1 rfl) ?_
  refine lv_iload_n hx hb dX2_changeKind_7 rfl (lv_at hl 2 rfl) ?_
  obtain ⟨r_4, hc_3, h⟩ := nx_bd h
  refine nx_ki (nx_runV (As := [.int x1]) (rest := []) X hS hP (c_X2_has l E H.size a size on kinds marks nb reached dist lastW par ord paths costs wanted tlen onlyF found steps plen rowW rowS tally x1 _ hc_3) nx_FA qV_RX2_46 ⟨rfl, rfl⟩ ⟨Nat.le_of_ble_eq_true rfl, Nat.le_of_ble_eq_true rfl⟩ ⟨Nat.zero_le _, Nat.zero_le _⟩ 1 rfl rfl rfl rfl hl.1 (Nat.le_of_ble_eq_true rfl) dX2_changeKind_8) hS nx_FA (fun H locs hP hS => ?_)
  refine lv_if_eq (tgt := 21) hx hb dX2_changeKind_11 (by decide) (fun hc => ?_) (fun hc => ?_)
  · have h := nx_it h hc
    refine lv_iload_n hx hb dX2_changeKind_21 rfl (lv_at hl 0 rfl) ?_
    exact kr 22 ls r_2 kinds H locs dX2_changeKind_22 (Option.some.inj h) hP hS
  · have h := nx_if h hc
    refine lv_aload_n hx hb dX2_changeKind_14 rfl (lv_at hl 1 rfl) ?_
    refine nx_gf X hP uw_X2 (ci := 2) rfl 1 rfl 0 (by decide) wf_RX2_9 rfl dX2_changeKind_15 ?_
    refine lv_iload_n hx hb dX2_changeKind_18 rfl (lv_at hl 2 rfl) ?_
    refine lv_iload_n hx hb dX2_changeKind_19 rfl (lv_at hl 3 rfl) ?_
    obtain ⟨hv_5, h⟩ := nx_cb h
    refine nx_st X hI cW_ad hP hS 2 rfl hv_5 dX2_changeKind_20 (fun H locs hP hS => ?_)
    have hP : va_P E.1 vwCl (cW E a size on (upd kinds x1.toNatClampNeg x2) marks nb reached dist lastW par ord paths costs wanted tlen onlyF found steps plen rowW rowS tally) H := hP
    refine lv_iload_n hx hb dX2_changeKind_21 rfl (lv_at hl 0 rfl) ?_
    exact kr 22 ls r_2 (upd kinds x1.toNatClampNeg x2) H locs dX2_changeKind_22 (Option.some.inj h) hP hS
def f_X2_markOf (x1 : Int32) (size : Int32) (marks : Nat → Int32) : Option (Int32) :=
  if x1 < 0 then (some 0) else (if size ≤ x1 then (some 0) else ((nx_rd marks 25 x1).bind fun _ => some (marks x1.toNatClampNeg)))
set_option maxHeartbeats 4000000 in
set_option maxRecDepth 100000 in
theorem c_X2_markOf (l : Launch) (E : nx_E) (sz : Nat) (a : Nat → Nat) (size : Int32) (on : Int32) (kinds : Nat → Int32) (marks : Nat → Int32) (nb : Nat → Int32) (reached : Int32) (dist : Nat → Int32) (lastW : Nat → Int32) (par : Nat → Int32) (ord : Nat → Int32) (paths : Nat → Int64) (costs : Nat → Int32) (wanted : Int32) (tlen : Int32) (onlyF : Int32) (found : Int32) (steps : Nat → Int32) (plen : Int32) (rowW : Nat → Int32) (rowS : Nat → Int32) (tally : Nat → Int32) (x1 : Int32) (o : Int32) (h : f_X2_markOf x1 size marks = some o) : Met l yX2_markOf (.code yX2_markOf cX2_markOf 2 (some .int) :: nx_T) (nx_rm 0 0) (va_Pc [.ref (a 1), .int x1] (nx_P E (nx_F) sz (cW E a size on kinds marks nb reached dist lastW par ord paths costs wanted tlen onlyF found steps plen rowW rowS tally))) (va_Qi (fun v (_ : Unit) => v = o) (fun _ t => va_P E.1 vwCl (cW E a size on kinds marks nb reached dist lastW par ord paths costs wanted tlen onlyF found steps plen rowW rowS tally) t.heap) (nx_F)) 0 0 (nx_F) := by
  refine nx_enI (fun v (_ : Unit) => v = o) (fun (_ : Unit) => (cW E a size on kinds marks nb reached dist lastW par ord paths costs wanted tlen onlyF found steps plen rowW rowS tally)) (by decide) (Nat.le_of_ble_eq_true rfl) ?_
  intro p e s m below meth c Q X kr hsz hP ls hl
  subst hsz
  generalize hargs : (List.toArray [.ref (a 1), .int x1] : Array Value) = args at X kr ⊢
  clear hargs
  obtain ⟨⟨hx, hb, hml, hown, hts⟩, hK, hSt, hNz⟩ := id X
  have hS : va_S (nx_F) s.heap s.heap [] := va_S.rf
  have hl : lv_has ls 2 [(0, .ref (a 1)), (1, .int x1)] := hl
  unfold f_X2_markOf at h
  suffices hw : ∀ (H : Heap) (locs : List Loc), va_P E.1 vwCl (cW E a size on kinds marks nb reached dist lastW par ord paths costs wanted tlen onlyF found steps plen rowW rowS tally) H → va_S (nx_F) s.heap H locs → W p l e (nx_rm 0 0) s m args below meth c H locs 0 0 Q (F0 m 0 ls []) from hw _ _ hP va_S.rf
  intro H locs hP hS
  refine lv_iload_n hx hb dX2_markOf_0 rfl (lv_at hl 1 rfl) ?_
  refine lv_if_lt (tgt := 21) hx hb dX2_markOf_1 (by decide) (fun hc => ?_) (fun hc => ?_)
  · have h := nx_it h hc
    refine lv_iconst (v := 0) hx hb dX2_markOf_21 (by decide) ?_
    exact kr 22 ls 0 () H locs dX2_markOf_22 (Option.some.inj h) hP hS
  · have h := nx_if h hc
    refine lv_iload_n hx hb dX2_markOf_4 rfl (lv_at hl 1 rfl) ?_
    refine lv_aload_n hx hb dX2_markOf_5 rfl (lv_at hl 0 rfl) ?_
    refine nx_gf X hP uw_X2 (ci := 2) rfl 1 rfl 3 (by decide) wf_RX2_29 rfl dX2_markOf_6 ?_
    refine lv_icmp_ge (tgt := 21) hx hb dX2_markOf_9 (by decide) (fun hc => ?_) (fun hc => ?_)
    · have h := nx_it h hc
      refine lv_iconst (v := 0) hx hb dX2_markOf_21 (by decide) ?_
      exact kr 22 ls 0 () H locs dX2_markOf_22 (Option.some.inj h) hP hS
    · have h := nx_if h hc
      refine lv_aload_n hx hb dX2_markOf_12 rfl (lv_at hl 0 rfl) ?_
      refine nx_gf X hP uw_X2 (ci := 2) rfl 1 rfl 1 (by decide) wf_RX2_15 rfl dX2_markOf_13 ?_
      refine lv_iload_n hx hb dX2_markOf_16 rfl (lv_at hl 1 rfl) ?_
      obtain ⟨hv_1, h⟩ := nx_rb h
      refine nx_ld X hP 3 rfl hv_1 dX2_markOf_17 ?_
      refine lv_goto (tgt := 22) hx hb dX2_markOf_18 (by decide) ?_
      exact kr 22 ls (marks x1.toNatClampNeg) () H locs dX2_markOf_22 (Option.some.inj h) hP hS
def f_X2_changeMark (x1 : Int32) (x2 : Int32) (size : Int32) (marks : Nat → Int32) : Option (Int32 × ((Nat → Int32))) :=
  (f_X2_markOf x1 size marks).bind fun r_2 => (f_X2_has x1 size).bind fun r_4 => if r_4 = 0 then (some (r_2, marks)) else ((nx_ck 25 x1).bind fun _ => some (r_2, (upd marks x1.toNatClampNeg x2)))
set_option maxHeartbeats 4000000 in
set_option maxRecDepth 100000 in
theorem c_X2_changeMark (l : Launch) (E : nx_E) (sz : Nat) (a : Nat → Nat) (size : Int32) (on : Int32) (kinds : Nat → Int32) (marks : Nat → Int32) (nb : Nat → Int32) (reached : Int32) (dist : Nat → Int32) (lastW : Nat → Int32) (par : Nat → Int32) (ord : Nat → Int32) (paths : Nat → Int64) (costs : Nat → Int32) (wanted : Int32) (tlen : Int32) (onlyF : Int32) (found : Int32) (steps : Nat → Int32) (plen : Int32) (rowW : Nat → Int32) (rowS : Nat → Int32) (tally : Nat → Int32) (x1 : Int32) (x2 : Int32) (hI : nx_inj a 24) (o : Int32 × ((Nat → Int32))) (h : f_X2_changeMark x1 x2 size marks = some o) : Met l yX2_changeMark (.code yX2_changeMark cX2_changeMark 4 (some .int) :: nx_T) (nx_rm 1 21) (va_Pc [.ref (a 1), .int x1, .int x2] (nx_P E (nx_A a 24 sz) sz (cW E a size on kinds marks nb reached dist lastW par ord paths costs wanted tlen onlyF found steps plen rowW rowS tally))) (va_Qi (fun v u => (v, u) = o) (fun u t => va_P E.1 vwCl (cW E a size on kinds u nb reached dist lastW par ord paths costs wanted tlen onlyF found steps plen rowW rowS tally) t.heap) (nx_A a 24 sz)) 0 0 (nx_A a 24 sz) := by
  refine nx_enI (fun v u => (v, u) = o) (fun (u : (Nat → Int32)) => (cW E a size on kinds u nb reached dist lastW par ord paths costs wanted tlen onlyF found steps plen rowW rowS tally)) (by decide) (Nat.le_of_ble_eq_true rfl) ?_
  intro p e s m below meth c Q X kr hsz hP ls hl
  subst hsz
  generalize hargs : (List.toArray [.ref (a 1), .int x1, .int x2] : Array Value) = args at X kr ⊢
  clear hargs
  obtain ⟨⟨hx, hb, hml, hown, hts⟩, hK, hSt, hNz⟩ := id X
  have hS : va_S (nx_A a 24 s.heap.size) s.heap s.heap [] := va_S.rf
  have hl : lv_has ls 4 [(0, .ref (a 1)), (1, .int x1), (2, .int x2)] := hl
  unfold f_X2_changeMark at h
  suffices hw : ∀ (H : Heap) (locs : List Loc), va_P E.1 vwCl (cW E a size on kinds marks nb reached dist lastW par ord paths costs wanted tlen onlyF found steps plen rowW rowS tally) H → va_S (nx_A a 24 s.heap.size) s.heap H locs → W p l e (nx_rm 1 21) s m args below meth c H locs 0 0 Q (F0 m 0 ls []) from hw _ _ hP va_S.rf
  intro H locs hP hS
  refine lv_aload_n hx hb dX2_changeMark_0 rfl (lv_at hl 0 rfl) ?_
  refine lv_iload_n hx hb dX2_changeMark_1 rfl (lv_at hl 1 rfl) ?_
  obtain ⟨r_2, hc_1, h⟩ := nx_bd h
  refine nx_ki (nx_runV (As := [.int x1]) (rest := []) X hS hP (c_X2_markOf l E H.size a size on kinds marks nb reached dist lastW par ord paths costs wanted tlen onlyF found steps plen rowW rowS tally x1 _ hc_1) nx_FA qV_RX2_49 ⟨rfl, rfl⟩ ⟨Nat.le_of_ble_eq_true rfl, Nat.le_of_ble_eq_true rfl⟩ ⟨Nat.zero_le _, Nat.zero_le _⟩ 1 rfl rfl rfl rfl hl.1 (Nat.le_of_ble_eq_true rfl) dX2_changeMark_2) hS nx_FA (fun H locs hP hS => ?_)
  refine lv_istore_n (lv' := [(3, .int r_2), (0, .ref (a 1)), (1, .int x1), (2, .int x2)]) hx hb dX2_changeMark_5 rfl hl (by decide) rfl (fun ls hl => ?_)
  refine lv_aload_n hx hb dX2_changeMark_6 rfl (lv_at hl 1 rfl) ?_
  refine lv_iload_n hx hb dX2_changeMark_7 rfl (lv_at hl 2 rfl) ?_
  obtain ⟨r_4, hc_3, h⟩ := nx_bd h
  refine nx_ki (nx_runV (As := [.int x1]) (rest := []) X hS hP (c_X2_has l E H.size a size on kinds marks nb reached dist lastW par ord paths costs wanted tlen onlyF found steps plen rowW rowS tally x1 _ hc_3) nx_FA qV_RX2_46 ⟨rfl, rfl⟩ ⟨Nat.le_of_ble_eq_true rfl, Nat.le_of_ble_eq_true rfl⟩ ⟨Nat.zero_le _, Nat.zero_le _⟩ 1 rfl rfl rfl rfl hl.1 (Nat.le_of_ble_eq_true rfl) dX2_changeMark_8) hS nx_FA (fun H locs hP hS => ?_)
  refine lv_if_eq (tgt := 21) hx hb dX2_changeMark_11 (by decide) (fun hc => ?_) (fun hc => ?_)
  · have h := nx_it h hc
    refine lv_iload_n hx hb dX2_changeMark_21 rfl (lv_at hl 0 rfl) ?_
    exact kr 22 ls r_2 marks H locs dX2_changeMark_22 (Option.some.inj h) hP hS
  · have h := nx_if h hc
    refine lv_aload_n hx hb dX2_changeMark_14 rfl (lv_at hl 1 rfl) ?_
    refine nx_gf X hP uw_X2 (ci := 2) rfl 1 rfl 1 (by decide) wf_RX2_15 rfl dX2_changeMark_15 ?_
    refine lv_iload_n hx hb dX2_changeMark_18 rfl (lv_at hl 2 rfl) ?_
    refine lv_iload_n hx hb dX2_changeMark_19 rfl (lv_at hl 3 rfl) ?_
    obtain ⟨hv_5, h⟩ := nx_cb h
    refine nx_st X hI cW_ad hP hS 3 rfl hv_5 dX2_changeMark_20 (fun H locs hP hS => ?_)
    have hP : va_P E.1 vwCl (cW E a size on kinds (upd marks x1.toNatClampNeg x2) nb reached dist lastW par ord paths costs wanted tlen onlyF found steps plen rowW rowS tally) H := hP
    refine lv_iload_n hx hb dX2_changeMark_21 rfl (lv_at hl 0 rfl) ?_
    exact kr 22 ls r_2 (upd marks x1.toNatClampNeg x2) H locs dX2_changeMark_22 (Option.some.inj h) hP hS
def f_X2_groupsOn  (on : Int32) : Option (Int32) :=
  some on
set_option maxHeartbeats 4000000 in
set_option maxRecDepth 100000 in
theorem c_X2_groupsOn (l : Launch) (E : nx_E) (sz : Nat) (a : Nat → Nat) (size : Int32) (on : Int32) (kinds : Nat → Int32) (marks : Nat → Int32) (nb : Nat → Int32) (reached : Int32) (dist : Nat → Int32) (lastW : Nat → Int32) (par : Nat → Int32) (ord : Nat → Int32) (paths : Nat → Int64) (costs : Nat → Int32) (wanted : Int32) (tlen : Int32) (onlyF : Int32) (found : Int32) (steps : Nat → Int32) (plen : Int32) (rowW : Nat → Int32) (rowS : Nat → Int32) (tally : Nat → Int32)  (o : Int32) (h : f_X2_groupsOn on = some o) : Met l yX2_groupsOn (.code yX2_groupsOn cX2_groupsOn 1 (some .int) :: nx_T) (nx_rm 0 0) (va_Pc [.ref (a 1)] (nx_P E (nx_F) sz (cW E a size on kinds marks nb reached dist lastW par ord paths costs wanted tlen onlyF found steps plen rowW rowS tally))) (va_Qi (fun v (_ : Unit) => v = o) (fun _ t => va_P E.1 vwCl (cW E a size on kinds marks nb reached dist lastW par ord paths costs wanted tlen onlyF found steps plen rowW rowS tally) t.heap) (nx_F)) 0 0 (nx_F) := by
  refine nx_enI (fun v (_ : Unit) => v = o) (fun (_ : Unit) => (cW E a size on kinds marks nb reached dist lastW par ord paths costs wanted tlen onlyF found steps plen rowW rowS tally)) (by decide) (Nat.le_of_ble_eq_true rfl) ?_
  intro p e s m below meth c Q X kr hsz hP ls hl
  subst hsz
  generalize hargs : (List.toArray [.ref (a 1)] : Array Value) = args at X kr ⊢
  clear hargs
  obtain ⟨⟨hx, hb, hml, hown, hts⟩, hK, hSt, hNz⟩ := id X
  have hS : va_S (nx_F) s.heap s.heap [] := va_S.rf
  have hl : lv_has ls 1 [(0, .ref (a 1))] := hl
  unfold f_X2_groupsOn at h
  suffices hw : ∀ (H : Heap) (locs : List Loc), va_P E.1 vwCl (cW E a size on kinds marks nb reached dist lastW par ord paths costs wanted tlen onlyF found steps plen rowW rowS tally) H → va_S (nx_F) s.heap H locs → W p l e (nx_rm 0 0) s m args below meth c H locs 0 0 Q (F0 m 0 ls []) from hw _ _ hP va_S.rf
  intro H locs hP hS
  refine lv_aload_n hx hb dX2_groupsOn_0 rfl (lv_at hl 0 rfl) ?_
  refine nx_gf X hP uw_X2 (ci := 2) rfl 1 rfl 4 (by decide) wf_RX2_33 rfl dX2_groupsOn_1 ?_
  exact kr 4 ls on () H locs dX2_groupsOn_4 (Option.some.inj h) hP hS
def f_X2_changeGroup_j35 (x3 : Int32) (s0 : Int32) (on : Int32) : Option (Int32 × (Int32)) :=
  some (x3, s0)
def f_X2_changeGroup (x1 : Int32) (x2 : Int32) (on : Int32) : Option (Int32 × (Int32)) :=
  if x2 = 0 then (f_X2_changeGroup_j35 ((on >>> (x1 &&& 31)) &&& 1) (on &&& ((1 <<< (x1 &&& 31)) ^^^ (-1))) on) else (f_X2_changeGroup_j35 ((on >>> (x1 &&& 31)) &&& 1) (on ||| (1 <<< (x1 &&& 31))) on)
set_option maxHeartbeats 4000000 in
set_option maxRecDepth 100000 in
theorem c_X2_changeGroup (l : Launch) (E : nx_E) (sz : Nat) (a : Nat → Nat) (size : Int32) (on : Int32) (kinds : Nat → Int32) (marks : Nat → Int32) (nb : Nat → Int32) (reached : Int32) (dist : Nat → Int32) (lastW : Nat → Int32) (par : Nat → Int32) (ord : Nat → Int32) (paths : Nat → Int64) (costs : Nat → Int32) (wanted : Int32) (tlen : Int32) (onlyF : Int32) (found : Int32) (steps : Nat → Int32) (plen : Int32) (rowW : Nat → Int32) (rowS : Nat → Int32) (tally : Nat → Int32) (x1 : Int32) (x2 : Int32) (hI : nx_inj a 24) (o : Int32 × (Int32)) (h : f_X2_changeGroup x1 x2 on = some o) : Met l yX2_changeGroup (.code yX2_changeGroup cX2_changeGroup 4 (some .int) :: nx_T) (nx_rm 0 0) (va_Pc [.ref (a 1), .int x1, .int x2] (nx_P E (nx_A a 24 sz) sz (cW E a size on kinds marks nb reached dist lastW par ord paths costs wanted tlen onlyF found steps plen rowW rowS tally))) (va_Qi (fun v u => (v, u) = o) (fun u t => va_P E.1 vwCl (cW E a size u kinds marks nb reached dist lastW par ord paths costs wanted tlen onlyF found steps plen rowW rowS tally) t.heap) (nx_A a 24 sz)) 0 0 (nx_A a 24 sz) := by
  refine nx_enI (fun v u => (v, u) = o) (fun (u : Int32) => (cW E a size u kinds marks nb reached dist lastW par ord paths costs wanted tlen onlyF found steps plen rowW rowS tally)) (by decide) (Nat.le_of_ble_eq_true rfl) ?_
  intro p e s m below meth c Q X kr hsz hP ls hl
  subst hsz
  generalize hargs : (List.toArray [.ref (a 1), .int x1, .int x2] : Array Value) = args at X kr ⊢
  clear hargs
  obtain ⟨⟨hx, hb, hml, hown, hts⟩, hK, hSt, hNz⟩ := id X
  have hS : va_S (nx_A a 24 s.heap.size) s.heap s.heap [] := va_S.rf
  have hl : lv_has ls 4 [(0, .ref (a 1)), (1, .int x1), (2, .int x2)] := hl
  have J35 : ∀ (x3 : Int32) (s0 : Int32) (on : Int32), f_X2_changeGroup_j35 x3 s0 on = some o → ∀ (H : Heap) (locs : List Loc) (ls : Array Slot), va_P E.1 vwCl (cW E a size on kinds marks nb reached dist lastW par ord paths costs wanted tlen onlyF found steps plen rowW rowS tally) H → va_S (nx_A a 24 s.heap.size) s.heap H locs → lv_has ls 4 [(0, .ref (a 1)), (3, .int x3)] → W p l e (nx_rm 0 0) s m args below meth c H locs 0 0 Q (F0 m 35 ls [.int s0, .ref (a 1)]) := by
    intro x3 s0 on h H locs ls hP hS hl
    unfold f_X2_changeGroup_j35 at h
    refine nx_pf (ty := .int) (v := .int s0) X hI cW_ad hP hS uw_X2 tyX2 tyX2_ok nmX2 (ci := 2) rfl 1 rfl 4 (by decide) wf_RX2_33 rfl (by decide +kernel) rfl rfl (Nat.le_of_ble_eq_true rfl) dX2_changeGroup_35 (fun H locs hP hS => ?_)
    have hP : va_P E.1 vwCl (cW E a size s0 kinds marks nb reached dist lastW par ord paths costs wanted tlen onlyF found steps plen rowW rowS tally) H := hP
    refine lv_iload_n hx hb dX2_changeGroup_38 rfl (lv_at hl 1 rfl) ?_
    exact kr 39 ls x3 s0 H locs dX2_changeGroup_39 (Option.some.inj h) hP hS
  unfold f_X2_changeGroup at h
  suffices hw : ∀ (H : Heap) (locs : List Loc), va_P E.1 vwCl (cW E a size on kinds marks nb reached dist lastW par ord paths costs wanted tlen onlyF found steps plen rowW rowS tally) H → va_S (nx_A a 24 s.heap.size) s.heap H locs → W p l e (nx_rm 0 0) s m args below meth c H locs 0 0 Q (F0 m 0 ls []) from hw _ _ hP va_S.rf
  intro H locs hP hS
  refine lv_aload_n hx hb dX2_changeGroup_0 rfl (lv_at hl 0 rfl) ?_
  refine nx_gf X hP uw_X2 (ci := 2) rfl 1 rfl 4 (by decide) wf_RX2_33 rfl dX2_changeGroup_1 ?_
  refine lv_iload_n hx hb dX2_changeGroup_4 rfl (lv_at hl 1 rfl) ?_
  refine lv_ishr hx hb dX2_changeGroup_5 ?_
  refine lv_iconst (v := 1) hx hb dX2_changeGroup_6 (by decide) ?_
  refine lv_iand hx hb dX2_changeGroup_7 ?_
  refine lv_istore_n (lv' := [(3, .int ((on >>> (x1 &&& 31)) &&& 1)), (0, .ref (a 1)), (1, .int x1), (2, .int x2)]) hx hb dX2_changeGroup_8 rfl hl (by decide) rfl (fun ls hl => ?_)
  refine lv_aload_n hx hb dX2_changeGroup_9 rfl (lv_at hl 1 rfl) ?_
  refine lv_iload_n hx hb dX2_changeGroup_10 rfl (lv_at hl 3 rfl) ?_
  refine lv_if_eq (tgt := 25) hx hb dX2_changeGroup_11 (by decide) (fun hc => ?_) (fun hc => ?_)
  · have h := nx_it h hc
    refine lv_aload_n hx hb dX2_changeGroup_25 rfl (lv_at hl 1 rfl) ?_
    refine nx_gf X hP uw_X2 (ci := 2) rfl 1 rfl 4 (by decide) wf_RX2_33 rfl dX2_changeGroup_26 ?_
    refine lv_iconst (v := 1) hx hb dX2_changeGroup_29 (by decide) ?_
    refine lv_iload_n hx hb dX2_changeGroup_30 rfl (lv_at hl 2 rfl) ?_
    refine lv_ishl hx hb dX2_changeGroup_31 ?_
    refine lv_iconst (v := (-1)) hx hb dX2_changeGroup_32 (by decide) ?_
    refine lv_ixor hx hb dX2_changeGroup_33 ?_
    refine lv_iand hx hb dX2_changeGroup_34 ?_
    exact J35 _ _ _ h H locs ls hP hS (lv_sub hl [1, 0] rfl)
  · have h := nx_if h hc
    refine lv_aload_n hx hb dX2_changeGroup_14 rfl (lv_at hl 1 rfl) ?_
    refine nx_gf X hP uw_X2 (ci := 2) rfl 1 rfl 4 (by decide) wf_RX2_33 rfl dX2_changeGroup_15 ?_
    refine lv_iconst (v := 1) hx hb dX2_changeGroup_18 (by decide) ?_
    refine lv_iload_n hx hb dX2_changeGroup_19 rfl (lv_at hl 2 rfl) ?_
    refine lv_ishl hx hb dX2_changeGroup_20 ?_
    refine lv_ior hx hb dX2_changeGroup_21 ?_
    refine lv_goto (tgt := 35) hx hb dX2_changeGroup_22 (by decide) ?_
    exact J35 _ _ _ h H locs ls hP hS (lv_sub hl [1, 0] rfl)
def f_X2_isOpen (x1 : Int32) (x2 : Int32) (size : Int32) (kinds : Nat → Int32) : Option (Int32) :=
  if x1 < 0 then (some 0) else (if size ≤ x1 then (some 0) else ((nx_rd kinds 25 x1).bind fun _ => if (kinds x1.toNatClampNeg) = 1 then (some 0) else ((nx_rd kinds 25 x1).bind fun _ => if ((kinds x1.toNatClampNeg) - 6) < 0 then (some 1) else (if ((x2 >>> (((kinds x1.toNatClampNeg) - 6) &&& 31)) &&& 1) = 1 then (some 1) else (some 0)))))
set_option maxHeartbeats 4000000 in
set_option maxRecDepth 100000 in
theorem c_X2_isOpen (l : Launch) (E : nx_E) (sz : Nat) (a : Nat → Nat) (size : Int32) (on : Int32) (kinds : Nat → Int32) (marks : Nat → Int32) (nb : Nat → Int32) (reached : Int32) (dist : Nat → Int32) (lastW : Nat → Int32) (par : Nat → Int32) (ord : Nat → Int32) (paths : Nat → Int64) (costs : Nat → Int32) (wanted : Int32) (tlen : Int32) (onlyF : Int32) (found : Int32) (steps : Nat → Int32) (plen : Int32) (rowW : Nat → Int32) (rowS : Nat → Int32) (tally : Nat → Int32) (x1 : Int32) (x2 : Int32) (o : Int32) (h : f_X2_isOpen x1 x2 size kinds = some o) : Met l yX2_isOpen (.code yX2_isOpen cX2_isOpen 4 (some .boolean) :: nx_T) (nx_rm 0 0) (va_Pc [.ref (a 1), .int x1, .int x2] (nx_P E (nx_F) sz (cW E a size on kinds marks nb reached dist lastW par ord paths costs wanted tlen onlyF found steps plen rowW rowS tally))) (va_Qi (fun v (_ : Unit) => v = o) (fun _ t => va_P E.1 vwCl (cW E a size on kinds marks nb reached dist lastW par ord paths costs wanted tlen onlyF found steps plen rowW rowS tally) t.heap) (nx_F)) 0 0 (nx_F) := by
  refine nx_enZ (fun v (_ : Unit) => v = o) (fun (_ : Unit) => (cW E a size on kinds marks nb reached dist lastW par ord paths costs wanted tlen onlyF found steps plen rowW rowS tally)) (by decide) (Nat.le_of_ble_eq_true rfl) ?_
  intro p e s m below meth c Q X kr hsz hP ls hl
  subst hsz
  generalize hargs : (List.toArray [.ref (a 1), .int x1, .int x2] : Array Value) = args at X kr ⊢
  clear hargs
  obtain ⟨⟨hx, hb, hml, hown, hts⟩, hK, hSt, hNz⟩ := id X
  have hS : va_S (nx_F) s.heap s.heap [] := va_S.rf
  have hl : lv_has ls 4 [(0, .ref (a 1)), (1, .int x1), (2, .int x2)] := hl
  unfold f_X2_isOpen at h
  suffices hw : ∀ (H : Heap) (locs : List Loc), va_P E.1 vwCl (cW E a size on kinds marks nb reached dist lastW par ord paths costs wanted tlen onlyF found steps plen rowW rowS tally) H → va_S (nx_F) s.heap H locs → W p l e (nx_rm 0 0) s m args below meth c H locs 0 0 Q (F0 m 0 ls []) from hw _ _ hP va_S.rf
  intro H locs hP hS
  refine lv_iload_n hx hb dX2_isOpen_0 rfl (lv_at hl 1 rfl) ?_
  refine lv_if_lt (tgt := 22) hx hb dX2_isOpen_1 (by decide) (fun hc => ?_) (fun hc => ?_)
  · have h := nx_it h hc
    refine lv_iconst (v := 0) hx hb dX2_isOpen_22 (by decide) ?_
    exact kr 23 ls 0 () H locs dX2_isOpen_23 (Or.inl rfl) (Option.some.inj h) hP hS
  · have h := nx_if h hc
    refine lv_iload_n hx hb dX2_isOpen_4 rfl (lv_at hl 1 rfl) ?_
    refine lv_aload_n hx hb dX2_isOpen_5 rfl (lv_at hl 0 rfl) ?_
    refine nx_gf X hP uw_X2 (ci := 2) rfl 1 rfl 3 (by decide) wf_RX2_29 rfl dX2_isOpen_6 ?_
    refine lv_icmp_ge (tgt := 22) hx hb dX2_isOpen_9 (by decide) (fun hc => ?_) (fun hc => ?_)
    · have h := nx_it h hc
      refine lv_iconst (v := 0) hx hb dX2_isOpen_22 (by decide) ?_
      exact kr 23 ls 0 () H locs dX2_isOpen_23 (Or.inl rfl) (Option.some.inj h) hP hS
    · have h := nx_if h hc
      refine lv_aload_n hx hb dX2_isOpen_12 rfl (lv_at hl 0 rfl) ?_
      refine nx_gf X hP uw_X2 (ci := 2) rfl 1 rfl 0 (by decide) wf_RX2_9 rfl dX2_isOpen_13 ?_
      refine lv_iload_n hx hb dX2_isOpen_16 rfl (lv_at hl 1 rfl) ?_
      obtain ⟨hv_1, h⟩ := nx_rb h
      refine nx_ld X hP 2 rfl hv_1 dX2_isOpen_17 ?_
      refine lv_iconst (v := 1) hx hb dX2_isOpen_18 (by decide) ?_
      refine lv_icmp_ne (tgt := 24) hx hb dX2_isOpen_19 (by decide) (fun hc => ?_) (fun hc => ?_)
      · have h := nx_if h hc
        refine lv_aload_n hx hb dX2_isOpen_24 rfl (lv_at hl 0 rfl) ?_
        refine nx_gf X hP uw_X2 (ci := 2) rfl 1 rfl 0 (by decide) wf_RX2_9 rfl dX2_isOpen_25 ?_
        refine lv_iload_n hx hb dX2_isOpen_28 rfl (lv_at hl 1 rfl) ?_
        obtain ⟨hv_3, h⟩ := nx_rb h
        refine nx_ld X hP 2 rfl hv_3 dX2_isOpen_29 ?_
        refine lv_bipush (v := 6) hx hb dX2_isOpen_30 (by decide) ?_
        refine lv_isub hx hb dX2_isOpen_32 ?_
        refine lv_istore_n (lv' := [(3, .int ((kinds x1.toNatClampNeg) - 6)), (0, .ref (a 1)), (1, .int x1), (2, .int x2)]) hx hb dX2_isOpen_33 rfl hl (by decide) rfl (fun ls hl => ?_)
        refine lv_iload_n hx hb dX2_isOpen_34 rfl (lv_at hl 0 rfl) ?_
        refine lv_if_lt (tgt := 47) hx hb dX2_isOpen_35 (by decide) (fun hc => ?_) (fun hc => ?_)
        · have h := nx_it h hc
          refine lv_iconst (v := 1) hx hb dX2_isOpen_47 (by decide) ?_
          refine lv_goto (tgt := 52) hx hb dX2_isOpen_48 (by decide) ?_
          exact kr 52 ls 1 () H locs dX2_isOpen_52 (Or.inr rfl) (Option.some.inj h) hP hS
        · have h := nx_if h hc
          refine lv_iload_n hx hb dX2_isOpen_38 rfl (lv_at hl 3 rfl) ?_
          refine lv_iload_n hx hb dX2_isOpen_39 rfl (lv_at hl 0 rfl) ?_
          refine lv_ishr hx hb dX2_isOpen_40 ?_
          refine lv_iconst (v := 1) hx hb dX2_isOpen_41 (by decide) ?_
          refine lv_iand hx hb dX2_isOpen_42 ?_
          refine lv_iconst (v := 1) hx hb dX2_isOpen_43 (by decide) ?_
          refine lv_icmp_ne (tgt := 51) hx hb dX2_isOpen_44 (by decide) (fun hc => ?_) (fun hc => ?_)
          · have h := nx_if h hc
            refine lv_iconst (v := 0) hx hb dX2_isOpen_51 (by decide) ?_
            exact kr 52 ls 0 () H locs dX2_isOpen_52 (Or.inl rfl) (Option.some.inj h) hP hS
          · have h := nx_it h hc
            refine lv_iconst (v := 1) hx hb dX2_isOpen_47 (by decide) ?_
            refine lv_goto (tgt := 52) hx hb dX2_isOpen_48 (by decide) ?_
            exact kr 52 ls 1 () H locs dX2_isOpen_52 (Or.inr rfl) (Option.some.inj h) hP hS
      · have h := nx_it h hc
        refine lv_iconst (v := 0) hx hb dX2_isOpen_22 (by decide) ?_
        exact kr 23 ls 0 () H locs dX2_isOpen_23 (Or.inl rfl) (Option.some.inj h) hP hS
def f_X2_openCells_b4 (size : Int32) (on : Int32) (kinds : Nat → Int32) (rec : (Int32 × Int32) → Option (Int32)) (x1 : Int32) (x2 : Int32) : Option (Int32) :=
  if size ≤ x2 then (some x1) else ((f_X2_isOpen x2 on size kinds).bind fun r_2 => (f_X10_oneIf r_2).bind fun r_4 => rec ((x1 + r_4), (x2 + 1)))
def f_X2_openCells_l4 (size : Int32) (on : Int32) (kinds : Nat → Int32) : Nat → (Int32 × Int32) → Option (Int32) := nx_lp (fun rec z => f_X2_openCells_b4 size on kinds rec z.1 z.2)
def f_X2_openCells (N : Nat)  (size : Int32) (on : Int32) (kinds : Nat → Int32) : Option (Int32) :=
  (f_X2_openCells_l4 size on kinds N (0, 0)).bind fun z_5 => some z_5
set_option maxHeartbeats 4000000 in
set_option maxRecDepth 100000 in
theorem c_X2_openCells (l : Launch) (N : Nat) (E : nx_E) (sz : Nat) (a : Nat → Nat) (size : Int32) (on : Int32) (kinds : Nat → Int32) (marks : Nat → Int32) (nb : Nat → Int32) (reached : Int32) (dist : Nat → Int32) (lastW : Nat → Int32) (par : Nat → Int32) (ord : Nat → Int32) (paths : Nat → Int64) (costs : Nat → Int32) (wanted : Int32) (tlen : Int32) (onlyF : Int32) (found : Int32) (steps : Nat → Int32) (plen : Int32) (rowW : Nat → Int32) (rowS : Nat → Int32) (tally : Nat → Int32)  (o : Int32) (h : f_X2_openCells N size on kinds = some o) : Met l yX2_openCells (.code yX2_openCells cX2_openCells 3 (some .int) :: nx_T) (nx_rm 1 23) (va_Pc [.ref (a 1)] (nx_P E (nx_F) sz (cW E a size on kinds marks nb reached dist lastW par ord paths costs wanted tlen onlyF found steps plen rowW rowS tally))) (va_Qi (fun v (_ : Unit) => v = o) (fun _ t => va_P E.1 vwCl (cW E a size on kinds marks nb reached dist lastW par ord paths costs wanted tlen onlyF found steps plen rowW rowS tally) t.heap) (nx_F)) 0 0 (nx_F) := by
  refine nx_enI (fun v (_ : Unit) => v = o) (fun (_ : Unit) => (cW E a size on kinds marks nb reached dist lastW par ord paths costs wanted tlen onlyF found steps plen rowW rowS tally)) (by decide) (Nat.le_of_ble_eq_true rfl) ?_
  intro p e s m below meth c Q X kr hsz hP ls hl
  subst hsz
  generalize hargs : (List.toArray [.ref (a 1)] : Array Value) = args at X kr ⊢
  clear hargs
  obtain ⟨⟨hx, hb, hml, hown, hts⟩, hK, hSt, hNz⟩ := id X
  have hS : va_S (nx_F) s.heap s.heap [] := va_S.rf
  have hl : lv_has ls 3 [(0, .ref (a 1))] := hl
  have L4 : ∀ (n : Nat) (x1 : Int32) (x2 : Int32) (z : (Int32)), f_X2_openCells_l4 size on kinds n (x1, x2) = some z → ∀ (H : Heap) (locs : List Loc) (ls : Array Slot), va_P E.1 vwCl (cW E a size on kinds marks nb reached dist lastW par ord paths costs wanted tlen onlyF found steps plen rowW rowS tally) H → va_S (nx_F) s.heap H locs → lv_has ls 3 [(0, .ref (a 1)), (1, .int x1), (2, .int x2)] → ∀ (kR : ∀ (H : Heap) (locs : List Loc) (ls : Array Slot), va_P E.1 vwCl (cW E a size on kinds marks nb reached dist lastW par ord paths costs wanted tlen onlyF found steps plen rowW rowS tally) H → va_S (nx_F) s.heap H locs → lv_has ls 3 [(0, .ref (a 1)), (1, .int z)] → W p l e (nx_rm 1 23) s m args below meth c H locs 0 0 Q (F0 m 33 ls [])), W p l e (nx_rm 1 23) s m args below meth c H locs 0 0 Q (F0 m 4 ls []) := by
   intro  n
   induction n with
   | zero => intro x1 x2 z h; exact nomatch (show none = some z from h)
   | succ n ih =>
    intro x1 x2 z h H locs ls hP hS hl kR
    have h : f_X2_openCells_b4 size on kinds (f_X2_openCells_l4 size on kinds n) x1 x2 = some z := h
    unfold f_X2_openCells_b4 at h
    refine lv_iload_n hx hb dX2_openCells_4 rfl (lv_at hl 2 rfl) ?_
    refine lv_aload_n hx hb dX2_openCells_5 rfl (lv_at hl 0 rfl) ?_
    refine nx_gf X hP uw_X2 (ci := 2) rfl 1 rfl 3 (by decide) wf_RX2_29 rfl dX2_openCells_6 ?_
    refine lv_icmp_ge (tgt := 33) hx hb dX2_openCells_9 (by decide) (fun hc => ?_) (fun hc => ?_)
    · have h := nx_it h hc
      obtain rfl := Option.some.inj h
      exact kR H locs ls hP hS (lv_sub hl [0, 1] rfl)
    · have h := nx_if h hc
      refine lv_iload_n hx hb dX2_openCells_12 rfl (lv_at hl 1 rfl) ?_
      refine lv_aload_n hx hb dX2_openCells_13 rfl (lv_at hl 0 rfl) ?_
      refine lv_iload_n hx hb dX2_openCells_14 rfl (lv_at hl 2 rfl) ?_
      refine lv_aload_n hx hb dX2_openCells_15 rfl (lv_at hl 0 rfl) ?_
      refine nx_gf X hP uw_X2 (ci := 2) rfl 1 rfl 4 (by decide) wf_RX2_33 rfl dX2_openCells_16 ?_
      obtain ⟨r_2, hc_1, h⟩ := nx_bd h
      refine nx_ki (nx_runV (As := [.int x2, .int on]) (rest := [.int x1]) X hS hP (c_X2_isOpen l E H.size a size on kinds marks nb reached dist lastW par ord paths costs wanted tlen onlyF found steps plen rowW rowS tally x2 on _ hc_1) nx_FA qV_RX2_52 ⟨rfl, rfl⟩ ⟨Nat.le_of_ble_eq_true rfl, Nat.le_of_ble_eq_true rfl⟩ ⟨Nat.zero_le _, Nat.zero_le _⟩ 1 rfl rfl rfl rfl hl.1 (Nat.le_of_ble_eq_true rfl) dX2_openCells_19) hS nx_FA (fun H locs hP hS => ?_)
      obtain ⟨r_4, hc_3, h⟩ := nx_bd h
      refine nx_ki (nx_runN (As := [.int r_2]) (rest := [.int x1]) X hS hP (c_X10_oneIf l E H.size _ r_2 _ hc_3) nx_FA qN_RX2_56 ⟨rfl, rfl⟩ ⟨Nat.le_of_ble_eq_true rfl, Nat.le_of_ble_eq_true rfl⟩ ⟨Nat.zero_le _, Nat.zero_le _⟩ rfl rfl hl.1 (Nat.le_of_ble_eq_true rfl) dX2_openCells_22) hS nx_FA (fun H locs hP hS => ?_)
      refine lv_iadd hx hb dX2_openCells_25 ?_
      refine lv_istore_n (lv' := [(1, .int (x1 + r_4)), (0, .ref (a 1)), (2, .int x2)]) hx hb dX2_openCells_26 rfl hl (by decide) rfl (fun ls hl => ?_)
      refine lv_iinc (v := (x2 + 1)) (lv' := [(2, .int (x2 + 1)), (1, .int (x1 + r_4)), (0, .ref (a 1))]) hx hb dX2_openCells_27 hl (k := 2) rfl rfl (by decide) rfl (fun ls hl => ?_)
      refine lv_goto (tgt := 4) hx hb dX2_openCells_30 (by decide) ?_
      exact ih _ _ z h H locs ls hP hS (lv_sub hl [2, 1, 0] rfl) kR
  unfold f_X2_openCells at h
  suffices hw : ∀ (H : Heap) (locs : List Loc), va_P E.1 vwCl (cW E a size on kinds marks nb reached dist lastW par ord paths costs wanted tlen onlyF found steps plen rowW rowS tally) H → va_S (nx_F) s.heap H locs → W p l e (nx_rm 1 23) s m args below meth c H locs 0 0 Q (F0 m 0 ls []) from hw _ _ hP va_S.rf
  intro H locs hP hS
  refine lv_iconst (v := 0) hx hb dX2_openCells_0 (by decide) ?_
  refine lv_istore_n (lv' := [(1, .int 0), (0, .ref (a 1))]) hx hb dX2_openCells_1 rfl hl (by decide) rfl (fun ls hl => ?_)
  refine lv_iconst (v := 0) hx hb dX2_openCells_2 (by decide) ?_
  refine lv_istore_n (lv' := [(2, .int 0), (1, .int 0), (0, .ref (a 1))]) hx hb dX2_openCells_3 rfl hl (by decide) rfl (fun ls hl => ?_)
  obtain ⟨z_5, hz_6, h⟩ := nx_bd h
  refine L4  N _ _ _ hz_6 H locs ls hP hS (lv_sub hl [2, 1, 0] rfl) (fun H locs ls hP hS hl => ?_)
  refine lv_iload_n hx hb dX2_openCells_33 rfl (lv_at hl 1 rfl) ?_
  exact kr 34 ls z_5 () H locs dX2_openCells_34 (Option.some.inj h) hP hS
def f_X2_markedCells_j27 (rec : (Int32 × Int32) → Option (Int32)) (x2 : Int32) (s0 : Int32) (s1 : Int32) : Option (Int32) :=
  (f_X10_oneIf s0).bind fun r_2 => rec ((s1 + r_2), (x2 + 1))
def f_X2_markedCells_b4 (size : Int32) (marks : Nat → Int32) (rec : (Int32 × Int32) → Option (Int32)) (x1 : Int32) (x2 : Int32) : Option (Int32) :=
  if size ≤ x2 then (some x1) else ((nx_rd marks 25 x2).bind fun _ => if (marks x2.toNatClampNeg) = 0 then (f_X2_markedCells_j27 rec x2 0 x1) else (f_X2_markedCells_j27 rec x2 1 x1))
def f_X2_markedCells_l4 (size : Int32) (marks : Nat → Int32) : Nat → (Int32 × Int32) → Option (Int32) := nx_lp (fun rec z => f_X2_markedCells_b4 size marks rec z.1 z.2)
def f_X2_markedCells (N : Nat)  (size : Int32) (marks : Nat → Int32) : Option (Int32) :=
  (f_X2_markedCells_l4 size marks N (0, 0)).bind fun z_5 => some z_5
set_option maxHeartbeats 4000000 in
set_option maxRecDepth 100000 in
theorem c_X2_markedCells (l : Launch) (N : Nat) (E : nx_E) (sz : Nat) (a : Nat → Nat) (size : Int32) (on : Int32) (kinds : Nat → Int32) (marks : Nat → Int32) (nb : Nat → Int32) (reached : Int32) (dist : Nat → Int32) (lastW : Nat → Int32) (par : Nat → Int32) (ord : Nat → Int32) (paths : Nat → Int64) (costs : Nat → Int32) (wanted : Int32) (tlen : Int32) (onlyF : Int32) (found : Int32) (steps : Nat → Int32) (plen : Int32) (rowW : Nat → Int32) (rowS : Nat → Int32) (tally : Nat → Int32)  (o : Int32) (h : f_X2_markedCells N size marks = some o) : Met l yX2_markedCells (.code yX2_markedCells cX2_markedCells 3 (some .int) :: nx_T) (nx_rm 1 20) (va_Pc [.ref (a 1)] (nx_P E (nx_F) sz (cW E a size on kinds marks nb reached dist lastW par ord paths costs wanted tlen onlyF found steps plen rowW rowS tally))) (va_Qi (fun v (_ : Unit) => v = o) (fun _ t => va_P E.1 vwCl (cW E a size on kinds marks nb reached dist lastW par ord paths costs wanted tlen onlyF found steps plen rowW rowS tally) t.heap) (nx_F)) 0 0 (nx_F) := by
  refine nx_enI (fun v (_ : Unit) => v = o) (fun (_ : Unit) => (cW E a size on kinds marks nb reached dist lastW par ord paths costs wanted tlen onlyF found steps plen rowW rowS tally)) (by decide) (Nat.le_of_ble_eq_true rfl) ?_
  intro p e s m below meth c Q X kr hsz hP ls hl
  subst hsz
  generalize hargs : (List.toArray [.ref (a 1)] : Array Value) = args at X kr ⊢
  clear hargs
  obtain ⟨⟨hx, hb, hml, hown, hts⟩, hK, hSt, hNz⟩ := id X
  have hS : va_S (nx_F) s.heap s.heap [] := va_S.rf
  have hl : lv_has ls 3 [(0, .ref (a 1))] := hl
  have L4 : ∀ (n : Nat) (x1 : Int32) (x2 : Int32) (z : (Int32)), f_X2_markedCells_l4 size marks n (x1, x2) = some z → ∀ (H : Heap) (locs : List Loc) (ls : Array Slot), va_P E.1 vwCl (cW E a size on kinds marks nb reached dist lastW par ord paths costs wanted tlen onlyF found steps plen rowW rowS tally) H → va_S (nx_F) s.heap H locs → lv_has ls 3 [(0, .ref (a 1)), (1, .int x1), (2, .int x2)] → ∀ (kR : ∀ (H : Heap) (locs : List Loc) (ls : Array Slot), va_P E.1 vwCl (cW E a size on kinds marks nb reached dist lastW par ord paths costs wanted tlen onlyF found steps plen rowW rowS tally) H → va_S (nx_F) s.heap H locs → lv_has ls 3 [(0, .ref (a 1)), (1, .int z)] → W p l e (nx_rm 1 20) s m args below meth c H locs 0 0 Q (F0 m 38 ls [])), W p l e (nx_rm 1 20) s m args below meth c H locs 0 0 Q (F0 m 4 ls []) := by
   intro  n
   induction n with
   | zero => intro x1 x2 z h; exact nomatch (show none = some z from h)
   | succ n ih =>
    intro x1 x2 z h H locs ls hP hS hl kR
    have h : f_X2_markedCells_b4 size marks (f_X2_markedCells_l4 size marks n) x1 x2 = some z := h
    have J27 : ∀ (x2 : Int32) (s0 : Int32) (s1 : Int32), f_X2_markedCells_j27 (f_X2_markedCells_l4 size marks n) x2 s0 s1 = some z → ∀ (H : Heap) (locs : List Loc) (ls : Array Slot), va_P E.1 vwCl (cW E a size on kinds marks nb reached dist lastW par ord paths costs wanted tlen onlyF found steps plen rowW rowS tally) H → va_S (nx_F) s.heap H locs → lv_has ls 3 [(0, .ref (a 1)), (2, .int x2)] → W p l e (nx_rm 1 20) s m args below meth c H locs 0 0 Q (F0 m 27 ls [.int s0, .int s1]) := by
      intro x2 s0 s1 h H locs ls hP hS hl
      unfold f_X2_markedCells_j27 at h
      obtain ⟨r_2, hc_1, h⟩ := nx_bd h
      refine nx_ki (nx_runN (As := [.int s0]) (rest := [.int s1]) X hS hP (c_X10_oneIf l E H.size _ s0 _ hc_1) nx_FA qN_RX2_56 ⟨rfl, rfl⟩ ⟨Nat.le_of_ble_eq_true rfl, Nat.le_of_ble_eq_true rfl⟩ ⟨Nat.zero_le _, Nat.zero_le _⟩ rfl rfl hl.1 (Nat.le_of_ble_eq_true rfl) dX2_markedCells_27) hS nx_FA (fun H locs hP hS => ?_)
      refine lv_iadd hx hb dX2_markedCells_30 ?_
      refine lv_istore_n (lv' := [(1, .int (s1 + r_2)), (0, .ref (a 1)), (2, .int x2)]) hx hb dX2_markedCells_31 rfl hl (by decide) rfl (fun ls hl => ?_)
      refine lv_iinc (v := (x2 + 1)) (lv' := [(2, .int (x2 + 1)), (1, .int (s1 + r_2)), (0, .ref (a 1))]) hx hb dX2_markedCells_32 hl (k := 2) rfl rfl (by decide) rfl (fun ls hl => ?_)
      refine lv_goto (tgt := 4) hx hb dX2_markedCells_35 (by decide) ?_
      exact ih _ _ z h H locs ls hP hS (lv_sub hl [2, 1, 0] rfl) kR
    unfold f_X2_markedCells_b4 at h
    refine lv_iload_n hx hb dX2_markedCells_4 rfl (lv_at hl 2 rfl) ?_
    refine lv_aload_n hx hb dX2_markedCells_5 rfl (lv_at hl 0 rfl) ?_
    refine nx_gf X hP uw_X2 (ci := 2) rfl 1 rfl 3 (by decide) wf_RX2_29 rfl dX2_markedCells_6 ?_
    refine lv_icmp_ge (tgt := 38) hx hb dX2_markedCells_9 (by decide) (fun hc => ?_) (fun hc => ?_)
    · have h := nx_it h hc
      obtain rfl := Option.some.inj h
      exact kR H locs ls hP hS (lv_sub hl [0, 1] rfl)
    · have h := nx_if h hc
      refine lv_iload_n hx hb dX2_markedCells_12 rfl (lv_at hl 1 rfl) ?_
      refine lv_aload_n hx hb dX2_markedCells_13 rfl (lv_at hl 0 rfl) ?_
      refine nx_gf X hP uw_X2 (ci := 2) rfl 1 rfl 1 (by decide) wf_RX2_15 rfl dX2_markedCells_14 ?_
      refine lv_iload_n hx hb dX2_markedCells_17 rfl (lv_at hl 2 rfl) ?_
      obtain ⟨hv_3, h⟩ := nx_rb h
      refine nx_ld X hP 3 rfl hv_3 dX2_markedCells_18 ?_
      refine lv_if_eq (tgt := 26) hx hb dX2_markedCells_19 (by decide) (fun hc => ?_) (fun hc => ?_)
      · have h := nx_it h hc
        refine lv_iconst (v := 0) hx hb dX2_markedCells_26 (by decide) ?_
        exact J27 _ _ _ h H locs ls hP hS (lv_sub hl [0, 2] rfl)
      · have h := nx_if h hc
        refine lv_iconst (v := 1) hx hb dX2_markedCells_22 (by decide) ?_
        refine lv_goto (tgt := 27) hx hb dX2_markedCells_23 (by decide) ?_
        exact J27 _ _ _ h H locs ls hP hS (lv_sub hl [0, 2] rfl)
  unfold f_X2_markedCells at h
  suffices hw : ∀ (H : Heap) (locs : List Loc), va_P E.1 vwCl (cW E a size on kinds marks nb reached dist lastW par ord paths costs wanted tlen onlyF found steps plen rowW rowS tally) H → va_S (nx_F) s.heap H locs → W p l e (nx_rm 1 20) s m args below meth c H locs 0 0 Q (F0 m 0 ls []) from hw _ _ hP va_S.rf
  intro H locs hP hS
  refine lv_iconst (v := 0) hx hb dX2_markedCells_0 (by decide) ?_
  refine lv_istore_n (lv' := [(1, .int 0), (0, .ref (a 1))]) hx hb dX2_markedCells_1 rfl hl (by decide) rfl (fun ls hl => ?_)
  refine lv_iconst (v := 0) hx hb dX2_markedCells_2 (by decide) ?_
  refine lv_istore_n (lv' := [(2, .int 0), (1, .int 0), (0, .ref (a 1))]) hx hb dX2_markedCells_3 rfl hl (by decide) rfl (fun ls hl => ?_)
  obtain ⟨z_5, hz_6, h⟩ := nx_bd h
  refine L4  N _ _ _ hz_6 H locs ls hP hS (lv_sub hl [2, 1, 0] rfl) (fun H locs ls hP hS hl => ?_)
  refine lv_iload_n hx hb dX2_markedCells_38 rfl (lv_at hl 1 rfl) ?_
  exact kr 39 ls z_5 () H locs dX2_markedCells_39 (Option.some.inj h) hP hS
def f_X10_board (N : Nat) (x1 : Int32) (x2 : Int32) (size : Int32) (on : Int32) (kinds : Nat → Int32) (marks : Nat → Int32) (nb : Nat → Int32) : Option (Int32 × (Int32 × Int32 × (Nat → Int32) × (Nat → Int32) × (Nat → Int32))) :=
  (f_X10_isSide x1).bind fun r_2 => if r_2 = 0 then (some ((-2), (size, on, kinds, marks, nb))) else ((f_X10_isSide x2).bind fun r_4 => if r_4 = 0 then (some ((-2), (size, on, kinds, marks, nb))) else ((f_X2_lay N x1 x2 size on kinds marks nb).bind fun t_11 => (f_X2_size t_11.1).bind fun r_13 => some (r_13, (t_11.1, t_11.2.1, t_11.2.2.1, t_11.2.2.2.1, t_11.2.2.2.2))))
set_option maxHeartbeats 4000000 in
set_option maxRecDepth 100000 in
theorem c_X10_board (l : Launch) (N : Nat) (E : nx_E) (sz : Nat) (a : Nat → Nat) (size : Int32) (on : Int32) (kinds : Nat → Int32) (marks : Nat → Int32) (nb : Nat → Int32) (reached : Int32) (dist : Nat → Int32) (lastW : Nat → Int32) (par : Nat → Int32) (ord : Nat → Int32) (paths : Nat → Int64) (costs : Nat → Int32) (wanted : Int32) (tlen : Int32) (onlyF : Int32) (found : Int32) (steps : Nat → Int32) (plen : Int32) (rowW : Nat → Int32) (rowS : Nat → Int32) (tally : Nat → Int32) (x1 : Int32) (x2 : Int32) (hI : nx_inj a 24) (o : Int32 × (Int32 × Int32 × (Nat → Int32) × (Nat → Int32) × (Nat → Int32))) (h : f_X10_board N x1 x2 size on kinds marks nb = some o) : Met l yX10_board (.code yX10_board cX10_board 3 (some .int) :: nx_T) (nx_rm 2 48) (va_Pc [.ref (a 0), .int x1, .int x2] (nx_P E (nx_A a 24 sz) sz (cW E a size on kinds marks nb reached dist lastW par ord paths costs wanted tlen onlyF found steps plen rowW rowS tally))) (va_Qi (fun v u => (v, u) = o) (fun u t => va_P E.1 vwCl (cW E a (u.1) (u.2.1) (u.2.2.1) (u.2.2.2.1) (u.2.2.2.2) reached dist lastW par ord paths costs wanted tlen onlyF found steps plen rowW rowS tally) t.heap) (nx_A a 24 sz)) 0 0 (nx_A a 24 sz) := by
  refine nx_enI (fun v u => (v, u) = o) (fun (u : Int32 × Int32 × (Nat → Int32) × (Nat → Int32) × (Nat → Int32)) => (cW E a (u.1) (u.2.1) (u.2.2.1) (u.2.2.2.1) (u.2.2.2.2) reached dist lastW par ord paths costs wanted tlen onlyF found steps plen rowW rowS tally)) (by decide) (Nat.le_of_ble_eq_true rfl) ?_
  intro p e s m below meth c Q X kr hsz hP ls hl
  subst hsz
  generalize hargs : (List.toArray [.ref (a 0), .int x1, .int x2] : Array Value) = args at X kr ⊢
  clear hargs
  obtain ⟨⟨hx, hb, hml, hown, hts⟩, hK, hSt, hNz⟩ := id X
  have hS : va_S (nx_A a 24 s.heap.size) s.heap s.heap [] := va_S.rf
  have hl : lv_has ls 3 [(0, .ref (a 0)), (1, .int x1), (2, .int x2)] := hl
  unfold f_X10_board at h
  suffices hw : ∀ (H : Heap) (locs : List Loc), va_P E.1 vwCl (cW E a size on kinds marks nb reached dist lastW par ord paths costs wanted tlen onlyF found steps plen rowW rowS tally) H → va_S (nx_A a 24 s.heap.size) s.heap H locs → W p l e (nx_rm 2 48) s m args below meth c H locs 0 0 Q (F0 m 0 ls []) from hw _ _ hP va_S.rf
  intro H locs hP hS
  refine lv_iload_n hx hb dX10_board_0 rfl (lv_at hl 1 rfl) ?_
  obtain ⟨r_2, hc_1, h⟩ := nx_bd h
  refine nx_ki (nx_runS (As := [.int x1]) (rest := []) X hS hP (c_X10_isSide l E H.size _ x1 _ hc_1) nx_FA qS_RX10_73 ⟨rfl, rfl⟩ ⟨Nat.le_of_ble_eq_true rfl, Nat.le_of_ble_eq_true rfl⟩ ⟨Nat.zero_le _, Nat.zero_le _⟩ rfl rfl hl.1 (Nat.le_of_ble_eq_true rfl) dX10_board_1) hS nx_FA (fun H locs hP hS => ?_)
  refine lv_if_eq (tgt := 14) hx hb dX10_board_4 (by decide) (fun hc => ?_) (fun hc => ?_)
  · have h := nx_it h hc
    refine lv_bipush (v := (-2)) hx hb dX10_board_14 (by decide) ?_
    exact kr 16 ls (-2) (size, on, kinds, marks, nb) H locs dX10_board_16 (Option.some.inj h) hP hS
  · have h := nx_if h hc
    refine lv_iload_n hx hb dX10_board_7 rfl (lv_at hl 2 rfl) ?_
    obtain ⟨r_4, hc_3, h⟩ := nx_bd h
    refine nx_ki (nx_runS (As := [.int x2]) (rest := []) X hS hP (c_X10_isSide l E H.size _ x2 _ hc_3) nx_FA qS_RX10_73 ⟨rfl, rfl⟩ ⟨Nat.le_of_ble_eq_true rfl, Nat.le_of_ble_eq_true rfl⟩ ⟨Nat.zero_le _, Nat.zero_le _⟩ rfl rfl hl.1 (Nat.le_of_ble_eq_true rfl) dX10_board_8) hS nx_FA (fun H locs hP hS => ?_)
    refine lv_if_ne (tgt := 17) hx hb dX10_board_11 (by decide) (fun hc => ?_) (fun hc => ?_)
    · have h := nx_if h hc
      refine lv_aload_n hx hb dX10_board_17 rfl (lv_at hl 0 rfl) ?_
      refine nx_gf X hP uw_X10 (ci := 9) rfl 0 rfl 0 (by decide) wf_RX10_12 rfl dX10_board_18 ?_
      refine lv_iload_n hx hb dX10_board_21 rfl (lv_at hl 1 rfl) ?_
      refine lv_iload_n hx hb dX10_board_22 rfl (lv_at hl 2 rfl) ?_
      obtain ⟨⟨k_6, k_7, k_8, k_9, k_10⟩, hc_5, h⟩ := nx_bd h
      refine nx_kv (nx_runV (As := [.int x1, .int x2]) (rest := []) X hS hP (c_X2_lay l N E H.size a size on kinds marks nb reached dist lastW par ord paths costs wanted tlen onlyF found steps plen rowW rowS tally x1 x2 hI _ hc_5) (nx_Am hS.1) qV_RX10_77 ⟨rfl, rfl⟩ ⟨Nat.le_of_ble_eq_true rfl, Nat.le_of_ble_eq_true rfl⟩ ⟨Nat.zero_le _, Nat.zero_le _⟩ 1 rfl rfl rfl rfl hl.1 (Nat.le_of_ble_eq_true rfl) dX10_board_23) hS (nx_Am hS.1) (fun H locs hP hS => ?_)
      have hP : va_P E.1 vwCl (cW E a k_6 k_7 k_8 k_9 k_10 reached dist lastW par ord paths costs wanted tlen onlyF found steps plen rowW rowS tally) H := hP
      refine lv_aload_n hx hb dX10_board_26 rfl (lv_at hl 0 rfl) ?_
      refine nx_gf X hP uw_X10 (ci := 9) rfl 0 rfl 0 (by decide) wf_RX10_12 rfl dX10_board_27 ?_
      obtain ⟨r_13, hc_12, h⟩ := nx_bd h
      refine nx_ki (nx_runV (As := []) (rest := []) X hS hP (c_X2_size l E H.size a k_6 k_7 k_8 k_9 k_10 reached dist lastW par ord paths costs wanted tlen onlyF found steps plen rowW rowS tally _ hc_12) nx_FA qV_RX10_81 ⟨rfl, rfl⟩ ⟨Nat.le_of_ble_eq_true rfl, Nat.le_of_ble_eq_true rfl⟩ ⟨Nat.zero_le _, Nat.zero_le _⟩ 1 rfl rfl rfl rfl hl.1 (Nat.le_of_ble_eq_true rfl) dX10_board_30) hS nx_FA (fun H locs hP hS => ?_)
      exact kr 33 ls r_13 (k_6, k_7, k_8, k_9, k_10) H locs dX10_board_33 (Option.some.inj h) hP hS
    · have h := nx_it h hc
      refine lv_bipush (v := (-2)) hx hb dX10_board_14 (by decide) ?_
      exact kr 16 ls (-2) (size, on, kinds, marks, nb) H locs dX10_board_16 (Option.some.inj h) hP hS
def f_X10_cell_j37 (x1 : Int32) (x2 : Int32) (x3 : Int32) (size : Int32) (kinds : Nat → Int32) (marks : Nat → Int32) : Option (Int32 × ((Nat → Int32) × (Nat → Int32))) :=
  if x2 = 1 then (if x3 < 0 then (some ((-2), (kinds, marks))) else (if 6 < x3 then (some ((-2), (kinds, marks))) else ((f_X2_changeMark x1 x3 size marks).bind fun t_4 => some (t_4.1, (kinds, t_4.2))))) else (some ((-2), (kinds, marks)))
def f_X10_cell (x1 : Int32) (x2 : Int32) (x3 : Int32) (size : Int32) (kinds : Nat → Int32) (marks : Nat → Int32) : Option (Int32 × ((Nat → Int32) × (Nat → Int32))) :=
  (f_X2_has x1 size).bind fun r_6 => if r_6 = 0 then (some ((-1), (kinds, marks))) else (if x2 = 0 then (if x3 < 0 then (f_X10_cell_j37 x1 x2 x3 size kinds marks) else (if 8 < x3 then (f_X10_cell_j37 x1 x2 x3 size kinds marks) else ((f_X2_changeKind x1 x3 size kinds).bind fun t_10 => some (t_10.1, (t_10.2, marks))))) else (f_X10_cell_j37 x1 x2 x3 size kinds marks))
set_option maxHeartbeats 4000000 in
set_option maxRecDepth 100000 in
theorem c_X10_cell (l : Launch) (E : nx_E) (sz : Nat) (a : Nat → Nat) (size : Int32) (on : Int32) (kinds : Nat → Int32) (marks : Nat → Int32) (nb : Nat → Int32) (reached : Int32) (dist : Nat → Int32) (lastW : Nat → Int32) (par : Nat → Int32) (ord : Nat → Int32) (paths : Nat → Int64) (costs : Nat → Int32) (wanted : Int32) (tlen : Int32) (onlyF : Int32) (found : Int32) (steps : Nat → Int32) (plen : Int32) (rowW : Nat → Int32) (rowS : Nat → Int32) (tally : Nat → Int32) (x1 : Int32) (x2 : Int32) (x3 : Int32) (hI : nx_inj a 24) (o : Int32 × ((Nat → Int32) × (Nat → Int32))) (h : f_X10_cell x1 x2 x3 size kinds marks = some o) : Met l yX10_cell (.code yX10_cell cX10_cell 4 (some .int) :: nx_T) (nx_rm 2 44) (va_Pc [.ref (a 0), .int x1, .int x2, .int x3] (nx_P E (nx_A a 24 sz) sz (cW E a size on kinds marks nb reached dist lastW par ord paths costs wanted tlen onlyF found steps plen rowW rowS tally))) (va_Qi (fun v u => (v, u) = o) (fun u t => va_P E.1 vwCl (cW E a size on (u.1) (u.2) nb reached dist lastW par ord paths costs wanted tlen onlyF found steps plen rowW rowS tally) t.heap) (nx_A a 24 sz)) 0 0 (nx_A a 24 sz) := by
  refine nx_enI (fun v u => (v, u) = o) (fun (u : (Nat → Int32) × (Nat → Int32)) => (cW E a size on (u.1) (u.2) nb reached dist lastW par ord paths costs wanted tlen onlyF found steps plen rowW rowS tally)) (by decide) (Nat.le_of_ble_eq_true rfl) ?_
  intro p e s m below meth c Q X kr hsz hP ls hl
  subst hsz
  generalize hargs : (List.toArray [.ref (a 0), .int x1, .int x2, .int x3] : Array Value) = args at X kr ⊢
  clear hargs
  obtain ⟨⟨hx, hb, hml, hown, hts⟩, hK, hSt, hNz⟩ := id X
  have hS : va_S (nx_A a 24 s.heap.size) s.heap s.heap [] := va_S.rf
  have hl : lv_has ls 4 [(0, .ref (a 0)), (1, .int x1), (2, .int x2), (3, .int x3)] := hl
  have J37 : ∀ (x1 : Int32) (x2 : Int32) (x3 : Int32) (kinds : Nat → Int32) (marks : Nat → Int32), f_X10_cell_j37 x1 x2 x3 size kinds marks = some o → ∀ (H : Heap) (locs : List Loc) (ls : Array Slot), va_P E.1 vwCl (cW E a size on kinds marks nb reached dist lastW par ord paths costs wanted tlen onlyF found steps plen rowW rowS tally) H → va_S (nx_A a 24 s.heap.size) s.heap H locs → lv_has ls 4 [(0, .ref (a 0)), (1, .int x1), (2, .int x2), (3, .int x3)] → W p l e (nx_rm 2 44) s m args below meth c H locs 0 0 Q (F0 m 37 ls []) := by
    intro x1 x2 x3 kinds marks h H locs ls hP hS hl
    unfold f_X10_cell_j37 at h
    refine lv_iload_n hx hb dX10_cell_37 rfl (lv_at hl 2 rfl) ?_
    refine lv_iconst (v := 1) hx hb dX10_cell_38 (by decide) ?_
    refine lv_icmp_ne (tgt := 62) hx hb dX10_cell_39 (by decide) (fun hc => ?_) (fun hc => ?_)
    · have h := nx_if h hc
      refine lv_bipush (v := (-2)) hx hb dX10_cell_62 (by decide) ?_
      exact kr 64 ls (-2) (kinds, marks) H locs dX10_cell_64 (Option.some.inj h) hP hS
    · have h := nx_it h hc
      refine lv_iload_n hx hb dX10_cell_42 rfl (lv_at hl 3 rfl) ?_
      refine lv_if_lt (tgt := 62) hx hb dX10_cell_43 (by decide) (fun hc => ?_) (fun hc => ?_)
      · have h := nx_it h hc
        refine lv_bipush (v := (-2)) hx hb dX10_cell_62 (by decide) ?_
        exact kr 64 ls (-2) (kinds, marks) H locs dX10_cell_64 (Option.some.inj h) hP hS
      · have h := nx_if h hc
        refine lv_iload_n hx hb dX10_cell_46 rfl (lv_at hl 3 rfl) ?_
        refine lv_bipush (v := 6) hx hb dX10_cell_47 (by decide) ?_
        refine lv_icmp_gt (tgt := 62) hx hb dX10_cell_49 (by decide) (fun hc => ?_) (fun hc => ?_)
        · have h := nx_it h hc
          refine lv_bipush (v := (-2)) hx hb dX10_cell_62 (by decide) ?_
          exact kr 64 ls (-2) (kinds, marks) H locs dX10_cell_64 (Option.some.inj h) hP hS
        · have h := nx_if h hc
          refine lv_aload_n hx hb dX10_cell_52 rfl (lv_at hl 0 rfl) ?_
          refine nx_gf X hP uw_X10 (ci := 9) rfl 0 rfl 0 (by decide) wf_RX10_12 rfl dX10_cell_53 ?_
          refine lv_iload_n hx hb dX10_cell_56 rfl (lv_at hl 1 rfl) ?_
          refine lv_iload_n hx hb dX10_cell_57 rfl (lv_at hl 3 rfl) ?_
          obtain ⟨⟨r_2, k_3⟩, hc_1, h⟩ := nx_bd h
          refine nx_kwi (nx_runV (As := [.int x1, .int x3]) (rest := []) X hS hP (c_X2_changeMark l E H.size a size on kinds marks nb reached dist lastW par ord paths costs wanted tlen onlyF found steps plen rowW rowS tally x1 x3 hI _ hc_1) (nx_Am hS.1) qV_RX10_92 ⟨rfl, rfl⟩ ⟨Nat.le_of_ble_eq_true rfl, Nat.le_of_ble_eq_true rfl⟩ ⟨Nat.zero_le _, Nat.zero_le _⟩ 1 rfl rfl rfl rfl hl.1 (Nat.le_of_ble_eq_true rfl) dX10_cell_58) hS (nx_Am hS.1) (fun H locs hP hS => ?_)
          have hP : va_P E.1 vwCl (cW E a size on kinds k_3 nb reached dist lastW par ord paths costs wanted tlen onlyF found steps plen rowW rowS tally) H := hP
          exact kr 61 ls r_2 (kinds, k_3) H locs dX10_cell_61 (Option.some.inj h) hP hS
  unfold f_X10_cell at h
  suffices hw : ∀ (H : Heap) (locs : List Loc), va_P E.1 vwCl (cW E a size on kinds marks nb reached dist lastW par ord paths costs wanted tlen onlyF found steps plen rowW rowS tally) H → va_S (nx_A a 24 s.heap.size) s.heap H locs → W p l e (nx_rm 2 44) s m args below meth c H locs 0 0 Q (F0 m 0 ls []) from hw _ _ hP va_S.rf
  intro H locs hP hS
  refine lv_aload_n hx hb dX10_cell_0 rfl (lv_at hl 0 rfl) ?_
  refine nx_gf X hP uw_X10 (ci := 9) rfl 0 rfl 0 (by decide) wf_RX10_12 rfl dX10_cell_1 ?_
  refine lv_iload_n hx hb dX10_cell_4 rfl (lv_at hl 1 rfl) ?_
  obtain ⟨r_6, hc_5, h⟩ := nx_bd h
  refine nx_ki (nx_runV (As := [.int x1]) (rest := []) X hS hP (c_X2_has l E H.size a size on kinds marks nb reached dist lastW par ord paths costs wanted tlen onlyF found steps plen rowW rowS tally x1 _ hc_5) nx_FA qV_RX10_85 ⟨rfl, rfl⟩ ⟨Nat.le_of_ble_eq_true rfl, Nat.le_of_ble_eq_true rfl⟩ ⟨Nat.zero_le _, Nat.zero_le _⟩ 1 rfl rfl rfl rfl hl.1 (Nat.le_of_ble_eq_true rfl) dX10_cell_5) hS nx_FA (fun H locs hP hS => ?_)
  refine lv_if_ne (tgt := 13) hx hb dX10_cell_8 (by decide) (fun hc => ?_) (fun hc => ?_)
  · have h := nx_if h hc
    refine lv_iload_n hx hb dX10_cell_13 rfl (lv_at hl 2 rfl) ?_
    refine lv_if_ne (tgt := 37) hx hb dX10_cell_14 (by decide) (fun hc => ?_) (fun hc => ?_)
    · have h := nx_if h hc
      exact J37 _ _ _ _ _ h H locs ls hP hS (lv_sub hl [0, 1, 2, 3] rfl)
    · have h := nx_it h hc
      refine lv_iload_n hx hb dX10_cell_17 rfl (lv_at hl 3 rfl) ?_
      refine lv_if_lt (tgt := 37) hx hb dX10_cell_18 (by decide) (fun hc => ?_) (fun hc => ?_)
      · have h := nx_it h hc
        exact J37 _ _ _ _ _ h H locs ls hP hS (lv_sub hl [0, 1, 2, 3] rfl)
      · have h := nx_if h hc
        refine lv_iload_n hx hb dX10_cell_21 rfl (lv_at hl 3 rfl) ?_
        refine lv_bipush (v := 8) hx hb dX10_cell_22 (by decide) ?_
        refine lv_icmp_gt (tgt := 37) hx hb dX10_cell_24 (by decide) (fun hc => ?_) (fun hc => ?_)
        · have h := nx_it h hc
          exact J37 _ _ _ _ _ h H locs ls hP hS (lv_sub hl [0, 1, 2, 3] rfl)
        · have h := nx_if h hc
          refine lv_aload_n hx hb dX10_cell_27 rfl (lv_at hl 0 rfl) ?_
          refine nx_gf X hP uw_X10 (ci := 9) rfl 0 rfl 0 (by decide) wf_RX10_12 rfl dX10_cell_28 ?_
          refine lv_iload_n hx hb dX10_cell_31 rfl (lv_at hl 1 rfl) ?_
          refine lv_iload_n hx hb dX10_cell_32 rfl (lv_at hl 3 rfl) ?_
          obtain ⟨⟨r_8, k_9⟩, hc_7, h⟩ := nx_bd h
          refine nx_kwi (nx_runV (As := [.int x1, .int x3]) (rest := []) X hS hP (c_X2_changeKind l E H.size a size on kinds marks nb reached dist lastW par ord paths costs wanted tlen onlyF found steps plen rowW rowS tally x1 x3 hI _ hc_7) (nx_Am hS.1) qV_RX10_88 ⟨rfl, rfl⟩ ⟨Nat.le_of_ble_eq_true rfl, Nat.le_of_ble_eq_true rfl⟩ ⟨Nat.zero_le _, Nat.zero_le _⟩ 1 rfl rfl rfl rfl hl.1 (Nat.le_of_ble_eq_true rfl) dX10_cell_33) hS (nx_Am hS.1) (fun H locs hP hS => ?_)
          have hP : va_P E.1 vwCl (cW E a size on k_9 marks nb reached dist lastW par ord paths costs wanted tlen onlyF found steps plen rowW rowS tally) H := hP
          exact kr 36 ls r_8 (k_9, marks) H locs dX10_cell_36 (Option.some.inj h) hP hS
  · have h := nx_it h hc
    refine lv_iconst (v := (-1)) hx hb dX10_cell_11 (by decide) ?_
    exact kr 12 ls (-1) (kinds, marks) H locs dX10_cell_12 (Option.some.inj h) hP hS
def f_X10_group (x1 : Int32) (x2 : Int32) (on : Int32) : Option (Int32 × (Int32)) :=
  if x1 < 0 then (some ((-1), on)) else (if x1 < 3 then ((f_X2_changeGroup x1 x2 on).bind fun t_4 => some (t_4.1, t_4.2)) else (some ((-1), on)))
set_option maxHeartbeats 4000000 in
set_option maxRecDepth 100000 in
theorem c_X10_group (l : Launch) (E : nx_E) (sz : Nat) (a : Nat → Nat) (size : Int32) (on : Int32) (kinds : Nat → Int32) (marks : Nat → Int32) (nb : Nat → Int32) (reached : Int32) (dist : Nat → Int32) (lastW : Nat → Int32) (par : Nat → Int32) (ord : Nat → Int32) (paths : Nat → Int64) (costs : Nat → Int32) (wanted : Int32) (tlen : Int32) (onlyF : Int32) (found : Int32) (steps : Nat → Int32) (plen : Int32) (rowW : Nat → Int32) (rowS : Nat → Int32) (tally : Nat → Int32) (x1 : Int32) (x2 : Int32) (hI : nx_inj a 24) (o : Int32 × (Int32)) (h : f_X10_group x1 x2 on = some o) : Met l yX10_group (.code yX10_group cX10_group 3 (some .int) :: nx_T) (nx_rm 1 23) (va_Pc [.ref (a 0), .int x1, .int x2] (nx_P E (nx_A a 24 sz) sz (cW E a size on kinds marks nb reached dist lastW par ord paths costs wanted tlen onlyF found steps plen rowW rowS tally))) (va_Qi (fun v u => (v, u) = o) (fun u t => va_P E.1 vwCl (cW E a size u kinds marks nb reached dist lastW par ord paths costs wanted tlen onlyF found steps plen rowW rowS tally) t.heap) (nx_A a 24 sz)) 0 0 (nx_A a 24 sz) := by
  refine nx_enI (fun v u => (v, u) = o) (fun (u : Int32) => (cW E a size u kinds marks nb reached dist lastW par ord paths costs wanted tlen onlyF found steps plen rowW rowS tally)) (by decide) (Nat.le_of_ble_eq_true rfl) ?_
  intro p e s m below meth c Q X kr hsz hP ls hl
  subst hsz
  generalize hargs : (List.toArray [.ref (a 0), .int x1, .int x2] : Array Value) = args at X kr ⊢
  clear hargs
  obtain ⟨⟨hx, hb, hml, hown, hts⟩, hK, hSt, hNz⟩ := id X
  have hS : va_S (nx_A a 24 s.heap.size) s.heap s.heap [] := va_S.rf
  have hl : lv_has ls 3 [(0, .ref (a 0)), (1, .int x1), (2, .int x2)] := hl
  unfold f_X10_group at h
  suffices hw : ∀ (H : Heap) (locs : List Loc), va_P E.1 vwCl (cW E a size on kinds marks nb reached dist lastW par ord paths costs wanted tlen onlyF found steps plen rowW rowS tally) H → va_S (nx_A a 24 s.heap.size) s.heap H locs → W p l e (nx_rm 1 23) s m args below meth c H locs 0 0 Q (F0 m 0 ls []) from hw _ _ hP va_S.rf
  intro H locs hP hS
  refine lv_iload_n hx hb dX10_group_0 rfl (lv_at hl 1 rfl) ?_
  refine lv_if_lt (tgt := 9) hx hb dX10_group_1 (by decide) (fun hc => ?_) (fun hc => ?_)
  · have h := nx_it h hc
    refine lv_iconst (v := (-1)) hx hb dX10_group_9 (by decide) ?_
    exact kr 10 ls (-1) on H locs dX10_group_10 (Option.some.inj h) hP hS
  · have h := nx_if h hc
    refine lv_iload_n hx hb dX10_group_4 rfl (lv_at hl 1 rfl) ?_
    refine lv_iconst (v := 3) hx hb dX10_group_5 (by decide) ?_
    refine lv_icmp_lt (tgt := 11) hx hb dX10_group_6 (by decide) (fun hc => ?_) (fun hc => ?_)
    · have h := nx_it h hc
      refine lv_aload_n hx hb dX10_group_11 rfl (lv_at hl 0 rfl) ?_
      refine nx_gf X hP uw_X10 (ci := 9) rfl 0 rfl 0 (by decide) wf_RX10_12 rfl dX10_group_12 ?_
      refine lv_iload_n hx hb dX10_group_15 rfl (lv_at hl 1 rfl) ?_
      refine lv_iload_n hx hb dX10_group_16 rfl (lv_at hl 2 rfl) ?_
      obtain ⟨⟨r_2, k_3⟩, hc_1, h⟩ := nx_bd h
      refine nx_kwi (nx_runV (As := [.int x1, .int x2]) (rest := []) X hS hP (c_X2_changeGroup l E H.size a size on kinds marks nb reached dist lastW par ord paths costs wanted tlen onlyF found steps plen rowW rowS tally x1 x2 hI _ hc_1) (nx_Am hS.1) qV_RX10_95 ⟨rfl, rfl⟩ ⟨Nat.le_of_ble_eq_true rfl, Nat.le_of_ble_eq_true rfl⟩ ⟨Nat.zero_le _, Nat.zero_le _⟩ 1 rfl rfl rfl rfl hl.1 (Nat.le_of_ble_eq_true rfl) dX10_group_17) hS (nx_Am hS.1) (fun H locs hP hS => ?_)
      have hP : va_P E.1 vwCl (cW E a size k_3 kinds marks nb reached dist lastW par ord paths costs wanted tlen onlyF found steps plen rowW rowS tally) H := hP
      exact kr 20 ls r_2 k_3 H locs dX10_group_20 (Option.some.inj h) hP hS
    · have h := nx_if h hc
      refine lv_iconst (v := (-1)) hx hb dX10_group_9 (by decide) ?_
      exact kr 10 ls (-1) on H locs dX10_group_10 (Option.some.inj h) hP hS
