def f_X9_stepAt (N : Nat) (x1 : Int32) (x2 : Int32) (x3 : Int32) (size : Int32) (on : Int32) (kinds : Nat → Int32) (marks : Nat → Int32) (nb : Nat → Int32) (wanted : Int32) (tlen : Int32) (onlyF : Int32) (found : Int32) (steps : Nat → Int32) : Option (Int32 × (Int32 × Int32 × Int32 × Int32 × (Nat → Int32))) :=
  (f_X9_seek N x1 x2 1 size on kinds marks nb wanted tlen onlyF found steps).bind fun t_7 => if t_7.2.2.2.1 ≤ 0 then (some ((-9), (t_7.1, t_7.2.1, t_7.2.2.1, t_7.2.2.2.1, t_7.2.2.2.2))) else (if x3 < 0 then (some ((-9), (t_7.1, t_7.2.1, t_7.2.2.1, t_7.2.2.2.1, t_7.2.2.2.2))) else (if t_7.2.1 ≤ x3 then (some ((-9), (t_7.1, t_7.2.1, t_7.2.2.1, t_7.2.2.2.1, t_7.2.2.2.2))) else (if 16 ≤ x3 then (some ((-9), (t_7.1, t_7.2.1, t_7.2.2.1, t_7.2.2.2.1, t_7.2.2.2.2))) else ((nx_rd t_7.2.2.2.2 16 x3).bind fun _ => some ((t_7.2.2.2.2 x3.toNatClampNeg), (t_7.1, t_7.2.1, t_7.2.2.1, t_7.2.2.2.1, t_7.2.2.2.2))))))
set_option maxHeartbeats 4000000 in
set_option maxRecDepth 100000 in
theorem c_X9_stepAt (l : Launch) (N : Nat) (E : nx_E) (sz : Nat) (a : Nat → Nat) (size : Int32) (on : Int32) (kinds : Nat → Int32) (marks : Nat → Int32) (nb : Nat → Int32) (reached : Int32) (dist : Nat → Int32) (lastW : Nat → Int32) (par : Nat → Int32) (ord : Nat → Int32) (paths : Nat → Int64) (costs : Nat → Int32) (wanted : Int32) (tlen : Int32) (onlyF : Int32) (found : Int32) (steps : Nat → Int32) (plen : Int32) (rowW : Nat → Int32) (rowS : Nat → Int32) (tally : Nat → Int32) (x1 : Int32) (x2 : Int32) (x3 : Int32) (hI : nx_inj a 24) (o : Int32 × (Int32 × Int32 × Int32 × Int32 × (Nat → Int32))) (h : f_X9_stepAt N x1 x2 x3 size on kinds marks nb wanted tlen onlyF found steps = some o) : Met l yX9_stepAt (.code yX9_stepAt cX9_stepAt 4 (some .int) :: nx_T) (nx_rm 25 640) (va_Pc [.ref (a 15), .int x1, .int x2, .int x3] (nx_P E (nx_A a 24 sz) sz (cW E a size on kinds marks nb reached dist lastW par ord paths costs wanted tlen onlyF found steps plen rowW rowS tally))) (va_Qi (fun v u => (v, u) = o) (fun u t => va_P E.1 vwCl (cW E a size on kinds marks nb reached dist lastW par ord paths costs (u.1) (u.2.1) (u.2.2.1) (u.2.2.2.1) (u.2.2.2.2) plen rowW rowS tally) t.heap) (nx_A a 24 sz)) 0 0 (nx_A a 24 sz) := by
  refine nx_enI (fun v u => (v, u) = o) (fun (u : Int32 × Int32 × Int32 × Int32 × (Nat → Int32)) => (cW E a size on kinds marks nb reached dist lastW par ord paths costs (u.1) (u.2.1) (u.2.2.1) (u.2.2.2.1) (u.2.2.2.2) plen rowW rowS tally)) (by decide) (Nat.le_of_ble_eq_true rfl) ?_
  intro p e s m below meth c Q X kr hsz hP ls hl
  subst hsz
  generalize hargs : (List.toArray [.ref (a 15), .int x1, .int x2, .int x3] : Array Value) = args at X kr ⊢
  clear hargs
  obtain ⟨⟨hx, hb, hml, hown, hts⟩, hK, hSt, hNz⟩ := id X
  have hS : va_S (nx_A a 24 s.heap.size) s.heap s.heap [] := va_S.rf
  have hl : lv_has ls 4 [(0, .ref (a 15)), (1, .int x1), (2, .int x2), (3, .int x3)] := hl
  unfold f_X9_stepAt at h
  suffices hw : ∀ (H : Heap) (locs : List Loc), va_P E.1 vwCl (cW E a size on kinds marks nb reached dist lastW par ord paths costs wanted tlen onlyF found steps plen rowW rowS tally) H → va_S (nx_A a 24 s.heap.size) s.heap H locs → W p l e (nx_rm 25 640) s m args below meth c H locs 0 0 Q (F0 m 0 ls []) from hw _ _ hP va_S.rf
  intro H locs hP hS
  refine lv_aload_n hx hb dX9_stepAt_0 rfl (lv_at hl 0 rfl) ?_
  refine lv_iload_n hx hb dX9_stepAt_1 rfl (lv_at hl 1 rfl) ?_
  refine lv_iload_n hx hb dX9_stepAt_2 rfl (lv_at hl 2 rfl) ?_
  refine lv_iconst (v := 1) hx hb dX9_stepAt_3 (by decide) ?_
  obtain ⟨⟨k_2, k_3, k_4, k_5, k_6⟩, hc_1, h⟩ := nx_bd h
  refine nx_kv (nx_runV (As := [.int x1, .int x2, .int 1]) (rest := []) X hS hP (c_X9_seek l N E H.size a size on kinds marks nb reached dist lastW par ord paths costs wanted tlen onlyF found steps plen rowW rowS tally x1 x2 1 hI _ hc_1) (nx_Am hS.1) qV_RX9_23 ⟨rfl, rfl⟩ ⟨Nat.le_of_ble_eq_true rfl, Nat.le_of_ble_eq_true rfl⟩ ⟨Nat.zero_le _, Nat.zero_le _⟩ 15 rfl rfl rfl rfl hl.1 (Nat.le_of_ble_eq_true rfl) dX9_stepAt_4) hS (nx_Am hS.1) (fun H locs hP hS => ?_)
  have hP : va_P E.1 vwCl (cW E a size on kinds marks nb reached dist lastW par ord paths costs k_2 k_3 k_4 k_5 k_6 plen rowW rowS tally) H := hP
  refine lv_aload_n hx hb dX9_stepAt_7 rfl (lv_at hl 0 rfl) ?_
  refine nx_gf X hP uw_X9 (ci := 8) rfl 15 rfl 6 (by decide) wf_RX9_27 rfl dX9_stepAt_8 ?_
  refine lv_if_le (tgt := 41) hx hb dX9_stepAt_11 (by decide) (fun hc => ?_) (fun hc => ?_)
  · have h := nx_it h hc
    refine lv_bipush (v := (-9)) hx hb dX9_stepAt_41 (by decide) ?_
    exact kr 43 ls (-9) (k_2, k_3, k_4, k_5, k_6) H locs dX9_stepAt_43 (Option.some.inj h) hP hS
  · have h := nx_if h hc
    refine lv_iload_n hx hb dX9_stepAt_14 rfl (lv_at hl 3 rfl) ?_
    refine lv_if_lt (tgt := 41) hx hb dX9_stepAt_15 (by decide) (fun hc => ?_) (fun hc => ?_)
    · have h := nx_it h hc
      refine lv_bipush (v := (-9)) hx hb dX9_stepAt_41 (by decide) ?_
      exact kr 43 ls (-9) (k_2, k_3, k_4, k_5, k_6) H locs dX9_stepAt_43 (Option.some.inj h) hP hS
    · have h := nx_if h hc
      refine lv_iload_n hx hb dX9_stepAt_18 rfl (lv_at hl 3 rfl) ?_
      refine lv_aload_n hx hb dX9_stepAt_19 rfl (lv_at hl 0 rfl) ?_
      refine nx_gf X hP uw_X9 (ci := 8) rfl 15 rfl 4 (by decide) wf_RX9_31 rfl dX9_stepAt_20 ?_
      refine lv_icmp_ge (tgt := 41) hx hb dX9_stepAt_23 (by decide) (fun hc => ?_) (fun hc => ?_)
      · have h := nx_it h hc
        refine lv_bipush (v := (-9)) hx hb dX9_stepAt_41 (by decide) ?_
        exact kr 43 ls (-9) (k_2, k_3, k_4, k_5, k_6) H locs dX9_stepAt_43 (Option.some.inj h) hP hS
      · have h := nx_if h hc
        refine lv_iload_n hx hb dX9_stepAt_26 rfl (lv_at hl 3 rfl) ?_
        refine lv_bipush (v := 16) hx hb dX9_stepAt_27 (by decide) ?_
        refine lv_icmp_ge (tgt := 41) hx hb dX9_stepAt_29 (by decide) (fun hc => ?_) (fun hc => ?_)
        · have h := nx_it h hc
          refine lv_bipush (v := (-9)) hx hb dX9_stepAt_41 (by decide) ?_
          exact kr 43 ls (-9) (k_2, k_3, k_4, k_5, k_6) H locs dX9_stepAt_43 (Option.some.inj h) hP hS
        · have h := nx_if h hc
          refine lv_aload_n hx hb dX9_stepAt_32 rfl (lv_at hl 0 rfl) ?_
          refine nx_gf X hP uw_X9 (ci := 8) rfl 15 rfl 2 (by decide) wf_RX9_9 rfl dX9_stepAt_33 ?_
          refine lv_iload_n hx hb dX9_stepAt_36 rfl (lv_at hl 3 rfl) ?_
          obtain ⟨hv_8, h⟩ := nx_rb h
          refine nx_ld X hP 16 rfl hv_8 dX9_stepAt_37 ?_
          refine lv_goto (tgt := 43) hx hb dX9_stepAt_38 (by decide) ?_
          exact kr 43 ls (k_6 x3.toNatClampNeg) (k_2, k_3, k_4, k_5, k_6) H locs dX9_stepAt_43 (Option.some.inj h) hP hS
def f_X10_tour (N : Nat) (x1 : Int32) (x2 : Int32) (x3 : Int32) (x4 : Int32) (size : Int32) (on : Int32) (kinds : Nat → Int32) (marks : Nat → Int32) (nb : Nat → Int32) (wanted : Int32) (tlen : Int32) (onlyF : Int32) (found : Int32) (steps : Nat → Int32) : Option (Int32 × (Int32 × Int32 × Int32 × Int32 × (Nat → Int32))) :=
  (f_X10_refusalOfTour N x1 x2 x3 size on kinds).bind fun r_2 => if r_2 = 0 then ((f_X4_at x1 x2).bind fun r_4 => (f_X9_stepAt N r_4 x3 x4 size on kinds marks nb wanted tlen onlyF found steps).bind fun t_12 => some (t_12.1, (t_12.2.1, t_12.2.2.1, t_12.2.2.2.1, t_12.2.2.2.2.1, t_12.2.2.2.2.2))) else (some (r_2, (wanted, tlen, onlyF, found, steps)))
set_option maxHeartbeats 4000000 in
set_option maxRecDepth 100000 in
theorem c_X10_tour (l : Launch) (N : Nat) (E : nx_E) (sz : Nat) (a : Nat → Nat) (size : Int32) (on : Int32) (kinds : Nat → Int32) (marks : Nat → Int32) (nb : Nat → Int32) (reached : Int32) (dist : Nat → Int32) (lastW : Nat → Int32) (par : Nat → Int32) (ord : Nat → Int32) (paths : Nat → Int64) (costs : Nat → Int32) (wanted : Int32) (tlen : Int32) (onlyF : Int32) (found : Int32) (steps : Nat → Int32) (plen : Int32) (rowW : Nat → Int32) (rowS : Nat → Int32) (tally : Nat → Int32) (x1 : Int32) (x2 : Int32) (x3 : Int32) (x4 : Int32) (hI : nx_inj a 24) (o : Int32 × (Int32 × Int32 × Int32 × Int32 × (Nat → Int32))) (h : f_X10_tour N x1 x2 x3 x4 size on kinds marks nb wanted tlen onlyF found steps = some o) : Met l yX10_tour (.code yX10_tour cX10_tour 6 (some .int) :: nx_T) (nx_rm 26 663) (va_Pc [.ref (a 0), .int x1, .int x2, .int x3, .int x4] (nx_P E (nx_A a 24 sz) sz (cW E a size on kinds marks nb reached dist lastW par ord paths costs wanted tlen onlyF found steps plen rowW rowS tally))) (va_Qi (fun v u => (v, u) = o) (fun u t => va_P E.1 vwCl (cW E a size on kinds marks nb reached dist lastW par ord paths costs (u.1) (u.2.1) (u.2.2.1) (u.2.2.2.1) (u.2.2.2.2) plen rowW rowS tally) t.heap) (nx_A a 24 sz)) 0 0 (nx_A a 24 sz) := by
  refine nx_enI (fun v u => (v, u) = o) (fun (u : Int32 × Int32 × Int32 × Int32 × (Nat → Int32)) => (cW E a size on kinds marks nb reached dist lastW par ord paths costs (u.1) (u.2.1) (u.2.2.1) (u.2.2.2.1) (u.2.2.2.2) plen rowW rowS tally)) (by decide) (Nat.le_of_ble_eq_true rfl) ?_
  intro p e s m below meth c Q X kr hsz hP ls hl
  subst hsz
  generalize hargs : (List.toArray [.ref (a 0), .int x1, .int x2, .int x3, .int x4] : Array Value) = args at X kr ⊢
  clear hargs
  obtain ⟨⟨hx, hb, hml, hown, hts⟩, hK, hSt, hNz⟩ := id X
  have hS : va_S (nx_A a 24 s.heap.size) s.heap s.heap [] := va_S.rf
  have hl : lv_has ls 6 [(0, .ref (a 0)), (1, .int x1), (2, .int x2), (3, .int x3), (4, .int x4)] := hl
  unfold f_X10_tour at h
  suffices hw : ∀ (H : Heap) (locs : List Loc), va_P E.1 vwCl (cW E a size on kinds marks nb reached dist lastW par ord paths costs wanted tlen onlyF found steps plen rowW rowS tally) H → va_S (nx_A a 24 s.heap.size) s.heap H locs → W p l e (nx_rm 26 663) s m args below meth c H locs 0 0 Q (F0 m 0 ls []) from hw _ _ hP va_S.rf
  intro H locs hP hS
  refine lv_aload_n hx hb dX10_tour_0 rfl (lv_at hl 0 rfl) ?_
  refine lv_iload_n hx hb dX10_tour_1 rfl (lv_at hl 1 rfl) ?_
  refine lv_iload_n hx hb dX10_tour_2 rfl (lv_at hl 2 rfl) ?_
  refine lv_iload_n hx hb dX10_tour_3 rfl (lv_at hl 3 rfl) ?_
  obtain ⟨r_2, hc_1, h⟩ := nx_bd h
  refine nx_ki (nx_runV (As := [.int x1, .int x2, .int x3]) (rest := []) X hS hP (c_X10_refusalOfTour l N E H.size a size on kinds marks nb reached dist lastW par ord paths costs wanted tlen onlyF found steps plen rowW rowS tally x1 x2 x3 _ hc_1) nx_FA qV_RX10_182 ⟨rfl, rfl⟩ ⟨Nat.le_of_ble_eq_true rfl, Nat.le_of_ble_eq_true rfl⟩ ⟨Nat.zero_le _, Nat.zero_le _⟩ 0 rfl rfl rfl rfl hl.1 (Nat.le_of_ble_eq_true rfl) dX10_tour_4) hS nx_FA (fun H locs hP hS => ?_)
  refine lv_istore (lv' := [(5, .int r_2), (0, .ref (a 0)), (1, .int x1), (2, .int x2), (3, .int x3), (4, .int x4)]) hx hb dX10_tour_7 hl (by decide) rfl (fun ls hl => ?_)
  refine lv_iload hx hb dX10_tour_9 (lv_at hl 0 rfl) ?_
  refine lv_if_eq (tgt := 19) hx hb dX10_tour_11 (by decide) (fun hc => ?_) (fun hc => ?_)
  · have h := nx_it h hc
    refine lv_aload_n hx hb dX10_tour_19 rfl (lv_at hl 1 rfl) ?_
    refine nx_gf X hP uw_X10 (ci := 9) rfl 0 rfl 5 (by decide) wf_RX10_53 rfl dX10_tour_20 ?_
    refine lv_iload_n hx hb dX10_tour_23 rfl (lv_at hl 2 rfl) ?_
    refine lv_iload_n hx hb dX10_tour_24 rfl (lv_at hl 3 rfl) ?_
    obtain ⟨r_4, hc_3, h⟩ := nx_bd h
    refine nx_ki (nx_runS (As := [.int x1, .int x2]) (rest := [.ref (a 15)]) X hS hP (c_X4_at l E H.size _ x1 x2 _ hc_3) nx_FA qS_RX10_152 ⟨rfl, rfl⟩ ⟨Nat.le_of_ble_eq_true rfl, Nat.le_of_ble_eq_true rfl⟩ ⟨Nat.zero_le _, Nat.zero_le _⟩ rfl rfl hl.1 (Nat.le_of_ble_eq_true rfl) dX10_tour_25) hS nx_FA (fun H locs hP hS => ?_)
    refine lv_iload_n hx hb dX10_tour_28 rfl (lv_at hl 4 rfl) ?_
    refine lv_iload hx hb dX10_tour_29 (lv_at hl 5 rfl) ?_
    obtain ⟨⟨r_6, ⟨k_7, k_8, k_9, k_10, k_11⟩⟩, hc_5, h⟩ := nx_bd h
    refine nx_kwi (nx_runV (As := [.int r_4, .int x3, .int x4]) (rest := []) X hS hP (c_X9_stepAt l N E H.size a size on kinds marks nb reached dist lastW par ord paths costs wanted tlen onlyF found steps plen rowW rowS tally r_4 x3 x4 hI _ hc_5) (nx_Am hS.1) qV_RX10_187 ⟨rfl, rfl⟩ ⟨Nat.le_of_ble_eq_true rfl, Nat.le_of_ble_eq_true rfl⟩ ⟨Nat.zero_le _, Nat.zero_le _⟩ 15 rfl rfl rfl rfl hl.1 (Nat.le_of_ble_eq_true rfl) dX10_tour_31) hS (nx_Am hS.1) (fun H locs hP hS => ?_)
    have hP : va_P E.1 vwCl (cW E a size on kinds marks nb reached dist lastW par ord paths costs k_7 k_8 k_9 k_10 k_11 plen rowW rowS tally) H := hP
    exact kr 34 ls r_6 (k_7, k_8, k_9, k_10, k_11) H locs dX10_tour_34 (Option.some.inj h) hP hS
  · have h := nx_if h hc
    refine lv_iload hx hb dX10_tour_14 (lv_at hl 0 rfl) ?_
    refine lv_goto (tgt := 34) hx hb dX10_tour_16 (by decide) ?_
    exact kr 34 ls r_2 (wanted, tlen, onlyF, found, steps) H locs dX10_tour_34 (Option.some.inj h) hP hS
def f_X7_length  (plen : Int32) : Option (Int32) :=
  some plen
set_option maxHeartbeats 4000000 in
set_option maxRecDepth 100000 in
theorem c_X7_length (l : Launch) (E : nx_E) (sz : Nat) (a : Nat → Nat) (size : Int32) (on : Int32) (kinds : Nat → Int32) (marks : Nat → Int32) (nb : Nat → Int32) (reached : Int32) (dist : Nat → Int32) (lastW : Nat → Int32) (par : Nat → Int32) (ord : Nat → Int32) (paths : Nat → Int64) (costs : Nat → Int32) (wanted : Int32) (tlen : Int32) (onlyF : Int32) (found : Int32) (steps : Nat → Int32) (plen : Int32) (rowW : Nat → Int32) (rowS : Nat → Int32) (tally : Nat → Int32)  (o : Int32) (h : f_X7_length plen = some o) : Met l yX7_length (.code yX7_length cX7_length 1 (some .int) :: nx_T) (nx_rm 0 0) (va_Pc [.ref (a 17)] (nx_P E (nx_F) sz (cW E a size on kinds marks nb reached dist lastW par ord paths costs wanted tlen onlyF found steps plen rowW rowS tally))) (va_Qi (fun v (_ : Unit) => v = o) (fun _ t => va_P E.1 vwCl (cW E a size on kinds marks nb reached dist lastW par ord paths costs wanted tlen onlyF found steps plen rowW rowS tally) t.heap) (nx_F)) 0 0 (nx_F) := by
  refine nx_enI (fun v (_ : Unit) => v = o) (fun (_ : Unit) => (cW E a size on kinds marks nb reached dist lastW par ord paths costs wanted tlen onlyF found steps plen rowW rowS tally)) (by decide) (Nat.le_of_ble_eq_true rfl) ?_
  intro p e s m below meth c Q X kr hsz hP ls hl
  subst hsz
  generalize hargs : (List.toArray [.ref (a 17)] : Array Value) = args at X kr ⊢
  clear hargs
  obtain ⟨⟨hx, hb, hml, hown, hts⟩, hK, hSt, hNz⟩ := id X
  have hS : va_S (nx_F) s.heap s.heap [] := va_S.rf
  have hl : lv_has ls 1 [(0, .ref (a 17))] := hl
  unfold f_X7_length at h
  suffices hw : ∀ (H : Heap) (locs : List Loc), va_P E.1 vwCl (cW E a size on kinds marks nb reached dist lastW par ord paths costs wanted tlen onlyF found steps plen rowW rowS tally) H → va_S (nx_F) s.heap H locs → W p l e (nx_rm 0 0) s m args below meth c H locs 0 0 Q (F0 m 0 ls []) from hw _ _ hP va_S.rf
  intro H locs hP hS
  refine lv_aload_n hx hb dX7_length_0 rfl (lv_at hl 0 rfl) ?_
  refine nx_gf X hP uw_X7 (ci := 6) rfl 17 rfl 5 (by decide) wf_RX7_29 rfl dX7_length_1 ?_
  exact kr 4 ls plen () H locs dX7_length_4 (Option.some.inj h) hP hS
def f_X7_append_j39 (plen : Int32) (rowW : Nat → Int32) (rowS : Nat → Int32) : Option (Int32 × (Int32 × (Nat → Int32) × (Nat → Int32))) :=
  some (plen, (plen, rowW, rowS))
def f_X7_append (x1 : Int32) (x2 : Int32) (plen : Int32) (rowW : Nat → Int32) (rowS : Nat → Int32) : Option (Int32 × (Int32 × (Nat → Int32) × (Nat → Int32))) :=
  if 20 ≤ plen then (f_X7_append_j39 plen rowW rowS) else ((nx_ck 20 plen).bind fun _ => (nx_ck 20 plen).bind fun _ => f_X7_append_j39 (plen + 1) (upd rowW plen.toNatClampNeg x1) (upd rowS plen.toNatClampNeg x2))
set_option maxHeartbeats 4000000 in
set_option maxRecDepth 100000 in
theorem c_X7_append (l : Launch) (E : nx_E) (sz : Nat) (a : Nat → Nat) (size : Int32) (on : Int32) (kinds : Nat → Int32) (marks : Nat → Int32) (nb : Nat → Int32) (reached : Int32) (dist : Nat → Int32) (lastW : Nat → Int32) (par : Nat → Int32) (ord : Nat → Int32) (paths : Nat → Int64) (costs : Nat → Int32) (wanted : Int32) (tlen : Int32) (onlyF : Int32) (found : Int32) (steps : Nat → Int32) (plen : Int32) (rowW : Nat → Int32) (rowS : Nat → Int32) (tally : Nat → Int32) (x1 : Int32) (x2 : Int32) (hI : nx_inj a 24) (o : Int32 × (Int32 × (Nat → Int32) × (Nat → Int32))) (h : f_X7_append x1 x2 plen rowW rowS = some o) : Met l yX7_append (.code yX7_append cX7_append 3 (some .int) :: nx_T) (nx_rm 0 0) (va_Pc [.ref (a 17), .int x1, .int x2] (nx_P E (nx_A a 24 sz) sz (cW E a size on kinds marks nb reached dist lastW par ord paths costs wanted tlen onlyF found steps plen rowW rowS tally))) (va_Qi (fun v u => (v, u) = o) (fun u t => va_P E.1 vwCl (cW E a size on kinds marks nb reached dist lastW par ord paths costs wanted tlen onlyF found steps (u.1) (u.2.1) (u.2.2) tally) t.heap) (nx_A a 24 sz)) 0 0 (nx_A a 24 sz) := by
  refine nx_enI (fun v u => (v, u) = o) (fun (u : Int32 × (Nat → Int32) × (Nat → Int32)) => (cW E a size on kinds marks nb reached dist lastW par ord paths costs wanted tlen onlyF found steps (u.1) (u.2.1) (u.2.2) tally)) (by decide) (Nat.le_of_ble_eq_true rfl) ?_
  intro p e s m below meth c Q X kr hsz hP ls hl
  subst hsz
  generalize hargs : (List.toArray [.ref (a 17), .int x1, .int x2] : Array Value) = args at X kr ⊢
  clear hargs
  obtain ⟨⟨hx, hb, hml, hown, hts⟩, hK, hSt, hNz⟩ := id X
  have hS : va_S (nx_A a 24 s.heap.size) s.heap s.heap [] := va_S.rf
  have hl : lv_has ls 3 [(0, .ref (a 17)), (1, .int x1), (2, .int x2)] := hl
  have J39 : ∀ (plen : Int32) (rowW : Nat → Int32) (rowS : Nat → Int32), f_X7_append_j39 plen rowW rowS = some o → ∀ (H : Heap) (locs : List Loc) (ls : Array Slot), va_P E.1 vwCl (cW E a size on kinds marks nb reached dist lastW par ord paths costs wanted tlen onlyF found steps plen rowW rowS tally) H → va_S (nx_A a 24 s.heap.size) s.heap H locs → lv_has ls 3 [(0, .ref (a 17))] → W p l e (nx_rm 0 0) s m args below meth c H locs 0 0 Q (F0 m 39 ls []) := by
    intro plen rowW rowS h H locs ls hP hS hl
    unfold f_X7_append_j39 at h
    refine lv_aload_n hx hb dX7_append_39 rfl (lv_at hl 0 rfl) ?_
    refine nx_gf X hP uw_X7 (ci := 6) rfl 17 rfl 5 (by decide) wf_RX7_29 rfl dX7_append_40 ?_
    exact kr 43 ls plen (plen, rowW, rowS) H locs dX7_append_43 (Option.some.inj h) hP hS
  unfold f_X7_append at h
  suffices hw : ∀ (H : Heap) (locs : List Loc), va_P E.1 vwCl (cW E a size on kinds marks nb reached dist lastW par ord paths costs wanted tlen onlyF found steps plen rowW rowS tally) H → va_S (nx_A a 24 s.heap.size) s.heap H locs → W p l e (nx_rm 0 0) s m args below meth c H locs 0 0 Q (F0 m 0 ls []) from hw _ _ hP va_S.rf
  intro H locs hP hS
  refine lv_aload_n hx hb dX7_append_0 rfl (lv_at hl 0 rfl) ?_
  refine nx_gf X hP uw_X7 (ci := 6) rfl 17 rfl 5 (by decide) wf_RX7_29 rfl dX7_append_1 ?_
  refine lv_bipush (v := 20) hx hb dX7_append_4 (by decide) ?_
  refine lv_icmp_ge (tgt := 39) hx hb dX7_append_6 (by decide) (fun hc => ?_) (fun hc => ?_)
  · have h := nx_it h hc
    exact J39 _ _ _ h H locs ls hP hS (lv_sub hl [0] rfl)
  · have h := nx_if h hc
    refine lv_aload_n hx hb dX7_append_9 rfl (lv_at hl 0 rfl) ?_
    refine nx_gf X hP uw_X7 (ci := 6) rfl 17 rfl 2 (by decide) wf_RX7_9 rfl dX7_append_10 ?_
    refine lv_aload_n hx hb dX7_append_13 rfl (lv_at hl 0 rfl) ?_
    refine nx_gf X hP uw_X7 (ci := 6) rfl 17 rfl 5 (by decide) wf_RX7_29 rfl dX7_append_14 ?_
    refine lv_iload_n hx hb dX7_append_17 rfl (lv_at hl 1 rfl) ?_
    obtain ⟨hv_1, h⟩ := nx_cb h
    refine nx_st X hI cW_ad hP hS 18 rfl hv_1 dX7_append_18 (fun H locs hP hS => ?_)
    have hP : va_P E.1 vwCl (cW E a size on kinds marks nb reached dist lastW par ord paths costs wanted tlen onlyF found steps plen (upd rowW plen.toNatClampNeg x1) rowS tally) H := hP
    refine lv_aload_n hx hb dX7_append_19 rfl (lv_at hl 0 rfl) ?_
    refine nx_gf X hP uw_X7 (ci := 6) rfl 17 rfl 3 (by decide) wf_RX7_15 rfl dX7_append_20 ?_
    refine lv_aload_n hx hb dX7_append_23 rfl (lv_at hl 0 rfl) ?_
    refine nx_gf X hP uw_X7 (ci := 6) rfl 17 rfl 5 (by decide) wf_RX7_29 rfl dX7_append_24 ?_
    refine lv_iload_n hx hb dX7_append_27 rfl (lv_at hl 2 rfl) ?_
    obtain ⟨hv_2, h⟩ := nx_cb h
    refine nx_st X hI cW_ad hP hS 19 rfl hv_2 dX7_append_28 (fun H locs hP hS => ?_)
    have hP : va_P E.1 vwCl (cW E a size on kinds marks nb reached dist lastW par ord paths costs wanted tlen onlyF found steps plen (upd rowW plen.toNatClampNeg x1) (upd rowS plen.toNatClampNeg x2) tally) H := hP
    refine lv_aload_n hx hb dX7_append_29 rfl (lv_at hl 0 rfl) ?_
    refine lv_dup hx hb dX7_append_30 rfl ?_
    refine nx_gf X hP uw_X7 (ci := 6) rfl 17 rfl 5 (by decide) wf_RX7_29 rfl dX7_append_31 ?_
    refine lv_iconst (v := 1) hx hb dX7_append_34 (by decide) ?_
    refine lv_iadd hx hb dX7_append_35 ?_
    refine nx_pf (ty := .int) (v := .int (plen + 1)) X hI cW_ad hP hS uw_X7 tyX7 tyX7_ok nmX7 (ci := 6) rfl 17 rfl 5 (by decide) wf_RX7_29 rfl (by decide +kernel) rfl rfl (Nat.le_of_ble_eq_true rfl) dX7_append_36 (fun H locs hP hS => ?_)
    have hP : va_P E.1 vwCl (cW E a size on kinds marks nb reached dist lastW par ord paths costs wanted tlen onlyF found steps (plen + 1) (upd rowW plen.toNatClampNeg x1) (upd rowS plen.toNatClampNeg x2) tally) H := hP
    exact J39 _ _ _ h H locs ls hP hS (lv_sub hl [0] rfl)
def f_X10_row (x1 : Int32) (x2 : Int32) (plen : Int32) (rowW : Nat → Int32) (rowS : Nat → Int32) : Option (Int32 × (Int32 × (Nat → Int32) × (Nat → Int32))) :=
  (f_X10_isWay x1).bind fun r_2 => if r_2 = 0 then (some ((-2), (plen, rowW, rowS))) else (if x2 < 0 then (some ((-2), (plen, rowW, rowS))) else (if x2 ≤ 6 then ((f_X7_length plen).bind fun r_4 => if r_4 < 20 then ((f_X7_append x1 x2 plen rowW rowS).bind fun t_10 => some (t_10.1, (t_10.2.1, t_10.2.2.1, t_10.2.2.2))) else (some ((-4), (plen, rowW, rowS)))) else (some ((-2), (plen, rowW, rowS)))))
set_option maxHeartbeats 4000000 in
set_option maxRecDepth 100000 in
theorem c_X10_row (l : Launch) (E : nx_E) (sz : Nat) (a : Nat → Nat) (size : Int32) (on : Int32) (kinds : Nat → Int32) (marks : Nat → Int32) (nb : Nat → Int32) (reached : Int32) (dist : Nat → Int32) (lastW : Nat → Int32) (par : Nat → Int32) (ord : Nat → Int32) (paths : Nat → Int64) (costs : Nat → Int32) (wanted : Int32) (tlen : Int32) (onlyF : Int32) (found : Int32) (steps : Nat → Int32) (plen : Int32) (rowW : Nat → Int32) (rowS : Nat → Int32) (tally : Nat → Int32) (x1 : Int32) (x2 : Int32) (hI : nx_inj a 24) (o : Int32 × (Int32 × (Nat → Int32) × (Nat → Int32))) (h : f_X10_row x1 x2 plen rowW rowS = some o) : Met l yX10_row (.code yX10_row cX10_row 3 (some .int) :: nx_T) (nx_rm 1 22) (va_Pc [.ref (a 0), .int x1, .int x2] (nx_P E (nx_A a 24 sz) sz (cW E a size on kinds marks nb reached dist lastW par ord paths costs wanted tlen onlyF found steps plen rowW rowS tally))) (va_Qi (fun v u => (v, u) = o) (fun u t => va_P E.1 vwCl (cW E a size on kinds marks nb reached dist lastW par ord paths costs wanted tlen onlyF found steps (u.1) (u.2.1) (u.2.2) tally) t.heap) (nx_A a 24 sz)) 0 0 (nx_A a 24 sz) := by
  refine nx_enI (fun v u => (v, u) = o) (fun (u : Int32 × (Nat → Int32) × (Nat → Int32)) => (cW E a size on kinds marks nb reached dist lastW par ord paths costs wanted tlen onlyF found steps (u.1) (u.2.1) (u.2.2) tally)) (by decide) (Nat.le_of_ble_eq_true rfl) ?_
  intro p e s m below meth c Q X kr hsz hP ls hl
  subst hsz
  generalize hargs : (List.toArray [.ref (a 0), .int x1, .int x2] : Array Value) = args at X kr ⊢
  clear hargs
  obtain ⟨⟨hx, hb, hml, hown, hts⟩, hK, hSt, hNz⟩ := id X
  have hS : va_S (nx_A a 24 s.heap.size) s.heap s.heap [] := va_S.rf
  have hl : lv_has ls 3 [(0, .ref (a 0)), (1, .int x1), (2, .int x2)] := hl
  unfold f_X10_row at h
  suffices hw : ∀ (H : Heap) (locs : List Loc), va_P E.1 vwCl (cW E a size on kinds marks nb reached dist lastW par ord paths costs wanted tlen onlyF found steps plen rowW rowS tally) H → va_S (nx_A a 24 s.heap.size) s.heap H locs → W p l e (nx_rm 1 22) s m args below meth c H locs 0 0 Q (F0 m 0 ls []) from hw _ _ hP va_S.rf
  intro H locs hP hS
  refine lv_iload_n hx hb dX10_row_0 rfl (lv_at hl 1 rfl) ?_
  obtain ⟨r_2, hc_1, h⟩ := nx_bd h
  refine nx_ki (nx_runS (As := [.int x1]) (rest := []) X hS hP (c_X10_isWay l E H.size _ x1 _ hc_1) nx_FA qS_RX10_123 ⟨rfl, rfl⟩ ⟨Nat.le_of_ble_eq_true rfl, Nat.le_of_ble_eq_true rfl⟩ ⟨Nat.zero_le _, Nat.zero_le _⟩ rfl rfl hl.1 (Nat.le_of_ble_eq_true rfl) dX10_row_1) hS nx_FA (fun H locs hP hS => ?_)
  refine lv_if_eq (tgt := 17) hx hb dX10_row_4 (by decide) (fun hc => ?_) (fun hc => ?_)
  · have h := nx_it h hc
    refine lv_bipush (v := (-2)) hx hb dX10_row_17 (by decide) ?_
    exact kr 19 ls (-2) (plen, rowW, rowS) H locs dX10_row_19 (Option.some.inj h) hP hS
  · have h := nx_if h hc
    refine lv_iload_n hx hb dX10_row_7 rfl (lv_at hl 2 rfl) ?_
    refine lv_if_lt (tgt := 17) hx hb dX10_row_8 (by decide) (fun hc => ?_) (fun hc => ?_)
    · have h := nx_it h hc
      refine lv_bipush (v := (-2)) hx hb dX10_row_17 (by decide) ?_
      exact kr 19 ls (-2) (plen, rowW, rowS) H locs dX10_row_19 (Option.some.inj h) hP hS
    · have h := nx_if h hc
      refine lv_iload_n hx hb dX10_row_11 rfl (lv_at hl 2 rfl) ?_
      refine lv_bipush (v := 6) hx hb dX10_row_12 (by decide) ?_
      refine lv_icmp_le (tgt := 20) hx hb dX10_row_14 (by decide) (fun hc => ?_) (fun hc => ?_)
      · have h := nx_it h hc
        refine lv_aload_n hx hb dX10_row_20 rfl (lv_at hl 0 rfl) ?_
        refine nx_gf X hP uw_X10 (ci := 9) rfl 0 rfl 6 (by decide) wf_RX10_60 rfl dX10_row_21 ?_
        obtain ⟨r_4, hc_3, h⟩ := nx_bd h
        refine nx_ki (nx_runV (As := []) (rest := []) X hS hP (c_X7_length l E H.size a size on kinds marks nb reached dist lastW par ord paths costs wanted tlen onlyF found steps plen rowW rowS tally _ hc_3) nx_FA qV_RX10_189 ⟨rfl, rfl⟩ ⟨Nat.le_of_ble_eq_true rfl, Nat.le_of_ble_eq_true rfl⟩ ⟨Nat.zero_le _, Nat.zero_le _⟩ 17 rfl rfl rfl rfl hl.1 (Nat.le_of_ble_eq_true rfl) dX10_row_24) hS nx_FA (fun H locs hP hS => ?_)
        refine lv_bipush (v := 20) hx hb dX10_row_27 (by decide) ?_
        refine lv_icmp_lt (tgt := 37) hx hb dX10_row_29 (by decide) (fun hc => ?_) (fun hc => ?_)
        · have h := nx_it h hc
          refine lv_aload_n hx hb dX10_row_37 rfl (lv_at hl 0 rfl) ?_
          refine nx_gf X hP uw_X10 (ci := 9) rfl 0 rfl 6 (by decide) wf_RX10_60 rfl dX10_row_38 ?_
          refine lv_iload_n hx hb dX10_row_41 rfl (lv_at hl 1 rfl) ?_
          refine lv_iload_n hx hb dX10_row_42 rfl (lv_at hl 2 rfl) ?_
          obtain ⟨⟨r_6, ⟨k_7, k_8, k_9⟩⟩, hc_5, h⟩ := nx_bd h
          refine nx_kwi (nx_runV (As := [.int x1, .int x2]) (rest := []) X hS hP (c_X7_append l E H.size a size on kinds marks nb reached dist lastW par ord paths costs wanted tlen onlyF found steps plen rowW rowS tally x1 x2 hI _ hc_5) (nx_Am hS.1) qV_RX10_191 ⟨rfl, rfl⟩ ⟨Nat.le_of_ble_eq_true rfl, Nat.le_of_ble_eq_true rfl⟩ ⟨Nat.zero_le _, Nat.zero_le _⟩ 17 rfl rfl rfl rfl hl.1 (Nat.le_of_ble_eq_true rfl) dX10_row_43) hS (nx_Am hS.1) (fun H locs hP hS => ?_)
          have hP : va_P E.1 vwCl (cW E a size on kinds marks nb reached dist lastW par ord paths costs wanted tlen onlyF found steps k_7 k_8 k_9 tally) H := hP
          exact kr 46 ls r_6 (k_7, k_8, k_9) H locs dX10_row_46 (Option.some.inj h) hP hS
        · have h := nx_if h hc
          refine lv_bipush (v := (-4)) hx hb dX10_row_32 (by decide) ?_
          refine lv_goto (tgt := 46) hx hb dX10_row_34 (by decide) ?_
          exact kr 46 ls (-4) (plen, rowW, rowS) H locs dX10_row_46 (Option.some.inj h) hP hS
      · have h := nx_if h hc
        refine lv_bipush (v := (-2)) hx hb dX10_row_17 (by decide) ?_
        exact kr 19 ls (-2) (plen, rowW, rowS) H locs dX10_row_19 (Option.some.inj h) hP hS
def f_X7_drop  (plen : Int32) : Option (Int32 × (Int32)) :=
  some (plen, 0)
set_option maxHeartbeats 4000000 in
set_option maxRecDepth 100000 in
theorem c_X7_drop (l : Launch) (E : nx_E) (sz : Nat) (a : Nat → Nat) (size : Int32) (on : Int32) (kinds : Nat → Int32) (marks : Nat → Int32) (nb : Nat → Int32) (reached : Int32) (dist : Nat → Int32) (lastW : Nat → Int32) (par : Nat → Int32) (ord : Nat → Int32) (paths : Nat → Int64) (costs : Nat → Int32) (wanted : Int32) (tlen : Int32) (onlyF : Int32) (found : Int32) (steps : Nat → Int32) (plen : Int32) (rowW : Nat → Int32) (rowS : Nat → Int32) (tally : Nat → Int32)  (hI : nx_inj a 24) (o : Int32 × (Int32)) (h : f_X7_drop plen = some o) : Met l yX7_drop (.code yX7_drop cX7_drop 2 (some .int) :: nx_T) (nx_rm 0 0) (va_Pc [.ref (a 17)] (nx_P E (nx_A a 24 sz) sz (cW E a size on kinds marks nb reached dist lastW par ord paths costs wanted tlen onlyF found steps plen rowW rowS tally))) (va_Qi (fun v u => (v, u) = o) (fun u t => va_P E.1 vwCl (cW E a size on kinds marks nb reached dist lastW par ord paths costs wanted tlen onlyF found steps u rowW rowS tally) t.heap) (nx_A a 24 sz)) 0 0 (nx_A a 24 sz) := by
  refine nx_enI (fun v u => (v, u) = o) (fun (u : Int32) => (cW E a size on kinds marks nb reached dist lastW par ord paths costs wanted tlen onlyF found steps u rowW rowS tally)) (by decide) (Nat.le_of_ble_eq_true rfl) ?_
  intro p e s m below meth c Q X kr hsz hP ls hl
  subst hsz
  generalize hargs : (List.toArray [.ref (a 17)] : Array Value) = args at X kr ⊢
  clear hargs
  obtain ⟨⟨hx, hb, hml, hown, hts⟩, hK, hSt, hNz⟩ := id X
  have hS : va_S (nx_A a 24 s.heap.size) s.heap s.heap [] := va_S.rf
  have hl : lv_has ls 2 [(0, .ref (a 17))] := hl
  unfold f_X7_drop at h
  suffices hw : ∀ (H : Heap) (locs : List Loc), va_P E.1 vwCl (cW E a size on kinds marks nb reached dist lastW par ord paths costs wanted tlen onlyF found steps plen rowW rowS tally) H → va_S (nx_A a 24 s.heap.size) s.heap H locs → W p l e (nx_rm 0 0) s m args below meth c H locs 0 0 Q (F0 m 0 ls []) from hw _ _ hP va_S.rf
  intro H locs hP hS
  refine lv_aload_n hx hb dX7_drop_0 rfl (lv_at hl 0 rfl) ?_
  refine nx_gf X hP uw_X7 (ci := 6) rfl 17 rfl 5 (by decide) wf_RX7_29 rfl dX7_drop_1 ?_
  refine lv_istore_n (lv' := [(1, .int plen), (0, .ref (a 17))]) hx hb dX7_drop_4 rfl hl (by decide) rfl (fun ls hl => ?_)
  refine lv_aload_n hx hb dX7_drop_5 rfl (lv_at hl 1 rfl) ?_
  refine lv_iconst (v := 0) hx hb dX7_drop_6 (by decide) ?_
  refine nx_pf (ty := .int) (v := .int 0) X hI cW_ad hP hS uw_X7 tyX7 tyX7_ok nmX7 (ci := 6) rfl 17 rfl 5 (by decide) wf_RX7_29 rfl (by decide +kernel) rfl rfl (Nat.le_of_ble_eq_true rfl) dX7_drop_7 (fun H locs hP hS => ?_)
  have hP : va_P E.1 vwCl (cW E a size on kinds marks nb reached dist lastW par ord paths costs wanted tlen onlyF found steps 0 rowW rowS tally) H := hP
  refine lv_iload_n hx hb dX7_drop_10 rfl (lv_at hl 0 rfl) ?_
  exact kr 11 ls plen 0 H locs dX7_drop_11 (Option.some.inj h) hP hS
def f_X10_clear  (plen : Int32) : Option (Int32 × (Int32)) :=
  (f_X7_drop plen).bind fun t_4 => some (t_4.1, t_4.2)
set_option maxHeartbeats 4000000 in
set_option maxRecDepth 100000 in
theorem c_X10_clear (l : Launch) (E : nx_E) (sz : Nat) (a : Nat → Nat) (size : Int32) (on : Int32) (kinds : Nat → Int32) (marks : Nat → Int32) (nb : Nat → Int32) (reached : Int32) (dist : Nat → Int32) (lastW : Nat → Int32) (par : Nat → Int32) (ord : Nat → Int32) (paths : Nat → Int64) (costs : Nat → Int32) (wanted : Int32) (tlen : Int32) (onlyF : Int32) (found : Int32) (steps : Nat → Int32) (plen : Int32) (rowW : Nat → Int32) (rowS : Nat → Int32) (tally : Nat → Int32)  (hI : nx_inj a 24) (o : Int32 × (Int32)) (h : f_X10_clear plen = some o) : Met l yX10_clear (.code yX10_clear cX10_clear 1 (some .int) :: nx_T) (nx_rm 1 21) (va_Pc [.ref (a 0)] (nx_P E (nx_A a 24 sz) sz (cW E a size on kinds marks nb reached dist lastW par ord paths costs wanted tlen onlyF found steps plen rowW rowS tally))) (va_Qi (fun v u => (v, u) = o) (fun u t => va_P E.1 vwCl (cW E a size on kinds marks nb reached dist lastW par ord paths costs wanted tlen onlyF found steps u rowW rowS tally) t.heap) (nx_A a 24 sz)) 0 0 (nx_A a 24 sz) := by
  refine nx_enI (fun v u => (v, u) = o) (fun (u : Int32) => (cW E a size on kinds marks nb reached dist lastW par ord paths costs wanted tlen onlyF found steps u rowW rowS tally)) (by decide) (Nat.le_of_ble_eq_true rfl) ?_
  intro p e s m below meth c Q X kr hsz hP ls hl
  subst hsz
  generalize hargs : (List.toArray [.ref (a 0)] : Array Value) = args at X kr ⊢
  clear hargs
  obtain ⟨⟨hx, hb, hml, hown, hts⟩, hK, hSt, hNz⟩ := id X
  have hS : va_S (nx_A a 24 s.heap.size) s.heap s.heap [] := va_S.rf
  have hl : lv_has ls 1 [(0, .ref (a 0))] := hl
  unfold f_X10_clear at h
  suffices hw : ∀ (H : Heap) (locs : List Loc), va_P E.1 vwCl (cW E a size on kinds marks nb reached dist lastW par ord paths costs wanted tlen onlyF found steps plen rowW rowS tally) H → va_S (nx_A a 24 s.heap.size) s.heap H locs → W p l e (nx_rm 1 21) s m args below meth c H locs 0 0 Q (F0 m 0 ls []) from hw _ _ hP va_S.rf
  intro H locs hP hS
  refine lv_aload_n hx hb dX10_clear_0 rfl (lv_at hl 0 rfl) ?_
  refine nx_gf X hP uw_X10 (ci := 9) rfl 0 rfl 6 (by decide) wf_RX10_60 rfl dX10_clear_1 ?_
  obtain ⟨⟨r_2, k_3⟩, hc_1, h⟩ := nx_bd h
  refine nx_kwi (nx_runV (As := []) (rest := []) X hS hP (c_X7_drop l E H.size a size on kinds marks nb reached dist lastW par ord paths costs wanted tlen onlyF found steps plen rowW rowS tally hI _ hc_1) (nx_Am hS.1) qV_RX10_194 ⟨rfl, rfl⟩ ⟨Nat.le_of_ble_eq_true rfl, Nat.le_of_ble_eq_true rfl⟩ ⟨Nat.zero_le _, Nat.zero_le _⟩ 17 rfl rfl rfl rfl hl.1 (Nat.le_of_ble_eq_true rfl) dX10_clear_4) hS (nx_Am hS.1) (fun H locs hP hS => ?_)
  have hP : va_P E.1 vwCl (cW E a size on kinds marks nb reached dist lastW par ord paths costs wanted tlen onlyF found steps k_3 rowW rowS tally) H := hP
  exact kr 7 ls r_2 k_3 H locs dX10_clear_7 (Option.some.inj h) hP hS
def f_X7_allStarts  (size : Int32) : Option (Int32) :=
  (f_X2_size size).bind fun r_2 => some (24 * r_2)
set_option maxHeartbeats 4000000 in
set_option maxRecDepth 100000 in
theorem c_X7_allStarts (l : Launch) (E : nx_E) (sz : Nat) (a : Nat → Nat) (size : Int32) (on : Int32) (kinds : Nat → Int32) (marks : Nat → Int32) (nb : Nat → Int32) (reached : Int32) (dist : Nat → Int32) (lastW : Nat → Int32) (par : Nat → Int32) (ord : Nat → Int32) (paths : Nat → Int64) (costs : Nat → Int32) (wanted : Int32) (tlen : Int32) (onlyF : Int32) (found : Int32) (steps : Nat → Int32) (plen : Int32) (rowW : Nat → Int32) (rowS : Nat → Int32) (tally : Nat → Int32)  (o : Int32) (h : f_X7_allStarts size = some o) : Met l yX7_allStarts (.code yX7_allStarts cX7_allStarts 1 (some .int) :: nx_T) (nx_rm 1 20) (va_Pc [.ref (a 17)] (nx_P E (nx_F) sz (cW E a size on kinds marks nb reached dist lastW par ord paths costs wanted tlen onlyF found steps plen rowW rowS tally))) (va_Qi (fun v (_ : Unit) => v = o) (fun _ t => va_P E.1 vwCl (cW E a size on kinds marks nb reached dist lastW par ord paths costs wanted tlen onlyF found steps plen rowW rowS tally) t.heap) (nx_F)) 0 0 (nx_F) := by
  refine nx_enI (fun v (_ : Unit) => v = o) (fun (_ : Unit) => (cW E a size on kinds marks nb reached dist lastW par ord paths costs wanted tlen onlyF found steps plen rowW rowS tally)) (by decide) (Nat.le_of_ble_eq_true rfl) ?_
  intro p e s m below meth c Q X kr hsz hP ls hl
  subst hsz
  generalize hargs : (List.toArray [.ref (a 17)] : Array Value) = args at X kr ⊢
  clear hargs
  obtain ⟨⟨hx, hb, hml, hown, hts⟩, hK, hSt, hNz⟩ := id X
  have hS : va_S (nx_F) s.heap s.heap [] := va_S.rf
  have hl : lv_has ls 1 [(0, .ref (a 17))] := hl
  unfold f_X7_allStarts at h
  suffices hw : ∀ (H : Heap) (locs : List Loc), va_P E.1 vwCl (cW E a size on kinds marks nb reached dist lastW par ord paths costs wanted tlen onlyF found steps plen rowW rowS tally) H → va_S (nx_F) s.heap H locs → W p l e (nx_rm 1 20) s m args below meth c H locs 0 0 Q (F0 m 0 ls []) from hw _ _ hP va_S.rf
  intro H locs hP hS
  refine lv_bipush (v := 24) hx hb dX7_allStarts_0 (by decide) ?_
  refine lv_aload_n hx hb dX7_allStarts_2 rfl (lv_at hl 0 rfl) ?_
  refine nx_gf X hP uw_X7 (ci := 6) rfl 17 rfl 0 (by decide) wf_RX7_21 rfl dX7_allStarts_3 ?_
  obtain ⟨r_2, hc_1, h⟩ := nx_bd h
  refine nx_ki (nx_runV (As := []) (rest := [.int 24]) X hS hP (c_X2_size l E H.size a size on kinds marks nb reached dist lastW par ord paths costs wanted tlen onlyF found steps plen rowW rowS tally _ hc_1) nx_FA qV_RX7_89 ⟨rfl, rfl⟩ ⟨Nat.le_of_ble_eq_true rfl, Nat.le_of_ble_eq_true rfl⟩ ⟨Nat.zero_le _, Nat.zero_le _⟩ 1 rfl rfl rfl rfl hl.1 (Nat.le_of_ble_eq_true rfl) dX7_allStarts_6) hS nx_FA (fun H locs hP hS => ?_)
  refine lv_imul hx hb dX7_allStarts_9 ?_
  exact kr 10 ls (24 * r_2) () H locs dX7_allStarts_10 (Option.some.inj h) hP hS
def f_X7_endOf_b4 (size : Int32) (on : Int32) (kinds : Nat → Int32) (marks : Nat → Int32) (nb : Nat → Int32) (plen : Int32) (rowW : Nat → Int32) (rowS : Nat → Int32) (rec : (Int32 × Int32) → Option ((Int32) ⊕ (Int32))) (x2 : Int32) (x3 : Int32) : Option ((Int32) ⊕ (Int32)) :=
  if plen ≤ x3 then (some (.inr x2)) else (if 20 ≤ x3 then (some (.inr x2)) else ((nx_rd rowW 20 x3).bind fun _ => (f_X4_after x2 (rowW x3.toNatClampNeg) size on kinds marks nb).bind fun r_4 => if r_4 = (-1) then (some (.inl (-1))) else ((nx_rd rowS 20 x3).bind fun _ => if (rowS x3.toNatClampNeg) = 0 then (rec (r_4, (x3 + 1))) else ((nx_rd rowS 20 x3).bind fun _ => (f_X4_printOf r_4).bind fun r_10 => if (rowS x3.toNatClampNeg) = r_10 then (rec (r_4, (x3 + 1))) else (some (.inl (-1)))))))
def f_X7_endOf_l4 (size : Int32) (on : Int32) (kinds : Nat → Int32) (marks : Nat → Int32) (nb : Nat → Int32) (plen : Int32) (rowW : Nat → Int32) (rowS : Nat → Int32) : Nat → (Int32 × Int32) → Option ((Int32) ⊕ (Int32)) := nx_lp (fun rec z => f_X7_endOf_b4 size on kinds marks nb plen rowW rowS rec z.1 z.2)
def f_X7_endOf (N : Nat) (x1 : Int32) (size : Int32) (on : Int32) (kinds : Nat → Int32) (marks : Nat → Int32) (nb : Nat → Int32) (plen : Int32) (rowW : Nat → Int32) (rowS : Nat → Int32) : Option (Int32) :=
  (f_X7_endOf_l4 size on kinds marks nb plen rowW rowS N (x1, 0)).bind fun z_11 => Sum.elim (fun rr => some rr) (fun y_13 => some y_13) z_11
set_option maxHeartbeats 4000000 in
set_option maxRecDepth 100000 in
theorem c_X7_endOf (l : Launch) (N : Nat) (E : nx_E) (sz : Nat) (a : Nat → Nat) (size : Int32) (on : Int32) (kinds : Nat → Int32) (marks : Nat → Int32) (nb : Nat → Int32) (reached : Int32) (dist : Nat → Int32) (lastW : Nat → Int32) (par : Nat → Int32) (ord : Nat → Int32) (paths : Nat → Int64) (costs : Nat → Int32) (wanted : Int32) (tlen : Int32) (onlyF : Int32) (found : Int32) (steps : Nat → Int32) (plen : Int32) (rowW : Nat → Int32) (rowS : Nat → Int32) (tally : Nat → Int32) (x1 : Int32) (o : Int32) (h : f_X7_endOf N x1 size on kinds marks nb plen rowW rowS = some o) : Met l yX7_endOf (.code yX7_endOf cX7_endOf 4 (some .int) :: nx_T) (nx_rm 3 71) (va_Pc [.ref (a 17), .int x1] (nx_P E (nx_F) sz (cW E a size on kinds marks nb reached dist lastW par ord paths costs wanted tlen onlyF found steps plen rowW rowS tally))) (va_Qi (fun v (_ : Unit) => v = o) (fun _ t => va_P E.1 vwCl (cW E a size on kinds marks nb reached dist lastW par ord paths costs wanted tlen onlyF found steps plen rowW rowS tally) t.heap) (nx_F)) 0 0 (nx_F) := by
  refine nx_enI (fun v (_ : Unit) => v = o) (fun (_ : Unit) => (cW E a size on kinds marks nb reached dist lastW par ord paths costs wanted tlen onlyF found steps plen rowW rowS tally)) (by decide) (Nat.le_of_ble_eq_true rfl) ?_
  intro p e s m below meth c Q X kr hsz hP ls hl
  subst hsz
  generalize hargs : (List.toArray [.ref (a 17), .int x1] : Array Value) = args at X kr ⊢
  clear hargs
  obtain ⟨⟨hx, hb, hml, hown, hts⟩, hK, hSt, hNz⟩ := id X
  have hS : va_S (nx_F) s.heap s.heap [] := va_S.rf
  have hl : lv_has ls 4 [(0, .ref (a 17)), (1, .int x1)] := hl
  have L4 : ∀ (n : Nat) (x2 : Int32) (x3 : Int32) (z : ((Int32) ⊕ (Int32))), f_X7_endOf_l4 size on kinds marks nb plen rowW rowS n (x2, x3) = some z → ∀ (H : Heap) (locs : List Loc) (ls : Array Slot), va_P E.1 vwCl (cW E a size on kinds marks nb reached dist lastW par ord paths costs wanted tlen onlyF found steps plen rowW rowS tally) H → va_S (nx_F) s.heap H locs → lv_has ls 4 [(0, .ref (a 17)), (2, .int x2), (3, .int x3)] → ∀ (kL : ∀ r, z = .inl r → ∀ (pc : Nat) (ls : Array Slot) (v : Int32) (u : Unit) (H : Heap) (locs : List Loc), decode cX7_endOf pc = .ok (.ireturn, 1) → v = r → va_P E.1 vwCl (cW E a size on kinds marks nb reached dist lastW par ord paths costs wanted tlen onlyF found steps plen rowW rowS tally) H → va_S (nx_F) s.heap H locs → W p l e (nx_rm 3 71) s m args below meth c H locs 0 0 Q (F0 m pc ls [.int v])) (kR : ∀ y, z = .inr y → ∀ (H : Heap) (locs : List Loc) (ls : Array Slot), va_P E.1 vwCl (cW E a size on kinds marks nb reached dist lastW par ord paths costs wanted tlen onlyF found steps plen rowW rowS tally) H → va_S (nx_F) s.heap H locs → lv_has ls 4 [(0, .ref (a 17)), (2, .int y)] → W p l e (nx_rm 3 71) s m args below meth c H locs 0 0 Q (F0 m 70 ls [])), W p l e (nx_rm 3 71) s m args below meth c H locs 0 0 Q (F0 m 4 ls []) := by
   intro  n
   induction n with
   | zero => intro x2 x3 z h; exact nomatch (show none = some z from h)
   | succ n ih =>
    intro x2 x3 z h H locs ls hP hS hl kL kR
    have h : f_X7_endOf_b4 size on kinds marks nb plen rowW rowS (f_X7_endOf_l4 size on kinds marks nb plen rowW rowS n) x2 x3 = some z := h
    unfold f_X7_endOf_b4 at h
    refine lv_iload_n hx hb dX7_endOf_4 rfl (lv_at hl 2 rfl) ?_
    refine lv_aload_n hx hb dX7_endOf_5 rfl (lv_at hl 0 rfl) ?_
    refine nx_gf X hP uw_X7 (ci := 6) rfl 17 rfl 5 (by decide) wf_RX7_29 rfl dX7_endOf_6 ?_
    refine lv_icmp_ge (tgt := 70) hx hb dX7_endOf_9 (by decide) (fun hc => ?_) (fun hc => ?_)
    · have h := nx_it h hc
      exact kR _ (Option.some.inj h).symm H locs ls hP hS (lv_sub hl [0, 1] rfl)
    · have h := nx_if h hc
      refine lv_iload_n hx hb dX7_endOf_12 rfl (lv_at hl 2 rfl) ?_
      refine lv_bipush (v := 20) hx hb dX7_endOf_13 (by decide) ?_
      refine lv_icmp_ge (tgt := 70) hx hb dX7_endOf_15 (by decide) (fun hc => ?_) (fun hc => ?_)
      · have h := nx_it h hc
        exact kR _ (Option.some.inj h).symm H locs ls hP hS (lv_sub hl [0, 1] rfl)
      · have h := nx_if h hc
        refine lv_aload_n hx hb dX7_endOf_18 rfl (lv_at hl 0 rfl) ?_
        refine nx_gf X hP uw_X7 (ci := 6) rfl 17 rfl 1 (by decide) wf_RX7_25 rfl dX7_endOf_19 ?_
        refine lv_iload_n hx hb dX7_endOf_22 rfl (lv_at hl 1 rfl) ?_
        refine lv_aload_n hx hb dX7_endOf_23 rfl (lv_at hl 0 rfl) ?_
        refine nx_gf X hP uw_X7 (ci := 6) rfl 17 rfl 2 (by decide) wf_RX7_9 rfl dX7_endOf_24 ?_
        refine lv_iload_n hx hb dX7_endOf_27 rfl (lv_at hl 2 rfl) ?_
        obtain ⟨hv_1, h⟩ := nx_rb h
        refine nx_ld X hP 18 rfl hv_1 dX7_endOf_28 ?_
        obtain ⟨r_4, hc_3, h⟩ := nx_bd h
        refine nx_ki (nx_runV (As := [.int x2, .int (rowW x3.toNatClampNeg)]) (rest := []) X hS hP (c_X4_after l E H.size a size on kinds marks nb reached dist lastW par ord paths costs wanted tlen onlyF found steps plen rowW rowS tally x2 (rowW x3.toNatClampNeg) _ hc_3) nx_FA qV_RX7_74 ⟨rfl, rfl⟩ ⟨Nat.le_of_ble_eq_true rfl, Nat.le_of_ble_eq_true rfl⟩ ⟨Nat.zero_le _, Nat.zero_le _⟩ 12 rfl rfl rfl rfl hl.1 (Nat.le_of_ble_eq_true rfl) dX7_endOf_29) hS nx_FA (fun H locs hP hS => ?_)
        refine lv_istore_n (lv' := [(2, .int r_4), (0, .ref (a 17)), (3, .int x3)]) hx hb dX7_endOf_32 rfl hl (by decide) rfl (fun ls hl => ?_)
        refine lv_iload_n hx hb dX7_endOf_33 rfl (lv_at hl 0 rfl) ?_
        refine lv_iconst (v := (-1)) hx hb dX7_endOf_34 (by decide) ?_
        refine lv_icmp_ne (tgt := 40) hx hb dX7_endOf_35 (by decide) (fun hc => ?_) (fun hc => ?_)
        · have h := nx_if h hc
          refine lv_aload_n hx hb dX7_endOf_40 rfl (lv_at hl 1 rfl) ?_
          refine nx_gf X hP uw_X7 (ci := 6) rfl 17 rfl 3 (by decide) wf_RX7_15 rfl dX7_endOf_41 ?_
          refine lv_iload_n hx hb dX7_endOf_44 rfl (lv_at hl 2 rfl) ?_
          obtain ⟨hv_5, h⟩ := nx_rb h
          refine nx_ld X hP 19 rfl hv_5 dX7_endOf_45 ?_
          refine lv_if_eq (tgt := 64) hx hb dX7_endOf_46 (by decide) (fun hc => ?_) (fun hc => ?_)
          · have h := nx_it h hc
            refine lv_iinc (v := (x3 + 1)) (lv' := [(3, .int (x3 + 1)), (2, .int r_4), (0, .ref (a 17))]) hx hb dX7_endOf_64 hl (k := 2) rfl rfl (by decide) rfl (fun ls hl => ?_)
            refine lv_goto (tgt := 4) hx hb dX7_endOf_67 (by decide) ?_
            exact ih _ _ z h H locs ls hP hS (lv_sub hl [2, 1, 0] rfl) kL kR
          · have h := nx_if h hc
            refine lv_aload_n hx hb dX7_endOf_49 rfl (lv_at hl 1 rfl) ?_
            refine nx_gf X hP uw_X7 (ci := 6) rfl 17 rfl 3 (by decide) wf_RX7_15 rfl dX7_endOf_50 ?_
            refine lv_iload_n hx hb dX7_endOf_53 rfl (lv_at hl 2 rfl) ?_
            obtain ⟨hv_7, h⟩ := nx_rb h
            refine nx_ld X hP 19 rfl hv_7 dX7_endOf_54 ?_
            refine lv_iload_n hx hb dX7_endOf_55 rfl (lv_at hl 0 rfl) ?_
            obtain ⟨r_10, hc_9, h⟩ := nx_bd h
            refine nx_ki (nx_runS (As := [.int r_4]) (rest := [.int (rowS x3.toNatClampNeg)]) X hS hP (c_X4_printOf l E H.size _ r_4 _ hc_9) nx_FA qS_RX7_78 ⟨rfl, rfl⟩ ⟨Nat.le_of_ble_eq_true rfl, Nat.le_of_ble_eq_true rfl⟩ ⟨Nat.zero_le _, Nat.zero_le _⟩ rfl rfl hl.1 (Nat.le_of_ble_eq_true rfl) dX7_endOf_56) hS nx_FA (fun H locs hP hS => ?_)
            refine lv_icmp_eq (tgt := 64) hx hb dX7_endOf_59 (by decide) (fun hc => ?_) (fun hc => ?_)
            · have h := nx_it h hc
              refine lv_iinc (v := (x3 + 1)) (lv' := [(3, .int (x3 + 1)), (2, .int r_4), (0, .ref (a 17))]) hx hb dX7_endOf_64 hl (k := 2) rfl rfl (by decide) rfl (fun ls hl => ?_)
              refine lv_goto (tgt := 4) hx hb dX7_endOf_67 (by decide) ?_
              exact ih _ _ z h H locs ls hP hS (lv_sub hl [2, 1, 0] rfl) kL kR
            · have h := nx_if h hc
              refine lv_iconst (v := (-1)) hx hb dX7_endOf_62 (by decide) ?_
              exact kL _ (Option.some.inj h).symm 63 ls (-1) () H locs dX7_endOf_63 rfl hP hS
        · have h := nx_it h hc
          refine lv_iconst (v := (-1)) hx hb dX7_endOf_38 (by decide) ?_
          exact kL _ (Option.some.inj h).symm 39 ls (-1) () H locs dX7_endOf_39 rfl hP hS
  unfold f_X7_endOf at h
  suffices hw : ∀ (H : Heap) (locs : List Loc), va_P E.1 vwCl (cW E a size on kinds marks nb reached dist lastW par ord paths costs wanted tlen onlyF found steps plen rowW rowS tally) H → va_S (nx_F) s.heap H locs → W p l e (nx_rm 3 71) s m args below meth c H locs 0 0 Q (F0 m 0 ls []) from hw _ _ hP va_S.rf
  intro H locs hP hS
  refine lv_iload_n hx hb dX7_endOf_0 rfl (lv_at hl 1 rfl) ?_
  refine lv_istore_n (lv' := [(2, .int x1), (0, .ref (a 17)), (1, .int x1)]) hx hb dX7_endOf_1 rfl hl (by decide) rfl (fun ls hl => ?_)
  refine lv_iconst (v := 0) hx hb dX7_endOf_2 (by decide) ?_
  refine lv_istore_n (lv' := [(3, .int 0), (2, .int x1), (0, .ref (a 17)), (1, .int x1)]) hx hb dX7_endOf_3 rfl hl (by decide) rfl (fun ls hl => ?_)
  obtain ⟨z_11, hz_12, h⟩ := nx_bd h
  refine L4  N _ _ _ hz_12 H locs ls hP hS (lv_sub hl [2, 1, 0] rfl) ?_ ?_
  · intro rr hr
    subst hr
    have h := Option.some.inj h; subst h
    exact kr
  intro y_13 hr H locs ls hP hS hl
  subst hr
  refine lv_iload_n hx hb dX7_endOf_70 rfl (lv_at hl 1 rfl) ?_
  exact kr 71 ls y_13 () H locs dX7_endOf_71 (Option.some.inj h) hP hS
def f_X7_fitting_j27 (rec : (Int32 × Int32) → Option (Int32)) (x2 : Int32) (s0 : Int32) (s1 : Int32) : Option (Int32) :=
  (f_X10_oneIf s0).bind fun r_2 => rec ((s1 + r_2), (x2 + 1))
def f_X7_fitting_b4 (N : Nat) (size : Int32) (on : Int32) (kinds : Nat → Int32) (marks : Nat → Int32) (nb : Nat → Int32) (plen : Int32) (rowW : Nat → Int32) (rowS : Nat → Int32) (rec : (Int32 × Int32) → Option (Int32)) (x1 : Int32) (x2 : Int32) : Option (Int32) :=
  (f_X7_allStarts size).bind fun r_4 => if r_4 ≤ x2 then (some x1) else ((f_X7_endOf N x2 size on kinds marks nb plen rowW rowS).bind fun r_6 => if r_6 = (-1) then (f_X7_fitting_j27 rec x2 0 x1) else (f_X7_fitting_j27 rec x2 1 x1))
def f_X7_fitting_l4 (N : Nat) (size : Int32) (on : Int32) (kinds : Nat → Int32) (marks : Nat → Int32) (nb : Nat → Int32) (plen : Int32) (rowW : Nat → Int32) (rowS : Nat → Int32) : Nat → (Int32 × Int32) → Option (Int32) := nx_lp (fun rec z => f_X7_fitting_b4 N size on kinds marks nb plen rowW rowS rec z.1 z.2)
def f_X7_fitting (N : Nat)  (size : Int32) (on : Int32) (kinds : Nat → Int32) (marks : Nat → Int32) (nb : Nat → Int32) (plen : Int32) (rowW : Nat → Int32) (rowS : Nat → Int32) : Option (Int32) :=
  (f_X7_fitting_l4 N size on kinds marks nb plen rowW rowS N (0, 0)).bind fun z_7 => some z_7
set_option maxHeartbeats 4000000 in
set_option maxRecDepth 100000 in
theorem c_X7_fitting (l : Launch) (N : Nat) (E : nx_E) (sz : Nat) (a : Nat → Nat) (size : Int32) (on : Int32) (kinds : Nat → Int32) (marks : Nat → Int32) (nb : Nat → Int32) (reached : Int32) (dist : Nat → Int32) (lastW : Nat → Int32) (par : Nat → Int32) (ord : Nat → Int32) (paths : Nat → Int64) (costs : Nat → Int32) (wanted : Int32) (tlen : Int32) (onlyF : Int32) (found : Int32) (steps : Nat → Int32) (plen : Int32) (rowW : Nat → Int32) (rowS : Nat → Int32) (tally : Nat → Int32)  (o : Int32) (h : f_X7_fitting N size on kinds marks nb plen rowW rowS = some o) : Met l yX7_fitting (.code yX7_fitting cX7_fitting 3 (some .int) :: nx_T) (nx_rm 4 94) (va_Pc [.ref (a 17)] (nx_P E (nx_F) sz (cW E a size on kinds marks nb reached dist lastW par ord paths costs wanted tlen onlyF found steps plen rowW rowS tally))) (va_Qi (fun v (_ : Unit) => v = o) (fun _ t => va_P E.1 vwCl (cW E a size on kinds marks nb reached dist lastW par ord paths costs wanted tlen onlyF found steps plen rowW rowS tally) t.heap) (nx_F)) 0 0 (nx_F) := by
  refine nx_enI (fun v (_ : Unit) => v = o) (fun (_ : Unit) => (cW E a size on kinds marks nb reached dist lastW par ord paths costs wanted tlen onlyF found steps plen rowW rowS tally)) (by decide) (Nat.le_of_ble_eq_true rfl) ?_
  intro p e s m below meth c Q X kr hsz hP ls hl
  subst hsz
  generalize hargs : (List.toArray [.ref (a 17)] : Array Value) = args at X kr ⊢
  clear hargs
  obtain ⟨⟨hx, hb, hml, hown, hts⟩, hK, hSt, hNz⟩ := id X
  have hS : va_S (nx_F) s.heap s.heap [] := va_S.rf
  have hl : lv_has ls 3 [(0, .ref (a 17))] := hl
  have L4 : ∀ (n : Nat) (x1 : Int32) (x2 : Int32) (z : (Int32)), f_X7_fitting_l4 N size on kinds marks nb plen rowW rowS n (x1, x2) = some z → ∀ (H : Heap) (locs : List Loc) (ls : Array Slot), va_P E.1 vwCl (cW E a size on kinds marks nb reached dist lastW par ord paths costs wanted tlen onlyF found steps plen rowW rowS tally) H → va_S (nx_F) s.heap H locs → lv_has ls 3 [(0, .ref (a 17)), (1, .int x1), (2, .int x2)] → ∀ (kR : ∀ (H : Heap) (locs : List Loc) (ls : Array Slot), va_P E.1 vwCl (cW E a size on kinds marks nb reached dist lastW par ord paths costs wanted tlen onlyF found steps plen rowW rowS tally) H → va_S (nx_F) s.heap H locs → lv_has ls 3 [(0, .ref (a 17)), (1, .int z)] → W p l e (nx_rm 4 94) s m args below meth c H locs 0 0 Q (F0 m 38 ls [])), W p l e (nx_rm 4 94) s m args below meth c H locs 0 0 Q (F0 m 4 ls []) := by
   intro  n
   induction n with
   | zero => intro x1 x2 z h; exact nomatch (show none = some z from h)
   | succ n ih =>
    intro x1 x2 z h H locs ls hP hS hl kR
    have h : f_X7_fitting_b4 N size on kinds marks nb plen rowW rowS (f_X7_fitting_l4 N size on kinds marks nb plen rowW rowS n) x1 x2 = some z := h
    have J27 : ∀ (x2 : Int32) (s0 : Int32) (s1 : Int32), f_X7_fitting_j27 (f_X7_fitting_l4 N size on kinds marks nb plen rowW rowS n) x2 s0 s1 = some z → ∀ (H : Heap) (locs : List Loc) (ls : Array Slot), va_P E.1 vwCl (cW E a size on kinds marks nb reached dist lastW par ord paths costs wanted tlen onlyF found steps plen rowW rowS tally) H → va_S (nx_F) s.heap H locs → lv_has ls 3 [(0, .ref (a 17)), (2, .int x2)] → W p l e (nx_rm 4 94) s m args below meth c H locs 0 0 Q (F0 m 27 ls [.int s0, .int s1]) := by
      intro x2 s0 s1 h H locs ls hP hS hl
      unfold f_X7_fitting_j27 at h
      obtain ⟨r_2, hc_1, h⟩ := nx_bd h
      refine nx_ki (nx_runN (As := [.int s0]) (rest := [.int s1]) X hS hP (c_X10_oneIf l E H.size _ s0 _ hc_1) nx_FA qN_RX7_41 ⟨rfl, rfl⟩ ⟨Nat.le_of_ble_eq_true rfl, Nat.le_of_ble_eq_true rfl⟩ ⟨Nat.zero_le _, Nat.zero_le _⟩ rfl rfl hl.1 (Nat.le_of_ble_eq_true rfl) dX7_fitting_27) hS nx_FA (fun H locs hP hS => ?_)
      refine lv_iadd hx hb dX7_fitting_30 ?_
      refine lv_istore_n (lv' := [(1, .int (s1 + r_2)), (0, .ref (a 17)), (2, .int x2)]) hx hb dX7_fitting_31 rfl hl (by decide) rfl (fun ls hl => ?_)
      refine lv_iinc (v := (x2 + 1)) (lv' := [(2, .int (x2 + 1)), (1, .int (s1 + r_2)), (0, .ref (a 17))]) hx hb dX7_fitting_32 hl (k := 2) rfl rfl (by decide) rfl (fun ls hl => ?_)
      refine lv_goto (tgt := 4) hx hb dX7_fitting_35 (by decide) ?_
      exact ih _ _ z h H locs ls hP hS (lv_sub hl [2, 1, 0] rfl) kR
    unfold f_X7_fitting_b4 at h
    refine lv_iload_n hx hb dX7_fitting_4 rfl (lv_at hl 2 rfl) ?_
    refine lv_aload_n hx hb dX7_fitting_5 rfl (lv_at hl 0 rfl) ?_
    obtain ⟨r_4, hc_3, h⟩ := nx_bd h
    refine nx_ki (nx_runV (As := []) (rest := [.int x2]) X hS hP (c_X7_allStarts l E H.size a size on kinds marks nb reached dist lastW par ord paths costs wanted tlen onlyF found steps plen rowW rowS tally _ hc_3) nx_FA qV_RX7_33 ⟨rfl, rfl⟩ ⟨Nat.le_of_ble_eq_true rfl, Nat.le_of_ble_eq_true rfl⟩ ⟨Nat.zero_le _, Nat.zero_le _⟩ 17 rfl rfl rfl rfl hl.1 (Nat.le_of_ble_eq_true rfl) dX7_fitting_6) hS nx_FA (fun H locs hP hS => ?_)
    refine lv_icmp_ge (tgt := 38) hx hb dX7_fitting_9 (by decide) (fun hc => ?_) (fun hc => ?_)
    · have h := nx_it h hc
      obtain rfl := Option.some.inj h
      exact kR H locs ls hP hS (lv_sub hl [0, 1] rfl)
    · have h := nx_if h hc
      refine lv_iload_n hx hb dX7_fitting_12 rfl (lv_at hl 1 rfl) ?_
      refine lv_aload_n hx hb dX7_fitting_13 rfl (lv_at hl 0 rfl) ?_
      refine lv_iload_n hx hb dX7_fitting_14 rfl (lv_at hl 2 rfl) ?_
      obtain ⟨r_6, hc_5, h⟩ := nx_bd h
      refine nx_ki (nx_runV (As := [.int x2]) (rest := [.int x1]) X hS hP (c_X7_endOf l N E H.size a size on kinds marks nb reached dist lastW par ord paths costs wanted tlen onlyF found steps plen rowW rowS tally x2 _ hc_5) nx_FA qV_RX7_37 ⟨rfl, rfl⟩ ⟨Nat.le_of_ble_eq_true rfl, Nat.le_of_ble_eq_true rfl⟩ ⟨Nat.zero_le _, Nat.zero_le _⟩ 17 rfl rfl rfl rfl hl.1 (Nat.le_of_ble_eq_true rfl) dX7_fitting_15) hS nx_FA (fun H locs hP hS => ?_)
      refine lv_iconst (v := (-1)) hx hb dX7_fitting_18 (by decide) ?_
      refine lv_icmp_eq (tgt := 26) hx hb dX7_fitting_19 (by decide) (fun hc => ?_) (fun hc => ?_)
      · have h := nx_it h hc
        refine lv_iconst (v := 0) hx hb dX7_fitting_26 (by decide) ?_
        exact J27 _ _ _ h H locs ls hP hS (lv_sub hl [0, 2] rfl)
      · have h := nx_if h hc
        refine lv_iconst (v := 1) hx hb dX7_fitting_22 (by decide) ?_
        refine lv_goto (tgt := 27) hx hb dX7_fitting_23 (by decide) ?_
        exact J27 _ _ _ h H locs ls hP hS (lv_sub hl [0, 2] rfl)
  unfold f_X7_fitting at h
  suffices hw : ∀ (H : Heap) (locs : List Loc), va_P E.1 vwCl (cW E a size on kinds marks nb reached dist lastW par ord paths costs wanted tlen onlyF found steps plen rowW rowS tally) H → va_S (nx_F) s.heap H locs → W p l e (nx_rm 4 94) s m args below meth c H locs 0 0 Q (F0 m 0 ls []) from hw _ _ hP va_S.rf
  intro H locs hP hS
  refine lv_iconst (v := 0) hx hb dX7_fitting_0 (by decide) ?_
  refine lv_istore_n (lv' := [(1, .int 0), (0, .ref (a 17))]) hx hb dX7_fitting_1 rfl hl (by decide) rfl (fun ls hl => ?_)
  refine lv_iconst (v := 0) hx hb dX7_fitting_2 (by decide) ?_
  refine lv_istore_n (lv' := [(2, .int 0), (1, .int 0), (0, .ref (a 17))]) hx hb dX7_fitting_3 rfl hl (by decide) rfl (fun ls hl => ?_)
  obtain ⟨z_7, hz_8, h⟩ := nx_bd h
  refine L4  N _ _ _ hz_8 H locs ls hP hS (lv_sub hl [2, 1, 0] rfl) (fun H locs ls hP hS hl => ?_)
  refine lv_iload_n hx hb dX7_fitting_38 rfl (lv_at hl 1 rfl) ?_
  exact kr 39 ls z_7 () H locs dX7_fitting_39 (Option.some.inj h) hP hS
def f_X10_starts (N : Nat)  (size : Int32) (on : Int32) (kinds : Nat → Int32) (marks : Nat → Int32) (nb : Nat → Int32) (plen : Int32) (rowW : Nat → Int32) (rowS : Nat → Int32) : Option (Int32) :=
  (f_X7_fitting N size on kinds marks nb plen rowW rowS).bind fun r_2 => some r_2
set_option maxHeartbeats 4000000 in
set_option maxRecDepth 100000 in
theorem c_X10_starts (l : Launch) (N : Nat) (E : nx_E) (sz : Nat) (a : Nat → Nat) (size : Int32) (on : Int32) (kinds : Nat → Int32) (marks : Nat → Int32) (nb : Nat → Int32) (reached : Int32) (dist : Nat → Int32) (lastW : Nat → Int32) (par : Nat → Int32) (ord : Nat → Int32) (paths : Nat → Int64) (costs : Nat → Int32) (wanted : Int32) (tlen : Int32) (onlyF : Int32) (found : Int32) (steps : Nat → Int32) (plen : Int32) (rowW : Nat → Int32) (rowS : Nat → Int32) (tally : Nat → Int32)  (o : Int32) (h : f_X10_starts N size on kinds marks nb plen rowW rowS = some o) : Met l yX10_starts (.code yX10_starts cX10_starts 1 (some .int) :: nx_T) (nx_rm 5 116) (va_Pc [.ref (a 0)] (nx_P E (nx_F) sz (cW E a size on kinds marks nb reached dist lastW par ord paths costs wanted tlen onlyF found steps plen rowW rowS tally))) (va_Qi (fun v (_ : Unit) => v = o) (fun _ t => va_P E.1 vwCl (cW E a size on kinds marks nb reached dist lastW par ord paths costs wanted tlen onlyF found steps plen rowW rowS tally) t.heap) (nx_F)) 0 0 (nx_F) := by
  refine nx_enI (fun v (_ : Unit) => v = o) (fun (_ : Unit) => (cW E a size on kinds marks nb reached dist lastW par ord paths costs wanted tlen onlyF found steps plen rowW rowS tally)) (by decide) (Nat.le_of_ble_eq_true rfl) ?_
  intro p e s m below meth c Q X kr hsz hP ls hl
  subst hsz
  generalize hargs : (List.toArray [.ref (a 0)] : Array Value) = args at X kr ⊢
  clear hargs
  obtain ⟨⟨hx, hb, hml, hown, hts⟩, hK, hSt, hNz⟩ := id X
  have hS : va_S (nx_F) s.heap s.heap [] := va_S.rf
  have hl : lv_has ls 1 [(0, .ref (a 0))] := hl
  unfold f_X10_starts at h
  suffices hw : ∀ (H : Heap) (locs : List Loc), va_P E.1 vwCl (cW E a size on kinds marks nb reached dist lastW par ord paths costs wanted tlen onlyF found steps plen rowW rowS tally) H → va_S (nx_F) s.heap H locs → W p l e (nx_rm 5 116) s m args below meth c H locs 0 0 Q (F0 m 0 ls []) from hw _ _ hP va_S.rf
  intro H locs hP hS
  refine lv_aload_n hx hb dX10_starts_0 rfl (lv_at hl 0 rfl) ?_
  refine nx_gf X hP uw_X10 (ci := 9) rfl 0 rfl 6 (by decide) wf_RX10_60 rfl dX10_starts_1 ?_
  obtain ⟨r_2, hc_1, h⟩ := nx_bd h
  refine nx_ki (nx_runV (As := []) (rest := []) X hS hP (c_X7_fitting l N E H.size a size on kinds marks nb reached dist lastW par ord paths costs wanted tlen onlyF found steps plen rowW rowS tally _ hc_1) nx_FA qV_RX10_197 ⟨rfl, rfl⟩ ⟨Nat.le_of_ble_eq_true rfl, Nat.le_of_ble_eq_true rfl⟩ ⟨Nat.zero_le _, Nat.zero_le _⟩ 17 rfl rfl rfl rfl hl.1 (Nat.le_of_ble_eq_true rfl) dX10_starts_4) hS nx_FA (fun H locs hP hS => ?_)
  exact kr 7 ls r_2 () H locs dX10_starts_7 (Option.some.inj h) hP hS
def f_X7_fittingAt_b4 (N : Nat) (x1 : Int32) (size : Int32) (on : Int32) (kinds : Nat → Int32) (marks : Nat → Int32) (nb : Nat → Int32) (plen : Int32) (rowW : Nat → Int32) (rowS : Nat → Int32) (rec : (Int32 × Int32) → Option ((Int32) ⊕ (Unit))) (x2 : Int32) (x3 : Int32) : Option ((Int32) ⊕ (Unit)) :=
  (f_X7_allStarts size).bind fun r_2 => if r_2 ≤ x3 then (some (.inr ())) else ((f_X7_endOf N x3 size on kinds marks nb plen rowW rowS).bind fun r_4 => if r_4 = (-1) then (rec (x2, (x3 + 1))) else (if x2 = x1 then (some (.inl x3)) else (rec ((x2 + 1), (x3 + 1)))))
def f_X7_fittingAt_l4 (N : Nat) (x1 : Int32) (size : Int32) (on : Int32) (kinds : Nat → Int32) (marks : Nat → Int32) (nb : Nat → Int32) (plen : Int32) (rowW : Nat → Int32) (rowS : Nat → Int32) : Nat → (Int32 × Int32) → Option ((Int32) ⊕ (Unit)) := nx_lp (fun rec z => f_X7_fittingAt_b4 N x1 size on kinds marks nb plen rowW rowS rec z.1 z.2)
def f_X7_fittingAt (N : Nat) (x1 : Int32) (size : Int32) (on : Int32) (kinds : Nat → Int32) (marks : Nat → Int32) (nb : Nat → Int32) (plen : Int32) (rowW : Nat → Int32) (rowS : Nat → Int32) : Option (Int32) :=
  (f_X7_fittingAt_l4 N x1 size on kinds marks nb plen rowW rowS N (0, 0)).bind fun z_5 => Sum.elim (fun rr => some rr) (fun y_7 => some (-1)) z_5
set_option maxHeartbeats 4000000 in
set_option maxRecDepth 100000 in
theorem c_X7_fittingAt (l : Launch) (N : Nat) (E : nx_E) (sz : Nat) (a : Nat → Nat) (size : Int32) (on : Int32) (kinds : Nat → Int32) (marks : Nat → Int32) (nb : Nat → Int32) (reached : Int32) (dist : Nat → Int32) (lastW : Nat → Int32) (par : Nat → Int32) (ord : Nat → Int32) (paths : Nat → Int64) (costs : Nat → Int32) (wanted : Int32) (tlen : Int32) (onlyF : Int32) (found : Int32) (steps : Nat → Int32) (plen : Int32) (rowW : Nat → Int32) (rowS : Nat → Int32) (tally : Nat → Int32) (x1 : Int32) (o : Int32) (h : f_X7_fittingAt N x1 size on kinds marks nb plen rowW rowS = some o) : Met l yX7_fittingAt (.code yX7_fittingAt cX7_fittingAt 4 (some .int) :: nx_T) (nx_rm 4 94) (va_Pc [.ref (a 17), .int x1] (nx_P E (nx_F) sz (cW E a size on kinds marks nb reached dist lastW par ord paths costs wanted tlen onlyF found steps plen rowW rowS tally))) (va_Qi (fun v (_ : Unit) => v = o) (fun _ t => va_P E.1 vwCl (cW E a size on kinds marks nb reached dist lastW par ord paths costs wanted tlen onlyF found steps plen rowW rowS tally) t.heap) (nx_F)) 0 0 (nx_F) := by
  refine nx_enI (fun v (_ : Unit) => v = o) (fun (_ : Unit) => (cW E a size on kinds marks nb reached dist lastW par ord paths costs wanted tlen onlyF found steps plen rowW rowS tally)) (by decide) (Nat.le_of_ble_eq_true rfl) ?_
  intro p e s m below meth c Q X kr hsz hP ls hl
  subst hsz
  generalize hargs : (List.toArray [.ref (a 17), .int x1] : Array Value) = args at X kr ⊢
  clear hargs
  obtain ⟨⟨hx, hb, hml, hown, hts⟩, hK, hSt, hNz⟩ := id X
  have hS : va_S (nx_F) s.heap s.heap [] := va_S.rf
  have hl : lv_has ls 4 [(0, .ref (a 17)), (1, .int x1)] := hl
  have L4 : ∀ (x1 : Int32) (n : Nat) (x2 : Int32) (x3 : Int32) (z : ((Int32) ⊕ (Unit))), f_X7_fittingAt_l4 N x1 size on kinds marks nb plen rowW rowS n (x2, x3) = some z → ∀ (H : Heap) (locs : List Loc) (ls : Array Slot), va_P E.1 vwCl (cW E a size on kinds marks nb reached dist lastW par ord paths costs wanted tlen onlyF found steps plen rowW rowS tally) H → va_S (nx_F) s.heap H locs → lv_has ls 4 [(0, .ref (a 17)), (1, .int x1), (2, .int x2), (3, .int x3)] → ∀ (kL : ∀ r, z = .inl r → ∀ (pc : Nat) (ls : Array Slot) (v : Int32) (u : Unit) (H : Heap) (locs : List Loc), decode cX7_fittingAt pc = .ok (.ireturn, 1) → v = r → va_P E.1 vwCl (cW E a size on kinds marks nb reached dist lastW par ord paths costs wanted tlen onlyF found steps plen rowW rowS tally) H → va_S (nx_F) s.heap H locs → W p l e (nx_rm 4 94) s m args below meth c H locs 0 0 Q (F0 m pc ls [.int v])) (kR : ∀ y, z = .inr y → ∀ (H : Heap) (locs : List Loc) (ls : Array Slot), va_P E.1 vwCl (cW E a size on kinds marks nb reached dist lastW par ord paths costs wanted tlen onlyF found steps plen rowW rowS tally) H → va_S (nx_F) s.heap H locs → lv_has ls 4 [(0, .ref (a 17))] → W p l e (nx_rm 4 94) s m args below meth c H locs 0 0 Q (F0 m 40 ls [])), W p l e (nx_rm 4 94) s m args below meth c H locs 0 0 Q (F0 m 4 ls []) := by
   intro x1 n
   induction n with
   | zero => intro x2 x3 z h; exact nomatch (show none = some z from h)
   | succ n ih =>
    intro x2 x3 z h H locs ls hP hS hl kL kR
    have h : f_X7_fittingAt_b4 N x1 size on kinds marks nb plen rowW rowS (f_X7_fittingAt_l4 N x1 size on kinds marks nb plen rowW rowS n) x2 x3 = some z := h
    unfold f_X7_fittingAt_b4 at h
    refine lv_iload_n hx hb dX7_fittingAt_4 rfl (lv_at hl 3 rfl) ?_
    refine lv_aload_n hx hb dX7_fittingAt_5 rfl (lv_at hl 0 rfl) ?_
    obtain ⟨r_2, hc_1, h⟩ := nx_bd h
    refine nx_ki (nx_runV (As := []) (rest := [.int x3]) X hS hP (c_X7_allStarts l E H.size a size on kinds marks nb reached dist lastW par ord paths costs wanted tlen onlyF found steps plen rowW rowS tally _ hc_1) nx_FA qV_RX7_33 ⟨rfl, rfl⟩ ⟨Nat.le_of_ble_eq_true rfl, Nat.le_of_ble_eq_true rfl⟩ ⟨Nat.zero_le _, Nat.zero_le _⟩ 17 rfl rfl rfl rfl hl.1 (Nat.le_of_ble_eq_true rfl) dX7_fittingAt_6) hS nx_FA (fun H locs hP hS => ?_)
    refine lv_icmp_ge (tgt := 40) hx hb dX7_fittingAt_9 (by decide) (fun hc => ?_) (fun hc => ?_)
    · have h := nx_it h hc
      exact kR _ (Option.some.inj h).symm H locs ls hP hS (lv_sub hl [0] rfl)
    · have h := nx_if h hc
      refine lv_aload_n hx hb dX7_fittingAt_12 rfl (lv_at hl 0 rfl) ?_
      refine lv_iload_n hx hb dX7_fittingAt_13 rfl (lv_at hl 3 rfl) ?_
      obtain ⟨r_4, hc_3, h⟩ := nx_bd h
      refine nx_ki (nx_runV (As := [.int x3]) (rest := []) X hS hP (c_X7_endOf l N E H.size a size on kinds marks nb reached dist lastW par ord paths costs wanted tlen onlyF found steps plen rowW rowS tally x3 _ hc_3) nx_FA qV_RX7_37 ⟨rfl, rfl⟩ ⟨Nat.le_of_ble_eq_true rfl, Nat.le_of_ble_eq_true rfl⟩ ⟨Nat.zero_le _, Nat.zero_le _⟩ 17 rfl rfl rfl rfl hl.1 (Nat.le_of_ble_eq_true rfl) dX7_fittingAt_14) hS nx_FA (fun H locs hP hS => ?_)
      refine lv_iconst (v := (-1)) hx hb dX7_fittingAt_17 (by decide) ?_
      refine lv_icmp_ne (tgt := 24) hx hb dX7_fittingAt_18 (by decide) (fun hc => ?_) (fun hc => ?_)
      · have h := nx_if h hc
        refine lv_iload_n hx hb dX7_fittingAt_24 rfl (lv_at hl 2 rfl) ?_
        refine lv_iload_n hx hb dX7_fittingAt_25 rfl (lv_at hl 1 rfl) ?_
        refine lv_icmp_ne (tgt := 31) hx hb dX7_fittingAt_26 (by decide) (fun hc => ?_) (fun hc => ?_)
        · have h := nx_if h hc
          refine lv_iinc (v := (x2 + 1)) (lv' := [(2, .int (x2 + 1)), (0, .ref (a 17)), (1, .int x1), (3, .int x3)]) hx hb dX7_fittingAt_31 hl (k := 2) rfl rfl (by decide) rfl (fun ls hl => ?_)
          refine lv_iinc (v := (x3 + 1)) (lv' := [(3, .int (x3 + 1)), (2, .int (x2 + 1)), (0, .ref (a 17)), (1, .int x1)]) hx hb dX7_fittingAt_34 hl (k := 3) rfl rfl (by decide) rfl (fun ls hl => ?_)
          refine lv_goto (tgt := 4) hx hb dX7_fittingAt_37 (by decide) ?_
          exact ih _ _ z h H locs ls hP hS (lv_sub hl [2, 3, 1, 0] rfl) kL kR
        · have h := nx_it h hc
          refine lv_iload_n hx hb dX7_fittingAt_29 rfl (lv_at hl 3 rfl) ?_
          exact kL _ (Option.some.inj h).symm 30 ls x3 () H locs dX7_fittingAt_30 rfl hP hS
      · have h := nx_it h hc
        refine lv_goto (tgt := 34) hx hb dX7_fittingAt_21 (by decide) ?_
        refine lv_iinc (v := (x3 + 1)) (lv' := [(3, .int (x3 + 1)), (0, .ref (a 17)), (1, .int x1), (2, .int x2)]) hx hb dX7_fittingAt_34 hl (k := 3) rfl rfl (by decide) rfl (fun ls hl => ?_)
        refine lv_goto (tgt := 4) hx hb dX7_fittingAt_37 (by decide) ?_
        exact ih _ _ z h H locs ls hP hS (lv_sub hl [1, 2, 3, 0] rfl) kL kR
  unfold f_X7_fittingAt at h
  suffices hw : ∀ (H : Heap) (locs : List Loc), va_P E.1 vwCl (cW E a size on kinds marks nb reached dist lastW par ord paths costs wanted tlen onlyF found steps plen rowW rowS tally) H → va_S (nx_F) s.heap H locs → W p l e (nx_rm 4 94) s m args below meth c H locs 0 0 Q (F0 m 0 ls []) from hw _ _ hP va_S.rf
  intro H locs hP hS
  refine lv_iconst (v := 0) hx hb dX7_fittingAt_0 (by decide) ?_
  refine lv_istore_n (lv' := [(2, .int 0), (0, .ref (a 17)), (1, .int x1)]) hx hb dX7_fittingAt_1 rfl hl (by decide) rfl (fun ls hl => ?_)
  refine lv_iconst (v := 0) hx hb dX7_fittingAt_2 (by decide) ?_
  refine lv_istore_n (lv' := [(3, .int 0), (2, .int 0), (0, .ref (a 17)), (1, .int x1)]) hx hb dX7_fittingAt_3 rfl hl (by decide) rfl (fun ls hl => ?_)
  obtain ⟨z_5, hz_6, h⟩ := nx_bd h
  refine L4 _ N _ _ _ hz_6 H locs ls hP hS (lv_sub hl [2, 3, 1, 0] rfl) ?_ ?_
  · intro rr hr
    subst hr
    have h := Option.some.inj h; subst h
    exact kr
  intro y_7 hr H locs ls hP hS hl
  subst hr
  refine lv_iconst (v := (-1)) hx hb dX7_fittingAt_40 (by decide) ?_
  exact kr 41 ls (-1) () H locs dX7_fittingAt_41 (Option.some.inj h) hP hS
