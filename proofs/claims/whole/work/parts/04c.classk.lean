def f_X10_next (N : Nat)  (size : Int32) (on : Int32) (kinds : Nat → Int32) (marks : Nat → Int32) (nb : Nat → Int32) (plen : Int32) (rowW : Nat → Int32) (rowS : Nat → Int32) (tally : Nat → Int32) : Option (Int32 × ((Nat → Int32))) :=
  (f_X7_tellingWay N size on kinds marks nb plen rowW rowS tally).bind fun t_4 => some (t_4.1, t_4.2)
set_option maxHeartbeats 4000000 in
set_option maxRecDepth 100000 in
theorem c_X10_next (l : Launch) (N : Nat) (E : nx_E) (sz : Nat) (a : Nat → Nat) (size : Int32) (on : Int32) (kinds : Nat → Int32) (marks : Nat → Int32) (nb : Nat → Int32) (reached : Int32) (dist : Nat → Int32) (lastW : Nat → Int32) (par : Nat → Int32) (ord : Nat → Int32) (paths : Nat → Int64) (costs : Nat → Int32) (wanted : Int32) (tlen : Int32) (onlyF : Int32) (found : Int32) (steps : Nat → Int32) (plen : Int32) (rowW : Nat → Int32) (rowS : Nat → Int32) (tally : Nat → Int32)  (hI : nx_inj a 24) (o : Int32 × ((Nat → Int32))) (h : f_X10_next N size on kinds marks nb plen rowW rowS tally = some o) : Met l yX10_next (.code yX10_next cX10_next 1 (some .int) :: nx_T) (nx_rm 5 119) (va_Pc [.ref (a 0)] (nx_P E (nx_A a 24 sz) sz (cW E a size on kinds marks nb reached dist lastW par ord paths costs wanted tlen onlyF found steps plen rowW rowS tally))) (va_Qi (fun v u => (v, u) = o) (fun u t => va_P E.1 vwCl (cW E a size on kinds marks nb reached dist lastW par ord paths costs wanted tlen onlyF found steps plen rowW rowS u) t.heap) (nx_A a 24 sz)) 0 0 (nx_A a 24 sz) := by
  refine nx_enI (fun v u => (v, u) = o) (fun (u : (Nat → Int32)) => (cW E a size on kinds marks nb reached dist lastW par ord paths costs wanted tlen onlyF found steps plen rowW rowS u)) (by decide) (Nat.le_of_ble_eq_true rfl) ?_
  intro p e s m below meth c Q X kr hsz hP ls hl
  subst hsz
  generalize hargs : (List.toArray [.ref (a 0)] : Array Value) = args at X kr ⊢
  clear hargs
  obtain ⟨⟨hx, hb, hml, hown, hts⟩, hK, hSt, hNz⟩ := id X
  have hS : va_S (nx_A a 24 s.heap.size) s.heap s.heap [] := va_S.rf
  have hl : lv_has ls 1 [(0, .ref (a 0))] := hl
  unfold f_X10_next at h
  suffices hw : ∀ (H : Heap) (locs : List Loc), va_P E.1 vwCl (cW E a size on kinds marks nb reached dist lastW par ord paths costs wanted tlen onlyF found steps plen rowW rowS tally) H → va_S (nx_A a 24 s.heap.size) s.heap H locs → W p l e (nx_rm 5 119) s m args below meth c H locs 0 0 Q (F0 m 0 ls []) from hw _ _ hP va_S.rf
  intro H locs hP hS
  refine lv_aload_n hx hb dX10_next_0 rfl (lv_at hl 0 rfl) ?_
  refine nx_gf X hP uw_X10 (ci := 9) rfl 0 rfl 6 (by decide) wf_RX10_60 rfl dX10_next_1 ?_
  obtain ⟨⟨r_2, k_3⟩, hc_1, h⟩ := nx_bd h
  refine nx_kwi (nx_runV (As := []) (rest := []) X hS hP (c_X7_tellingWay l N E H.size a size on kinds marks nb reached dist lastW par ord paths costs wanted tlen onlyF found steps plen rowW rowS tally hI _ hc_1) (nx_Am hS.1) qV_RX10_206 ⟨rfl, rfl⟩ ⟨Nat.le_of_ble_eq_true rfl, Nat.le_of_ble_eq_true rfl⟩ ⟨Nat.zero_le _, Nat.zero_le _⟩ 17 rfl rfl rfl rfl hl.1 (Nat.le_of_ble_eq_true rfl) dX10_next_4) hS (nx_Am hS.1) (fun H locs hP hS => ?_)
  have hP : va_P E.1 vwCl (cW E a size on kinds marks nb reached dist lastW par ord paths costs wanted tlen onlyF found steps plen rowW rowS k_3) H := hP
  exact kr 7 ls r_2 k_3 H locs dX10_next_7 (Option.some.inj h) hP hS
def f_X10_isPlace (x1 : Int32) (size : Int32) : Option (Int32) :=
  if x1 < 0 then (some 0) else ((f_X2_size size).bind fun r_2 => if (3 * r_2) ≤ x1 then (some 0) else (some 1))
set_option maxHeartbeats 4000000 in
set_option maxRecDepth 100000 in
theorem c_X10_isPlace (l : Launch) (E : nx_E) (sz : Nat) (a : Nat → Nat) (size : Int32) (on : Int32) (kinds : Nat → Int32) (marks : Nat → Int32) (nb : Nat → Int32) (reached : Int32) (dist : Nat → Int32) (lastW : Nat → Int32) (par : Nat → Int32) (ord : Nat → Int32) (paths : Nat → Int64) (costs : Nat → Int32) (wanted : Int32) (tlen : Int32) (onlyF : Int32) (found : Int32) (steps : Nat → Int32) (plen : Int32) (rowW : Nat → Int32) (rowS : Nat → Int32) (tally : Nat → Int32) (x1 : Int32) (o : Int32) (h : f_X10_isPlace x1 size = some o) : Met l yX10_isPlace (.code yX10_isPlace cX10_isPlace 2 (some .boolean) :: nx_T) (nx_rm 1 20) (va_Pc [.ref (a 0), .int x1] (nx_P E (nx_F) sz (cW E a size on kinds marks nb reached dist lastW par ord paths costs wanted tlen onlyF found steps plen rowW rowS tally))) (va_Qi (fun v (_ : Unit) => v = o) (fun _ t => va_P E.1 vwCl (cW E a size on kinds marks nb reached dist lastW par ord paths costs wanted tlen onlyF found steps plen rowW rowS tally) t.heap) (nx_F)) 0 0 (nx_F) := by
  refine nx_enZ (fun v (_ : Unit) => v = o) (fun (_ : Unit) => (cW E a size on kinds marks nb reached dist lastW par ord paths costs wanted tlen onlyF found steps plen rowW rowS tally)) (by decide) (Nat.le_of_ble_eq_true rfl) ?_
  intro p e s m below meth c Q X kr hsz hP ls hl
  subst hsz
  generalize hargs : (List.toArray [.ref (a 0), .int x1] : Array Value) = args at X kr ⊢
  clear hargs
  obtain ⟨⟨hx, hb, hml, hown, hts⟩, hK, hSt, hNz⟩ := id X
  have hS : va_S (nx_F) s.heap s.heap [] := va_S.rf
  have hl : lv_has ls 2 [(0, .ref (a 0)), (1, .int x1)] := hl
  unfold f_X10_isPlace at h
  suffices hw : ∀ (H : Heap) (locs : List Loc), va_P E.1 vwCl (cW E a size on kinds marks nb reached dist lastW par ord paths costs wanted tlen onlyF found steps plen rowW rowS tally) H → va_S (nx_F) s.heap H locs → W p l e (nx_rm 1 20) s m args below meth c H locs 0 0 Q (F0 m 0 ls []) from hw _ _ hP va_S.rf
  intro H locs hP hS
  refine lv_iload_n hx hb dX10_isPlace_0 rfl (lv_at hl 1 rfl) ?_
  refine lv_if_lt (tgt := 21) hx hb dX10_isPlace_1 (by decide) (fun hc => ?_) (fun hc => ?_)
  · have h := nx_it h hc
    refine lv_iconst (v := 0) hx hb dX10_isPlace_21 (by decide) ?_
    exact kr 22 ls 0 () H locs dX10_isPlace_22 (Or.inl rfl) (Option.some.inj h) hP hS
  · have h := nx_if h hc
    refine lv_iload_n hx hb dX10_isPlace_4 rfl (lv_at hl 1 rfl) ?_
    refine lv_iconst (v := 3) hx hb dX10_isPlace_5 (by decide) ?_
    refine lv_aload_n hx hb dX10_isPlace_6 rfl (lv_at hl 0 rfl) ?_
    refine nx_gf X hP uw_X10 (ci := 9) rfl 0 rfl 0 (by decide) wf_RX10_12 rfl dX10_isPlace_7 ?_
    obtain ⟨r_2, hc_1, h⟩ := nx_bd h
    refine nx_ki (nx_runV (As := []) (rest := [.int 3, .int x1]) X hS hP (c_X2_size l E H.size a size on kinds marks nb reached dist lastW par ord paths costs wanted tlen onlyF found steps plen rowW rowS tally _ hc_1) nx_FA qV_RX10_81 ⟨rfl, rfl⟩ ⟨Nat.le_of_ble_eq_true rfl, Nat.le_of_ble_eq_true rfl⟩ ⟨Nat.zero_le _, Nat.zero_le _⟩ 1 rfl rfl rfl rfl hl.1 (Nat.le_of_ble_eq_true rfl) dX10_isPlace_10) hS nx_FA (fun H locs hP hS => ?_)
    refine lv_imul hx hb dX10_isPlace_13 ?_
    refine lv_icmp_ge (tgt := 21) hx hb dX10_isPlace_14 (by decide) (fun hc => ?_) (fun hc => ?_)
    · have h := nx_it h hc
      refine lv_iconst (v := 0) hx hb dX10_isPlace_21 (by decide) ?_
      exact kr 22 ls 0 () H locs dX10_isPlace_22 (Or.inl rfl) (Option.some.inj h) hP hS
    · have h := nx_if h hc
      refine lv_iconst (v := 1) hx hb dX10_isPlace_17 (by decide) ?_
      refine lv_goto (tgt := 22) hx hb dX10_isPlace_18 (by decide) ?_
      exact kr 22 ls 1 () H locs dX10_isPlace_22 (Or.inr rfl) (Option.some.inj h) hP hS
def f_X0_isSound_22 (x1 : Int32) (x2 : Int32) (size : Int32) (kinds : Nat → Int32) (nb : Nat → Int32) : Option (Int32) :=
  if 0 ≤ x1 then ((f_X2_isOpen (x1 / 3) x2 size kinds).bind fun r_2 => if r_2 = 0 then (some 0) else (if (x1 - x1 / 3 * 3) = 0 then ((f_X2_kindOf (x1 / 3) size kinds).bind fun r_8 => if r_8 = 2 then (some 0) else (some 1)) else ((f_X2_beside (x1 / 3) ((x1 - x1 / 3 * 3) - 1) size nb).bind fun r_4 => (f_X2_isOpen r_4 x2 size kinds).bind fun r_6 => (nx_b r_6).bind fun _ => some r_6))) else (some 0)
set_option maxHeartbeats 4000000 in
set_option maxRecDepth 100000 in
theorem c_X0_isSound_22 (l : Launch) (E : nx_E) (sz : Nat) (a : Nat → Nat) (size : Int32) (on : Int32) (kinds : Nat → Int32) (marks : Nat → Int32) (nb : Nat → Int32) (reached : Int32) (dist : Nat → Int32) (lastW : Nat → Int32) (par : Nat → Int32) (ord : Nat → Int32) (paths : Nat → Int64) (costs : Nat → Int32) (wanted : Int32) (tlen : Int32) (onlyF : Int32) (found : Int32) (steps : Nat → Int32) (plen : Int32) (rowW : Nat → Int32) (rowS : Nat → Int32) (tally : Nat → Int32) (x1 : Int32) (x2 : Int32) (o : Int32) (h : f_X0_isSound_22 x1 x2 size kinds nb = some o) : Met l yX0_isSound (.code yX0_isSound cX0_isSound 5 (some .boolean) :: nx_T) (nx_rm 1 23) (va_Pc [.ref (a 22), .int x1, .int x2] (nx_P E (nx_F) sz (cW E a size on kinds marks nb reached dist lastW par ord paths costs wanted tlen onlyF found steps plen rowW rowS tally))) (va_Qi (fun v (_ : Unit) => v = o) (fun _ t => va_P E.1 vwCl (cW E a size on kinds marks nb reached dist lastW par ord paths costs wanted tlen onlyF found steps plen rowW rowS tally) t.heap) (nx_F)) 0 0 (nx_F) := by
  refine nx_enZ (fun v (_ : Unit) => v = o) (fun (_ : Unit) => (cW E a size on kinds marks nb reached dist lastW par ord paths costs wanted tlen onlyF found steps plen rowW rowS tally)) (by decide) (Nat.le_of_ble_eq_true rfl) ?_
  intro p e s m below meth c Q X kr hsz hP ls hl
  subst hsz
  generalize hargs : (List.toArray [.ref (a 22), .int x1, .int x2] : Array Value) = args at X kr ⊢
  clear hargs
  obtain ⟨⟨hx, hb, hml, hown, hts⟩, hK, hSt, hNz⟩ := id X
  have hS : va_S (nx_F) s.heap s.heap [] := va_S.rf
  have hl : lv_has ls 5 [(0, .ref (a 22)), (1, .int x1), (2, .int x2)] := hl
  unfold f_X0_isSound_22 at h
  suffices hw : ∀ (H : Heap) (locs : List Loc), va_P E.1 vwCl (cW E a size on kinds marks nb reached dist lastW par ord paths costs wanted tlen onlyF found steps plen rowW rowS tally) H → va_S (nx_F) s.heap H locs → W p l e (nx_rm 1 23) s m args below meth c H locs 0 0 Q (F0 m 0 ls []) from hw _ _ hP va_S.rf
  intro H locs hP hS
  refine lv_iload_n hx hb dX0_isSound_0 rfl (lv_at hl 1 rfl) ?_
  refine lv_if_ge (tgt := 6) hx hb dX0_isSound_1 (by decide) (fun hc => ?_) (fun hc => ?_)
  · have h := nx_it h hc
    refine lv_iload_n hx hb dX0_isSound_6 rfl (lv_at hl 1 rfl) ?_
    refine lv_iconst (v := 3) hx hb dX0_isSound_7 (by decide) ?_
    refine lv_idiv hx hb dX0_isSound_8 (by decide) ?_
    refine lv_istore_n (lv' := [(3, .int (x1 / 3)), (0, .ref (a 22)), (1, .int x1), (2, .int x2)]) hx hb dX0_isSound_9 rfl hl (by decide) rfl (fun ls hl => ?_)
    refine lv_iload_n hx hb dX0_isSound_10 rfl (lv_at hl 2 rfl) ?_
    refine lv_iconst (v := 3) hx hb dX0_isSound_11 (by decide) ?_
    refine lv_irem hx hb dX0_isSound_12 (by decide) ?_
    refine lv_istore (lv' := [(4, .int (x1 - x1 / 3 * 3)), (3, .int (x1 / 3)), (0, .ref (a 22)), (1, .int x1), (2, .int x2)]) hx hb dX0_isSound_13 hl (by decide) rfl (fun ls hl => ?_)
    refine lv_aload_n hx hb dX0_isSound_15 rfl (lv_at hl 2 rfl) ?_
    refine nx_gf X hP uw_X0 (ci := 0) rfl 22 rfl 0 (by decide) wf_RX0_9 rfl dX0_isSound_16 ?_
    refine lv_iload_n hx hb dX0_isSound_19 rfl (lv_at hl 1 rfl) ?_
    refine lv_iload_n hx hb dX0_isSound_20 rfl (lv_at hl 4 rfl) ?_
    obtain ⟨r_2, hc_1, h⟩ := nx_bd h
    refine nx_ki (nx_runV (As := [.int (x1 / 3), .int x2]) (rest := []) X hS hP (c_X2_isOpen l E H.size a size on kinds marks nb reached dist lastW par ord paths costs wanted tlen onlyF found steps plen rowW rowS tally (x1 / 3) x2 _ hc_1) nx_FA qV_RX0_19 ⟨rfl, rfl⟩ ⟨Nat.le_of_ble_eq_true rfl, Nat.le_of_ble_eq_true rfl⟩ ⟨Nat.zero_le _, Nat.zero_le _⟩ 1 rfl rfl rfl rfl hl.1 (Nat.le_of_ble_eq_true rfl) dX0_isSound_21) hS nx_FA (fun H locs hP hS => ?_)
    refine lv_if_ne (tgt := 29) hx hb dX0_isSound_24 (by decide) (fun hc => ?_) (fun hc => ?_)
    · have h := nx_if h hc
      refine lv_iload hx hb dX0_isSound_29 (lv_at hl 0 rfl) ?_
      refine lv_if_ne (tgt := 52) hx hb dX0_isSound_31 (by decide) (fun hc => ?_) (fun hc => ?_)
      · have h := nx_if h hc
        refine lv_aload_n hx hb dX0_isSound_52 rfl (lv_at hl 2 rfl) ?_
        refine nx_gf X hP uw_X0 (ci := 0) rfl 22 rfl 0 (by decide) wf_RX0_9 rfl dX0_isSound_53 ?_
        refine lv_aload_n hx hb dX0_isSound_56 rfl (lv_at hl 2 rfl) ?_
        refine nx_gf X hP uw_X0 (ci := 0) rfl 22 rfl 0 (by decide) wf_RX0_9 rfl dX0_isSound_57 ?_
        refine lv_iload_n hx hb dX0_isSound_60 rfl (lv_at hl 1 rfl) ?_
        refine lv_iload hx hb dX0_isSound_61 (lv_at hl 0 rfl) ?_
        refine lv_iconst (v := 1) hx hb dX0_isSound_63 (by decide) ?_
        refine lv_isub hx hb dX0_isSound_64 ?_
        obtain ⟨r_4, hc_3, h⟩ := nx_bd h
        refine nx_ki (nx_runV (As := [.int (x1 / 3), .int ((x1 - x1 / 3 * 3) - 1)]) (rest := [.ref (a 1)]) X hS hP (c_X2_beside l E H.size a size on kinds marks nb reached dist lastW par ord paths costs wanted tlen onlyF found steps plen rowW rowS tally (x1 / 3) ((x1 - x1 / 3 * 3) - 1) _ hc_3) nx_FA qV_RX0_29 ⟨rfl, rfl⟩ ⟨Nat.le_of_ble_eq_true rfl, Nat.le_of_ble_eq_true rfl⟩ ⟨Nat.zero_le _, Nat.zero_le _⟩ 1 rfl rfl rfl rfl hl.1 (Nat.le_of_ble_eq_true rfl) dX0_isSound_65) hS nx_FA (fun H locs hP hS => ?_)
        refine lv_iload_n hx hb dX0_isSound_68 rfl (lv_at hl 4 rfl) ?_
        obtain ⟨r_6, hc_5, h⟩ := nx_bd h
        refine nx_ki (nx_runV (As := [.int r_4, .int x2]) (rest := []) X hS hP (c_X2_isOpen l E H.size a size on kinds marks nb reached dist lastW par ord paths costs wanted tlen onlyF found steps plen rowW rowS tally r_4 x2 _ hc_5) nx_FA qV_RX0_19 ⟨rfl, rfl⟩ ⟨Nat.le_of_ble_eq_true rfl, Nat.le_of_ble_eq_true rfl⟩ ⟨Nat.zero_le _, Nat.zero_le _⟩ 1 rfl rfl rfl rfl hl.1 (Nat.le_of_ble_eq_true rfl) dX0_isSound_69) hS nx_FA (fun H locs hP hS => ?_)
        obtain ⟨hz, h⟩ := nx_bb h
        exact kr 72 ls r_6 () H locs dX0_isSound_72 hz (Option.some.inj h) hP hS
      · have h := nx_it h hc
        refine lv_aload_n hx hb dX0_isSound_34 rfl (lv_at hl 2 rfl) ?_
        refine nx_gf X hP uw_X0 (ci := 0) rfl 22 rfl 0 (by decide) wf_RX0_9 rfl dX0_isSound_35 ?_
        refine lv_iload_n hx hb dX0_isSound_38 rfl (lv_at hl 1 rfl) ?_
        obtain ⟨r_8, hc_7, h⟩ := nx_bd h
        refine nx_ki (nx_runV (As := [.int (x1 / 3)]) (rest := []) X hS hP (c_X2_kindOf l E H.size a size on kinds marks nb reached dist lastW par ord paths costs wanted tlen onlyF found steps plen rowW rowS tally (x1 / 3) _ hc_7) nx_FA qV_RX0_25 ⟨rfl, rfl⟩ ⟨Nat.le_of_ble_eq_true rfl, Nat.le_of_ble_eq_true rfl⟩ ⟨Nat.zero_le _, Nat.zero_le _⟩ 1 rfl rfl rfl rfl hl.1 (Nat.le_of_ble_eq_true rfl) dX0_isSound_39) hS nx_FA (fun H locs hP hS => ?_)
        refine lv_iconst (v := 2) hx hb dX0_isSound_42 (by decide) ?_
        refine lv_icmp_eq (tgt := 50) hx hb dX0_isSound_43 (by decide) (fun hc => ?_) (fun hc => ?_)
        · have h := nx_it h hc
          refine lv_iconst (v := 0) hx hb dX0_isSound_50 (by decide) ?_
          exact kr 51 ls 0 () H locs dX0_isSound_51 (Or.inl rfl) (Option.some.inj h) hP hS
        · have h := nx_if h hc
          refine lv_iconst (v := 1) hx hb dX0_isSound_46 (by decide) ?_
          refine lv_goto (tgt := 51) hx hb dX0_isSound_47 (by decide) ?_
          exact kr 51 ls 1 () H locs dX0_isSound_51 (Or.inr rfl) (Option.some.inj h) hP hS
    · have h := nx_it h hc
      refine lv_iconst (v := 0) hx hb dX0_isSound_27 (by decide) ?_
      exact kr 28 ls 0 () H locs dX0_isSound_28 (Or.inl rfl) (Option.some.inj h) hP hS
  · have h := nx_if h hc
    refine lv_iconst (v := 0) hx hb dX0_isSound_4 (by decide) ?_
    exact kr 5 ls 0 () H locs dX0_isSound_5 (Or.inl rfl) (Option.some.inj h) hP hS
def f_X1_isSoundNow (x1 : Int32) (size : Int32) (on : Int32) (kinds : Nat → Int32) (nb : Nat → Int32) : Option (Int32) :=
  (f_X2_groupsOn on).bind fun r_2 => (f_X0_isSound_22 x1 r_2 size kinds nb).bind fun r_4 => (nx_b r_4).bind fun _ => some r_4
set_option maxHeartbeats 4000000 in
set_option maxRecDepth 100000 in
theorem c_X1_isSoundNow (l : Launch) (E : nx_E) (sz : Nat) (a : Nat → Nat) (size : Int32) (on : Int32) (kinds : Nat → Int32) (marks : Nat → Int32) (nb : Nat → Int32) (reached : Int32) (dist : Nat → Int32) (lastW : Nat → Int32) (par : Nat → Int32) (ord : Nat → Int32) (paths : Nat → Int64) (costs : Nat → Int32) (wanted : Int32) (tlen : Int32) (onlyF : Int32) (found : Int32) (steps : Nat → Int32) (plen : Int32) (rowW : Nat → Int32) (rowS : Nat → Int32) (tally : Nat → Int32) (x1 : Int32) (o : Int32) (h : f_X1_isSoundNow x1 size on kinds nb = some o) : Met l yX1_isSoundNow (.code yX1_isSoundNow cX1_isSoundNow 2 (some .boolean) :: nx_T) (nx_rm 2 47) (va_Pc [.ref (a 21), .int x1] (nx_P E (nx_F) sz (cW E a size on kinds marks nb reached dist lastW par ord paths costs wanted tlen onlyF found steps plen rowW rowS tally))) (va_Qi (fun v (_ : Unit) => v = o) (fun _ t => va_P E.1 vwCl (cW E a size on kinds marks nb reached dist lastW par ord paths costs wanted tlen onlyF found steps plen rowW rowS tally) t.heap) (nx_F)) 0 0 (nx_F) := by
  refine nx_enZ (fun v (_ : Unit) => v = o) (fun (_ : Unit) => (cW E a size on kinds marks nb reached dist lastW par ord paths costs wanted tlen onlyF found steps plen rowW rowS tally)) (by decide) (Nat.le_of_ble_eq_true rfl) ?_
  intro p e s m below meth c Q X kr hsz hP ls hl
  subst hsz
  generalize hargs : (List.toArray [.ref (a 21), .int x1] : Array Value) = args at X kr ⊢
  clear hargs
  obtain ⟨⟨hx, hb, hml, hown, hts⟩, hK, hSt, hNz⟩ := id X
  have hS : va_S (nx_F) s.heap s.heap [] := va_S.rf
  have hl : lv_has ls 2 [(0, .ref (a 21)), (1, .int x1)] := hl
  unfold f_X1_isSoundNow at h
  suffices hw : ∀ (H : Heap) (locs : List Loc), va_P E.1 vwCl (cW E a size on kinds marks nb reached dist lastW par ord paths costs wanted tlen onlyF found steps plen rowW rowS tally) H → va_S (nx_F) s.heap H locs → W p l e (nx_rm 2 47) s m args below meth c H locs 0 0 Q (F0 m 0 ls []) from hw _ _ hP va_S.rf
  intro H locs hP hS
  refine lv_aload_n hx hb dX1_isSoundNow_0 rfl (lv_at hl 0 rfl) ?_
  refine nx_gf X hP uw_X1 (ci := 1) rfl 21 rfl 2 (by decide) wf_RX1_24 rfl dX1_isSoundNow_1 ?_
  refine lv_iload_n hx hb dX1_isSoundNow_4 rfl (lv_at hl 1 rfl) ?_
  refine lv_aload_n hx hb dX1_isSoundNow_5 rfl (lv_at hl 0 rfl) ?_
  refine nx_gf X hP uw_X1 (ci := 1) rfl 21 rfl 0 (by decide) wf_RX1_9 rfl dX1_isSoundNow_6 ?_
  obtain ⟨r_2, hc_1, h⟩ := nx_bd h
  refine nx_ki (nx_runV (As := []) (rest := [.int x1, .ref (a 22)]) X hS hP (c_X2_groupsOn l E H.size a size on kinds marks nb reached dist lastW par ord paths costs wanted tlen onlyF found steps plen rowW rowS tally _ hc_1) nx_FA qV_RX1_31 ⟨rfl, rfl⟩ ⟨Nat.le_of_ble_eq_true rfl, Nat.le_of_ble_eq_true rfl⟩ ⟨Nat.zero_le _, Nat.zero_le _⟩ 1 rfl rfl rfl rfl hl.1 (Nat.le_of_ble_eq_true rfl) dX1_isSoundNow_9) hS nx_FA (fun H locs hP hS => ?_)
  obtain ⟨r_4, hc_3, h⟩ := nx_bd h
  refine nx_ki (nx_runV (As := [.int x1, .int r_2]) (rest := []) X hS hP (c_X0_isSound_22 l E H.size a size on kinds marks nb reached dist lastW par ord paths costs wanted tlen onlyF found steps plen rowW rowS tally x1 r_2 _ hc_3) nx_FA qV_RX1_37 ⟨rfl, rfl⟩ ⟨Nat.le_of_ble_eq_true rfl, Nat.le_of_ble_eq_true rfl⟩ ⟨Nat.zero_le _, Nat.zero_le _⟩ 22 rfl rfl rfl rfl hl.1 (Nat.le_of_ble_eq_true rfl) dX1_isSoundNow_12) hS nx_FA (fun H locs hP hS => ?_)
  obtain ⟨hz, h⟩ := nx_bb h
  exact kr 15 ls r_4 () H locs dX1_isSoundNow_15 hz (Option.some.inj h) hP hS
def f_X10_sound (x1 : Int32) (size : Int32) (on : Int32) (kinds : Nat → Int32) (nb : Nat → Int32) : Option (Int32) :=
  (f_X10_isPlace x1 size).bind fun r_2 => if r_2 = 0 then (some (-1)) else ((f_X1_isSoundNow x1 size on kinds nb).bind fun r_4 => (f_X10_oneIf r_4).bind fun r_6 => some r_6)
set_option maxHeartbeats 4000000 in
set_option maxRecDepth 100000 in
theorem c_X10_sound (l : Launch) (E : nx_E) (sz : Nat) (a : Nat → Nat) (size : Int32) (on : Int32) (kinds : Nat → Int32) (marks : Nat → Int32) (nb : Nat → Int32) (reached : Int32) (dist : Nat → Int32) (lastW : Nat → Int32) (par : Nat → Int32) (ord : Nat → Int32) (paths : Nat → Int64) (costs : Nat → Int32) (wanted : Int32) (tlen : Int32) (onlyF : Int32) (found : Int32) (steps : Nat → Int32) (plen : Int32) (rowW : Nat → Int32) (rowS : Nat → Int32) (tally : Nat → Int32) (x1 : Int32) (o : Int32) (h : f_X10_sound x1 size on kinds nb = some o) : Met l yX10_sound (.code yX10_sound cX10_sound 2 (some .int) :: nx_T) (nx_rm 3 68) (va_Pc [.ref (a 0), .int x1] (nx_P E (nx_F) sz (cW E a size on kinds marks nb reached dist lastW par ord paths costs wanted tlen onlyF found steps plen rowW rowS tally))) (va_Qi (fun v (_ : Unit) => v = o) (fun _ t => va_P E.1 vwCl (cW E a size on kinds marks nb reached dist lastW par ord paths costs wanted tlen onlyF found steps plen rowW rowS tally) t.heap) (nx_F)) 0 0 (nx_F) := by
  refine nx_enI (fun v (_ : Unit) => v = o) (fun (_ : Unit) => (cW E a size on kinds marks nb reached dist lastW par ord paths costs wanted tlen onlyF found steps plen rowW rowS tally)) (by decide) (Nat.le_of_ble_eq_true rfl) ?_
  intro p e s m below meth c Q X kr hsz hP ls hl
  subst hsz
  generalize hargs : (List.toArray [.ref (a 0), .int x1] : Array Value) = args at X kr ⊢
  clear hargs
  obtain ⟨⟨hx, hb, hml, hown, hts⟩, hK, hSt, hNz⟩ := id X
  have hS : va_S (nx_F) s.heap s.heap [] := va_S.rf
  have hl : lv_has ls 2 [(0, .ref (a 0)), (1, .int x1)] := hl
  unfold f_X10_sound at h
  suffices hw : ∀ (H : Heap) (locs : List Loc), va_P E.1 vwCl (cW E a size on kinds marks nb reached dist lastW par ord paths costs wanted tlen onlyF found steps plen rowW rowS tally) H → va_S (nx_F) s.heap H locs → W p l e (nx_rm 3 68) s m args below meth c H locs 0 0 Q (F0 m 0 ls []) from hw _ _ hP va_S.rf
  intro H locs hP hS
  refine lv_aload_n hx hb dX10_sound_0 rfl (lv_at hl 0 rfl) ?_
  refine lv_iload_n hx hb dX10_sound_1 rfl (lv_at hl 1 rfl) ?_
  obtain ⟨r_2, hc_1, h⟩ := nx_bd h
  refine nx_ki (nx_runV (As := [.int x1]) (rest := []) X hS hP (c_X10_isPlace l E H.size a size on kinds marks nb reached dist lastW par ord paths costs wanted tlen onlyF found steps plen rowW rowS tally x1 _ hc_1) nx_FA qV_RX10_209 ⟨rfl, rfl⟩ ⟨Nat.le_of_ble_eq_true rfl, Nat.le_of_ble_eq_true rfl⟩ ⟨Nat.zero_le _, Nat.zero_le _⟩ 0 rfl rfl rfl rfl hl.1 (Nat.le_of_ble_eq_true rfl) dX10_sound_2) hS nx_FA (fun H locs hP hS => ?_)
  refine lv_if_eq (tgt := 22) hx hb dX10_sound_5 (by decide) (fun hc => ?_) (fun hc => ?_)
  · have h := nx_it h hc
    refine lv_iconst (v := (-1)) hx hb dX10_sound_22 (by decide) ?_
    exact kr 23 ls (-1) () H locs dX10_sound_23 (Option.some.inj h) hP hS
  · have h := nx_if h hc
    refine lv_aload_n hx hb dX10_sound_8 rfl (lv_at hl 0 rfl) ?_
    refine nx_gf X hP uw_X10 (ci := 9) rfl 0 rfl 7 (by decide) wf_RX10_69 rfl dX10_sound_9 ?_
    refine lv_iload_n hx hb dX10_sound_12 rfl (lv_at hl 1 rfl) ?_
    obtain ⟨r_4, hc_3, h⟩ := nx_bd h
    refine nx_ki (nx_runV (As := [.int x1]) (rest := []) X hS hP (c_X1_isSoundNow l E H.size a size on kinds marks nb reached dist lastW par ord paths costs wanted tlen onlyF found steps plen rowW rowS tally x1 _ hc_3) nx_FA qV_RX10_212 ⟨rfl, rfl⟩ ⟨Nat.le_of_ble_eq_true rfl, Nat.le_of_ble_eq_true rfl⟩ ⟨Nat.zero_le _, Nat.zero_le _⟩ 21 rfl rfl rfl rfl hl.1 (Nat.le_of_ble_eq_true rfl) dX10_sound_13) hS nx_FA (fun H locs hP hS => ?_)
    obtain ⟨r_6, hc_5, h⟩ := nx_bd h
    refine nx_ki (nx_runS (As := [.int r_4]) (rest := []) X hS hP (c_X10_oneIf l E H.size _ r_4 _ hc_5) nx_FA qS_RX10_106 ⟨rfl, rfl⟩ ⟨Nat.le_of_ble_eq_true rfl, Nat.le_of_ble_eq_true rfl⟩ ⟨Nat.zero_le _, Nat.zero_le _⟩ rfl rfl hl.1 (Nat.le_of_ble_eq_true rfl) dX10_sound_16) hS nx_FA (fun H locs hP hS => ?_)
    refine lv_goto (tgt := 23) hx hb dX10_sound_19 (by decide) ?_
    exact kr 23 ls r_6 () H locs dX10_sound_23 (Option.some.inj h) hP hS
def f_X0_at (x0 : Int32) (x1 : Int32)  : Option (Int32) :=
  some ((8 * x0) + x1)
set_option maxHeartbeats 4000000 in
set_option maxRecDepth 100000 in
theorem c_X0_at (l : Launch) (E : nx_E) (sz : Nat) (ws : va_W) (x0 : Int32) (x1 : Int32) (o : Int32) (h : f_X0_at x0 x1 = some o) : Met l yX0_at (.code yX0_at cX0_at 2 (some .int) :: nx_T) (nx_rm 0 0) (va_Pc [.int x0, .int x1] (nx_P E (nx_F) sz ws)) (va_Qi (fun v (_ : Unit) => v = o) (fun _ t => va_P E.1 vwCl ws t.heap) (nx_F)) 0 0 (nx_F) := by
  refine nx_enI (fun v (_ : Unit) => v = o) (fun (_ : Unit) => ws) (by decide) (Nat.le_of_ble_eq_true rfl) ?_
  intro p e s m below meth c Q X kr hsz hP ls hl
  subst hsz
  generalize hargs : (List.toArray [.int x0, .int x1] : Array Value) = args at X kr ⊢
  clear hargs
  obtain ⟨⟨hx, hb, hml, hown, hts⟩, hK, hSt, hNz⟩ := id X
  have hS : va_S (nx_F) s.heap s.heap [] := va_S.rf
  have hl : lv_has ls 2 [(0, .int x0), (1, .int x1)] := hl
  unfold f_X0_at at h
  suffices hw : ∀ (H : Heap) (locs : List Loc), va_P E.1 vwCl ws H → va_S (nx_F) s.heap H locs → W p l e (nx_rm 0 0) s m args below meth c H locs 0 0 Q (F0 m 0 ls []) from hw _ _ hP va_S.rf
  intro H locs hP hS
  refine lv_bipush (v := 8) hx hb dX0_at_0 (by decide) ?_
  refine lv_iload_n hx hb dX0_at_2 rfl (lv_at hl 0 rfl) ?_
  refine lv_imul hx hb dX0_at_3 ?_
  refine lv_iload_n hx hb dX0_at_4 rfl (lv_at hl 1 rfl) ?_
  refine lv_iadd hx hb dX0_at_5 ?_
  exact kr 6 ls ((8 * x0) + x1) () H locs dX0_at_6 (Option.some.inj h) hP hS
def f_X0_placeOf (x0 : Int32)  : Option (Int32) :=
  some (x0 / 8)
set_option maxHeartbeats 4000000 in
set_option maxRecDepth 100000 in
theorem c_X0_placeOf (l : Launch) (E : nx_E) (sz : Nat) (ws : va_W) (x0 : Int32) (o : Int32) (h : f_X0_placeOf x0 = some o) : Met l yX0_placeOf (.code yX0_placeOf cX0_placeOf 1 (some .int) :: nx_T) (nx_rm 0 0) (va_Pc [.int x0] (nx_P E (nx_F) sz ws)) (va_Qi (fun v (_ : Unit) => v = o) (fun _ t => va_P E.1 vwCl ws t.heap) (nx_F)) 0 0 (nx_F) := by
  refine nx_enI (fun v (_ : Unit) => v = o) (fun (_ : Unit) => ws) (by decide) (Nat.le_of_ble_eq_true rfl) ?_
  intro p e s m below meth c Q X kr hsz hP ls hl
  subst hsz
  generalize hargs : (List.toArray [.int x0] : Array Value) = args at X kr ⊢
  clear hargs
  obtain ⟨⟨hx, hb, hml, hown, hts⟩, hK, hSt, hNz⟩ := id X
  have hS : va_S (nx_F) s.heap s.heap [] := va_S.rf
  have hl : lv_has ls 1 [(0, .int x0)] := hl
  unfold f_X0_placeOf at h
  suffices hw : ∀ (H : Heap) (locs : List Loc), va_P E.1 vwCl ws H → va_S (nx_F) s.heap H locs → W p l e (nx_rm 0 0) s m args below meth c H locs 0 0 Q (F0 m 0 ls []) from hw _ _ hP va_S.rf
  intro H locs hP hS
  refine lv_iload_n hx hb dX0_placeOf_0 rfl (lv_at hl 0 rfl) ?_
  refine lv_bipush (v := 8) hx hb dX0_placeOf_1 (by decide) ?_
  refine lv_idiv hx hb dX0_placeOf_3 (by decide) ?_
  exact kr 4 ls (x0 / 8) () H locs dX0_placeOf_4 (Option.some.inj h) hP hS
def f_X0_groupsOf (x0 : Int32)  : Option (Int32) :=
  some (x0 - x0 / 8 * 8)
set_option maxHeartbeats 4000000 in
set_option maxRecDepth 100000 in
theorem c_X0_groupsOf (l : Launch) (E : nx_E) (sz : Nat) (ws : va_W) (x0 : Int32) (o : Int32) (h : f_X0_groupsOf x0 = some o) : Met l yX0_groupsOf (.code yX0_groupsOf cX0_groupsOf 1 (some .int) :: nx_T) (nx_rm 0 0) (va_Pc [.int x0] (nx_P E (nx_F) sz ws)) (va_Qi (fun v (_ : Unit) => v = o) (fun _ t => va_P E.1 vwCl ws t.heap) (nx_F)) 0 0 (nx_F) := by
  refine nx_enI (fun v (_ : Unit) => v = o) (fun (_ : Unit) => ws) (by decide) (Nat.le_of_ble_eq_true rfl) ?_
  intro p e s m below meth c Q X kr hsz hP ls hl
  subst hsz
  generalize hargs : (List.toArray [.int x0] : Array Value) = args at X kr ⊢
  clear hargs
  obtain ⟨⟨hx, hb, hml, hown, hts⟩, hK, hSt, hNz⟩ := id X
  have hS : va_S (nx_F) s.heap s.heap [] := va_S.rf
  have hl : lv_has ls 1 [(0, .int x0)] := hl
  unfold f_X0_groupsOf at h
  suffices hw : ∀ (H : Heap) (locs : List Loc), va_P E.1 vwCl ws H → va_S (nx_F) s.heap H locs → W p l e (nx_rm 0 0) s m args below meth c H locs 0 0 Q (F0 m 0 ls []) from hw _ _ hP va_S.rf
  intro H locs hP hS
  refine lv_iload_n hx hb dX0_groupsOf_0 rfl (lv_at hl 0 rfl) ?_
  refine lv_bipush (v := 8) hx hb dX0_groupsOf_1 (by decide) ?_
  refine lv_irem hx hb dX0_groupsOf_3 (by decide) ?_
  exact kr 4 ls (x0 - x0 / 8 * 8) () H locs dX0_groupsOf_4 (Option.some.inj h) hP hS
def f_X0_lyingFrom (x0 : Int32) (x1 : Int32)  : Option (Int32) :=
  if x0 = (-1) then (some (-1)) else (some ((3 * x0) + x1))
set_option maxHeartbeats 4000000 in
set_option maxRecDepth 100000 in
theorem c_X0_lyingFrom (l : Launch) (E : nx_E) (sz : Nat) (ws : va_W) (x0 : Int32) (x1 : Int32) (o : Int32) (h : f_X0_lyingFrom x0 x1 = some o) : Met l yX0_lyingFrom (.code yX0_lyingFrom cX0_lyingFrom 2 (some .int) :: nx_T) (nx_rm 0 0) (va_Pc [.int x0, .int x1] (nx_P E (nx_F) sz ws)) (va_Qi (fun v (_ : Unit) => v = o) (fun _ t => va_P E.1 vwCl ws t.heap) (nx_F)) 0 0 (nx_F) := by
  refine nx_enI (fun v (_ : Unit) => v = o) (fun (_ : Unit) => ws) (by decide) (Nat.le_of_ble_eq_true rfl) ?_
  intro p e s m below meth c Q X kr hsz hP ls hl
  subst hsz
  generalize hargs : (List.toArray [.int x0, .int x1] : Array Value) = args at X kr ⊢
  clear hargs
  obtain ⟨⟨hx, hb, hml, hown, hts⟩, hK, hSt, hNz⟩ := id X
  have hS : va_S (nx_F) s.heap s.heap [] := va_S.rf
  have hl : lv_has ls 2 [(0, .int x0), (1, .int x1)] := hl
  unfold f_X0_lyingFrom at h
  suffices hw : ∀ (H : Heap) (locs : List Loc), va_P E.1 vwCl ws H → va_S (nx_F) s.heap H locs → W p l e (nx_rm 0 0) s m args below meth c H locs 0 0 Q (F0 m 0 ls []) from hw _ _ hP va_S.rf
  intro H locs hP hS
  refine lv_iload_n hx hb dX0_lyingFrom_0 rfl (lv_at hl 0 rfl) ?_
  refine lv_iconst (v := (-1)) hx hb dX0_lyingFrom_1 (by decide) ?_
  refine lv_icmp_ne (tgt := 9) hx hb dX0_lyingFrom_2 (by decide) (fun hc => ?_) (fun hc => ?_)
  · have h := nx_if h hc
    refine lv_iconst (v := 3) hx hb dX0_lyingFrom_9 (by decide) ?_
    refine lv_iload_n hx hb dX0_lyingFrom_10 rfl (lv_at hl 0 rfl) ?_
    refine lv_imul hx hb dX0_lyingFrom_11 ?_
    refine lv_iload_n hx hb dX0_lyingFrom_12 rfl (lv_at hl 1 rfl) ?_
    refine lv_iadd hx hb dX0_lyingFrom_13 ?_
    exact kr 14 ls ((3 * x0) + x1) () H locs dX0_lyingFrom_14 (Option.some.inj h) hP hS
  · have h := nx_it h hc
    refine lv_iconst (v := (-1)) hx hb dX0_lyingFrom_5 (by decide) ?_
    refine lv_goto (tgt := 14) hx hb dX0_lyingFrom_6 (by decide) ?_
    exact kr 14 ls (-1) () H locs dX0_lyingFrom_14 (Option.some.inj h) hP hS
def f_X0_tipped_22_j124 (x2 : Int32) (s0 : Int32) (size : Int32) (nb : Nat → Int32) : Option (Int32) :=
  (f_X2_beside s0 x2 size nb).bind fun r_2 => (f_X0_lyingFrom r_2 0).bind fun r_4 => some r_4
def f_X0_tipped_22_j78 (x5 : Int32) (s0 : Int32) : Option (Int32) :=
  (f_X0_lyingFrom s0 x5).bind fun r_6 => some r_6
def f_X0_tipped_22_j26 (x2 : Int32) (x3 : Int32) (x4 : Int32) (x5 : Int32) (s0 : Int32) (size : Int32) (nb : Nat → Int32) : Option (Int32) :=
  if x4 = 0 then ((f_X2_beside x3 x2 size nb).bind fun r_14 => (f_X2_beside r_14 x2 size nb).bind fun r_16 => if r_16 = (-1) then (some (-1)) else (if s0 = 0 then (f_X0_tipped_22_j78 x5 r_16) else (f_X0_tipped_22_j78 x5 r_14))) else (if x4 = x5 then (if s0 = 0 then (f_X0_tipped_22_j124 x2 x3 size nb) else ((f_X2_beside x3 x2 size nb).bind fun r_8 => f_X0_tipped_22_j124 x2 r_8 size nb)) else ((f_X2_beside x3 x2 size nb).bind fun r_10 => (f_X0_lyingFrom r_10 x4).bind fun r_12 => some r_12))
def f_X0_tipped_22 (x1 : Int32) (x2 : Int32) (size : Int32) (nb : Nat → Int32) : Option (Int32) :=
  if 2 ≤ x2 then (f_X0_tipped_22_j26 x2 (x1 / 3) (x1 - x1 / 3 * 3) ((x2 - x2 / 2 * 2) + 1) 0 size nb) else (f_X0_tipped_22_j26 x2 (x1 / 3) (x1 - x1 / 3 * 3) ((x2 - x2 / 2 * 2) + 1) 1 size nb)
set_option maxHeartbeats 4000000 in
set_option maxRecDepth 100000 in
theorem c_X0_tipped_22 (l : Launch) (E : nx_E) (sz : Nat) (a : Nat → Nat) (size : Int32) (on : Int32) (kinds : Nat → Int32) (marks : Nat → Int32) (nb : Nat → Int32) (reached : Int32) (dist : Nat → Int32) (lastW : Nat → Int32) (par : Nat → Int32) (ord : Nat → Int32) (paths : Nat → Int64) (costs : Nat → Int32) (wanted : Int32) (tlen : Int32) (onlyF : Int32) (found : Int32) (steps : Nat → Int32) (plen : Int32) (rowW : Nat → Int32) (rowS : Nat → Int32) (tally : Nat → Int32) (x1 : Int32) (x2 : Int32) (o : Int32) (h : f_X0_tipped_22 x1 x2 size nb = some o) : Met l yX0_tipped (.code yX0_tipped cX0_tipped 9 (some .int) :: nx_T) (nx_rm 1 23) (va_Pc [.ref (a 22), .int x1, .int x2] (nx_P E (nx_F) sz (cW E a size on kinds marks nb reached dist lastW par ord paths costs wanted tlen onlyF found steps plen rowW rowS tally))) (va_Qi (fun v (_ : Unit) => v = o) (fun _ t => va_P E.1 vwCl (cW E a size on kinds marks nb reached dist lastW par ord paths costs wanted tlen onlyF found steps plen rowW rowS tally) t.heap) (nx_F)) 0 0 (nx_F) := by
  refine nx_enI (fun v (_ : Unit) => v = o) (fun (_ : Unit) => (cW E a size on kinds marks nb reached dist lastW par ord paths costs wanted tlen onlyF found steps plen rowW rowS tally)) (by decide) (Nat.le_of_ble_eq_true rfl) ?_
  intro p e s m below meth c Q X kr hsz hP ls hl
  subst hsz
  generalize hargs : (List.toArray [.ref (a 22), .int x1, .int x2] : Array Value) = args at X kr ⊢
  clear hargs
  obtain ⟨⟨hx, hb, hml, hown, hts⟩, hK, hSt, hNz⟩ := id X
  have hS : va_S (nx_F) s.heap s.heap [] := va_S.rf
  have hl : lv_has ls 9 [(0, .ref (a 22)), (1, .int x1), (2, .int x2)] := hl
  have J124 : ∀ (x2 : Int32) (s0 : Int32), f_X0_tipped_22_j124 x2 s0 size nb = some o → ∀ (H : Heap) (locs : List Loc) (ls : Array Slot), va_P E.1 vwCl (cW E a size on kinds marks nb reached dist lastW par ord paths costs wanted tlen onlyF found steps plen rowW rowS tally) H → va_S (nx_F) s.heap H locs → lv_has ls 9 [(0, .ref (a 22)), (2, .int x2)] → W p l e (nx_rm 1 23) s m args below meth c H locs 0 0 Q (F0 m 124 ls [.int s0]) := by
    intro x2 s0 h H locs ls hP hS hl
    unfold f_X0_tipped_22_j124 at h
    refine lv_istore (lv' := [(7, .int s0), (0, .ref (a 22)), (2, .int x2)]) hx hb dX0_tipped_124 hl (by decide) rfl (fun ls hl => ?_)
    refine lv_aload_n hx hb dX0_tipped_126 rfl (lv_at hl 1 rfl) ?_
    refine nx_gf X hP uw_X0 (ci := 0) rfl 22 rfl 0 (by decide) wf_RX0_9 rfl dX0_tipped_127 ?_
    refine lv_iload hx hb dX0_tipped_130 (lv_at hl 0 rfl) ?_
    refine lv_iload_n hx hb dX0_tipped_132 rfl (lv_at hl 2 rfl) ?_
    obtain ⟨r_2, hc_1, h⟩ := nx_bd h
    refine nx_ki (nx_runV (As := [.int s0, .int x2]) (rest := []) X hS hP (c_X2_beside l E H.size a size on kinds marks nb reached dist lastW par ord paths costs wanted tlen onlyF found steps plen rowW rowS tally s0 x2 _ hc_1) nx_FA qV_RX0_29 ⟨rfl, rfl⟩ ⟨Nat.le_of_ble_eq_true rfl, Nat.le_of_ble_eq_true rfl⟩ ⟨Nat.zero_le _, Nat.zero_le _⟩ 1 rfl rfl rfl rfl hl.1 (Nat.le_of_ble_eq_true rfl) dX0_tipped_133) hS nx_FA (fun H locs hP hS => ?_)
    refine lv_iconst (v := 0) hx hb dX0_tipped_136 (by decide) ?_
    obtain ⟨r_4, hc_3, h⟩ := nx_bd h
    refine nx_ki (nx_runS (As := [.int r_2, .int 0]) (rest := []) X hS hP (c_X0_lyingFrom l E H.size _ r_2 0 _ hc_3) nx_FA qS_RX0_33 ⟨rfl, rfl⟩ ⟨Nat.le_of_ble_eq_true rfl, Nat.le_of_ble_eq_true rfl⟩ ⟨Nat.zero_le _, Nat.zero_le _⟩ rfl rfl hl.1 (Nat.le_of_ble_eq_true rfl) dX0_tipped_137) hS nx_FA (fun H locs hP hS => ?_)
    exact kr 140 ls r_4 () H locs dX0_tipped_140 (Option.some.inj h) hP hS
  have J78 : ∀ (x5 : Int32) (s0 : Int32), f_X0_tipped_22_j78 x5 s0 = some o → ∀ (H : Heap) (locs : List Loc) (ls : Array Slot), va_P E.1 vwCl (cW E a size on kinds marks nb reached dist lastW par ord paths costs wanted tlen onlyF found steps plen rowW rowS tally) H → va_S (nx_F) s.heap H locs → lv_has ls 9 [(0, .ref (a 22)), (5, .int x5)] → W p l e (nx_rm 1 23) s m args below meth c H locs 0 0 Q (F0 m 78 ls [.int s0]) := by
    intro x5 s0 h H locs ls hP hS hl
    unfold f_X0_tipped_22_j78 at h
    refine lv_iload hx hb dX0_tipped_78 (lv_at hl 1 rfl) ?_
    obtain ⟨r_6, hc_5, h⟩ := nx_bd h
    refine nx_ki (nx_runS (As := [.int s0, .int x5]) (rest := []) X hS hP (c_X0_lyingFrom l E H.size _ s0 x5 _ hc_5) nx_FA qS_RX0_33 ⟨rfl, rfl⟩ ⟨Nat.le_of_ble_eq_true rfl, Nat.le_of_ble_eq_true rfl⟩ ⟨Nat.zero_le _, Nat.zero_le _⟩ rfl rfl hl.1 (Nat.le_of_ble_eq_true rfl) dX0_tipped_80) hS nx_FA (fun H locs hP hS => ?_)
    exact kr 83 ls r_6 () H locs dX0_tipped_83 (Option.some.inj h) hP hS
  have J26 : ∀ (x2 : Int32) (x3 : Int32) (x4 : Int32) (x5 : Int32) (s0 : Int32), f_X0_tipped_22_j26 x2 x3 x4 x5 s0 size nb = some o → ∀ (H : Heap) (locs : List Loc) (ls : Array Slot), va_P E.1 vwCl (cW E a size on kinds marks nb reached dist lastW par ord paths costs wanted tlen onlyF found steps plen rowW rowS tally) H → va_S (nx_F) s.heap H locs → lv_has ls 9 [(0, .ref (a 22)), (2, .int x2), (3, .int x3), (4, .int x4), (5, .int x5)] → W p l e (nx_rm 1 23) s m args below meth c H locs 0 0 Q (F0 m 26 ls [.int s0]) := by
    intro x2 x3 x4 x5 s0 h H locs ls hP hS hl
    unfold f_X0_tipped_22_j26 at h
    refine lv_istore (lv' := [(6, .int s0), (0, .ref (a 22)), (2, .int x2), (3, .int x3), (4, .int x4), (5, .int x5)]) hx hb dX0_tipped_26 hl (by decide) rfl (fun ls hl => ?_)
    refine lv_iload hx hb dX0_tipped_28 (lv_at hl 4 rfl) ?_
    refine lv_if_ne (tgt := 84) hx hb dX0_tipped_30 (by decide) (fun hc => ?_) (fun hc => ?_)
    · have h := nx_if h hc
      refine lv_iload hx hb dX0_tipped_84 (lv_at hl 4 rfl) ?_
      refine lv_iload hx hb dX0_tipped_86 (lv_at hl 5 rfl) ?_
      refine lv_icmp_eq (tgt := 106) hx hb dX0_tipped_88 (by decide) (fun hc => ?_) (fun hc => ?_)
      · have h := nx_it h hc
        refine lv_iload hx hb dX0_tipped_106 (lv_at hl 0 rfl) ?_
        refine lv_if_eq (tgt := 123) hx hb dX0_tipped_108 (by decide) (fun hc => ?_) (fun hc => ?_)
        · have h := nx_it h hc
          refine lv_iload_n hx hb dX0_tipped_123 rfl (lv_at hl 3 rfl) ?_
          exact J124 _ _ h H locs ls hP hS (lv_sub hl [1, 2] rfl)
        · have h := nx_if h hc
          refine lv_aload_n hx hb dX0_tipped_111 rfl (lv_at hl 1 rfl) ?_
          refine nx_gf X hP uw_X0 (ci := 0) rfl 22 rfl 0 (by decide) wf_RX0_9 rfl dX0_tipped_112 ?_
          refine lv_iload_n hx hb dX0_tipped_115 rfl (lv_at hl 3 rfl) ?_
          refine lv_iload_n hx hb dX0_tipped_116 rfl (lv_at hl 2 rfl) ?_
          obtain ⟨r_8, hc_7, h⟩ := nx_bd h
          refine nx_ki (nx_runV (As := [.int x3, .int x2]) (rest := []) X hS hP (c_X2_beside l E H.size a size on kinds marks nb reached dist lastW par ord paths costs wanted tlen onlyF found steps plen rowW rowS tally x3 x2 _ hc_7) nx_FA qV_RX0_29 ⟨rfl, rfl⟩ ⟨Nat.le_of_ble_eq_true rfl, Nat.le_of_ble_eq_true rfl⟩ ⟨Nat.zero_le _, Nat.zero_le _⟩ 1 rfl rfl rfl rfl hl.1 (Nat.le_of_ble_eq_true rfl) dX0_tipped_117) hS nx_FA (fun H locs hP hS => ?_)
          refine lv_goto (tgt := 124) hx hb dX0_tipped_120 (by decide) ?_
          exact J124 _ _ h H locs ls hP hS (lv_sub hl [1, 2] rfl)
      · have h := nx_if h hc
        refine lv_aload_n hx hb dX0_tipped_91 rfl (lv_at hl 1 rfl) ?_
        refine nx_gf X hP uw_X0 (ci := 0) rfl 22 rfl 0 (by decide) wf_RX0_9 rfl dX0_tipped_92 ?_
        refine lv_iload_n hx hb dX0_tipped_95 rfl (lv_at hl 3 rfl) ?_
        refine lv_iload_n hx hb dX0_tipped_96 rfl (lv_at hl 2 rfl) ?_
        obtain ⟨r_10, hc_9, h⟩ := nx_bd h
        refine nx_ki (nx_runV (As := [.int x3, .int x2]) (rest := []) X hS hP (c_X2_beside l E H.size a size on kinds marks nb reached dist lastW par ord paths costs wanted tlen onlyF found steps plen rowW rowS tally x3 x2 _ hc_9) nx_FA qV_RX0_29 ⟨rfl, rfl⟩ ⟨Nat.le_of_ble_eq_true rfl, Nat.le_of_ble_eq_true rfl⟩ ⟨Nat.zero_le _, Nat.zero_le _⟩ 1 rfl rfl rfl rfl hl.1 (Nat.le_of_ble_eq_true rfl) dX0_tipped_97) hS nx_FA (fun H locs hP hS => ?_)
        refine lv_iload hx hb dX0_tipped_100 (lv_at hl 4 rfl) ?_
        obtain ⟨r_12, hc_11, h⟩ := nx_bd h
        refine nx_ki (nx_runS (As := [.int r_10, .int x4]) (rest := []) X hS hP (c_X0_lyingFrom l E H.size _ r_10 x4 _ hc_11) nx_FA qS_RX0_33 ⟨rfl, rfl⟩ ⟨Nat.le_of_ble_eq_true rfl, Nat.le_of_ble_eq_true rfl⟩ ⟨Nat.zero_le _, Nat.zero_le _⟩ rfl rfl hl.1 (Nat.le_of_ble_eq_true rfl) dX0_tipped_102) hS nx_FA (fun H locs hP hS => ?_)
        exact kr 105 ls r_12 () H locs dX0_tipped_105 (Option.some.inj h) hP hS
    · have h := nx_it h hc
      refine lv_aload_n hx hb dX0_tipped_33 rfl (lv_at hl 1 rfl) ?_
      refine nx_gf X hP uw_X0 (ci := 0) rfl 22 rfl 0 (by decide) wf_RX0_9 rfl dX0_tipped_34 ?_
      refine lv_iload_n hx hb dX0_tipped_37 rfl (lv_at hl 3 rfl) ?_
      refine lv_iload_n hx hb dX0_tipped_38 rfl (lv_at hl 2 rfl) ?_
      obtain ⟨r_14, hc_13, h⟩ := nx_bd h
      refine nx_ki (nx_runV (As := [.int x3, .int x2]) (rest := []) X hS hP (c_X2_beside l E H.size a size on kinds marks nb reached dist lastW par ord paths costs wanted tlen onlyF found steps plen rowW rowS tally x3 x2 _ hc_13) nx_FA qV_RX0_29 ⟨rfl, rfl⟩ ⟨Nat.le_of_ble_eq_true rfl, Nat.le_of_ble_eq_true rfl⟩ ⟨Nat.zero_le _, Nat.zero_le _⟩ 1 rfl rfl rfl rfl hl.1 (Nat.le_of_ble_eq_true rfl) dX0_tipped_39) hS nx_FA (fun H locs hP hS => ?_)
      refine lv_istore (lv' := [(7, .int r_14), (6, .int s0), (0, .ref (a 22)), (2, .int x2), (3, .int x3), (4, .int x4), (5, .int x5)]) hx hb dX0_tipped_42 hl (by decide) rfl (fun ls hl => ?_)
      refine lv_aload_n hx hb dX0_tipped_44 rfl (lv_at hl 2 rfl) ?_
      refine nx_gf X hP uw_X0 (ci := 0) rfl 22 rfl 0 (by decide) wf_RX0_9 rfl dX0_tipped_45 ?_
      refine lv_iload hx hb dX0_tipped_48 (lv_at hl 0 rfl) ?_
      refine lv_iload_n hx hb dX0_tipped_50 rfl (lv_at hl 3 rfl) ?_
      obtain ⟨r_16, hc_15, h⟩ := nx_bd h
      refine nx_ki (nx_runV (As := [.int r_14, .int x2]) (rest := []) X hS hP (c_X2_beside l E H.size a size on kinds marks nb reached dist lastW par ord paths costs wanted tlen onlyF found steps plen rowW rowS tally r_14 x2 _ hc_15) nx_FA qV_RX0_29 ⟨rfl, rfl⟩ ⟨Nat.le_of_ble_eq_true rfl, Nat.le_of_ble_eq_true rfl⟩ ⟨Nat.zero_le _, Nat.zero_le _⟩ 1 rfl rfl rfl rfl hl.1 (Nat.le_of_ble_eq_true rfl) dX0_tipped_51) hS nx_FA (fun H locs hP hS => ?_)
      refine lv_istore (lv' := [(8, .int r_16), (7, .int r_14), (6, .int s0), (0, .ref (a 22)), (2, .int x2), (3, .int x3), (4, .int x4), (5, .int x5)]) hx hb dX0_tipped_54 hl (by decide) rfl (fun ls hl => ?_)
      refine lv_iload hx hb dX0_tipped_56 (lv_at hl 0 rfl) ?_
      refine lv_iconst (v := (-1)) hx hb dX0_tipped_58 (by decide) ?_
      refine lv_icmp_ne (tgt := 66) hx hb dX0_tipped_59 (by decide) (fun hc => ?_) (fun hc => ?_)
      · have h := nx_if h hc
        refine lv_iload hx hb dX0_tipped_66 (lv_at hl 2 rfl) ?_
        refine lv_if_eq (tgt := 76) hx hb dX0_tipped_68 (by decide) (fun hc => ?_) (fun hc => ?_)
        · have h := nx_it h hc
          refine lv_iload hx hb dX0_tipped_76 (lv_at hl 0 rfl) ?_
          exact J78 _ _ h H locs ls hP hS (lv_sub hl [3, 7] rfl)
        · have h := nx_if h hc
          refine lv_iload hx hb dX0_tipped_71 (lv_at hl 1 rfl) ?_
          refine lv_goto (tgt := 78) hx hb dX0_tipped_73 (by decide) ?_
          exact J78 _ _ h H locs ls hP hS (lv_sub hl [3, 7] rfl)
      · have h := nx_it h hc
        refine lv_iconst (v := (-1)) hx hb dX0_tipped_62 (by decide) ?_
        refine lv_goto (tgt := 83) hx hb dX0_tipped_63 (by decide) ?_
        exact kr 83 ls (-1) () H locs dX0_tipped_83 (Option.some.inj h) hP hS
  unfold f_X0_tipped_22 at h
  suffices hw : ∀ (H : Heap) (locs : List Loc), va_P E.1 vwCl (cW E a size on kinds marks nb reached dist lastW par ord paths costs wanted tlen onlyF found steps plen rowW rowS tally) H → va_S (nx_F) s.heap H locs → W p l e (nx_rm 1 23) s m args below meth c H locs 0 0 Q (F0 m 0 ls []) from hw _ _ hP va_S.rf
  intro H locs hP hS
  refine lv_iload_n hx hb dX0_tipped_0 rfl (lv_at hl 1 rfl) ?_
  refine lv_iconst (v := 3) hx hb dX0_tipped_1 (by decide) ?_
  refine lv_idiv hx hb dX0_tipped_2 (by decide) ?_
  refine lv_istore_n (lv' := [(3, .int (x1 / 3)), (0, .ref (a 22)), (1, .int x1), (2, .int x2)]) hx hb dX0_tipped_3 rfl hl (by decide) rfl (fun ls hl => ?_)
  refine lv_iload_n hx hb dX0_tipped_4 rfl (lv_at hl 2 rfl) ?_
  refine lv_iconst (v := 3) hx hb dX0_tipped_5 (by decide) ?_
  refine lv_irem hx hb dX0_tipped_6 (by decide) ?_
  refine lv_istore (lv' := [(4, .int (x1 - x1 / 3 * 3)), (3, .int (x1 / 3)), (0, .ref (a 22)), (1, .int x1), (2, .int x2)]) hx hb dX0_tipped_7 hl (by decide) rfl (fun ls hl => ?_)
  refine lv_iload_n hx hb dX0_tipped_9 rfl (lv_at hl 4 rfl) ?_
  refine lv_iconst (v := 2) hx hb dX0_tipped_10 (by decide) ?_
  refine lv_irem hx hb dX0_tipped_11 (by decide) ?_
  refine lv_iconst (v := 1) hx hb dX0_tipped_12 (by decide) ?_
  refine lv_iadd hx hb dX0_tipped_13 ?_
  refine lv_istore (lv' := [(5, .int ((x2 - x2 / 2 * 2) + 1)), (4, .int (x1 - x1 / 3 * 3)), (3, .int (x1 / 3)), (0, .ref (a 22)), (1, .int x1), (2, .int x2)]) hx hb dX0_tipped_14 hl (by decide) rfl (fun ls hl => ?_)
  refine lv_iload_n hx hb dX0_tipped_16 rfl (lv_at hl 5 rfl) ?_
  refine lv_iconst (v := 2) hx hb dX0_tipped_17 (by decide) ?_
  refine lv_icmp_ge (tgt := 25) hx hb dX0_tipped_18 (by decide) (fun hc => ?_) (fun hc => ?_)
  · have h := nx_it h hc
    refine lv_iconst (v := 0) hx hb dX0_tipped_25 (by decide) ?_
    exact J26 _ _ _ _ _ h H locs ls hP hS (lv_sub hl [3, 5, 2, 1, 0] rfl)
  · have h := nx_if h hc
    refine lv_iconst (v := 1) hx hb dX0_tipped_21 (by decide) ?_
    refine lv_goto (tgt := 26) hx hb dX0_tipped_22 (by decide) ?_
    exact J26 _ _ _ _ _ h H locs ls hP hS (lv_sub hl [3, 5, 2, 1, 0] rfl)
def f_X0_turnedAt_22_j33 (x2 : Int32) (s0 : Int32) : Option (Int32) :=
  if s0 = 0 then (some 0) else (some (1 <<< ((x2 - 3) &&& 31)))
def f_X0_turnedAt_22 (x1 : Int32) (size : Int32) (kinds : Nat → Int32) : Option (Int32) :=
  (f_X2_kindOf (x1 / 3) size kinds).bind fun r_2 => if (x1 - x1 / 3 * 3) = 0 then (if r_2 < 3 then (f_X0_turnedAt_22_j33 r_2 0) else (if 6 ≤ r_2 then (f_X0_turnedAt_22_j33 r_2 0) else (f_X0_turnedAt_22_j33 r_2 1))) else (f_X0_turnedAt_22_j33 r_2 0)
set_option maxHeartbeats 4000000 in
set_option maxRecDepth 100000 in
theorem c_X0_turnedAt_22 (l : Launch) (E : nx_E) (sz : Nat) (a : Nat → Nat) (size : Int32) (on : Int32) (kinds : Nat → Int32) (marks : Nat → Int32) (nb : Nat → Int32) (reached : Int32) (dist : Nat → Int32) (lastW : Nat → Int32) (par : Nat → Int32) (ord : Nat → Int32) (paths : Nat → Int64) (costs : Nat → Int32) (wanted : Int32) (tlen : Int32) (onlyF : Int32) (found : Int32) (steps : Nat → Int32) (plen : Int32) (rowW : Nat → Int32) (rowS : Nat → Int32) (tally : Nat → Int32) (x1 : Int32) (o : Int32) (h : f_X0_turnedAt_22 x1 size kinds = some o) : Met l yX0_turnedAt (.code yX0_turnedAt cX0_turnedAt 4 (some .int) :: nx_T) (nx_rm 1 21) (va_Pc [.ref (a 22), .int x1] (nx_P E (nx_F) sz (cW E a size on kinds marks nb reached dist lastW par ord paths costs wanted tlen onlyF found steps plen rowW rowS tally))) (va_Qi (fun v (_ : Unit) => v = o) (fun _ t => va_P E.1 vwCl (cW E a size on kinds marks nb reached dist lastW par ord paths costs wanted tlen onlyF found steps plen rowW rowS tally) t.heap) (nx_F)) 0 0 (nx_F) := by
  refine nx_enI (fun v (_ : Unit) => v = o) (fun (_ : Unit) => (cW E a size on kinds marks nb reached dist lastW par ord paths costs wanted tlen onlyF found steps plen rowW rowS tally)) (by decide) (Nat.le_of_ble_eq_true rfl) ?_
  intro p e s m below meth c Q X kr hsz hP ls hl
  subst hsz
  generalize hargs : (List.toArray [.ref (a 22), .int x1] : Array Value) = args at X kr ⊢
  clear hargs
  obtain ⟨⟨hx, hb, hml, hown, hts⟩, hK, hSt, hNz⟩ := id X
  have hS : va_S (nx_F) s.heap s.heap [] := va_S.rf
  have hl : lv_has ls 4 [(0, .ref (a 22)), (1, .int x1)] := hl
  have J33 : ∀ (x2 : Int32) (s0 : Int32), f_X0_turnedAt_22_j33 x2 s0 = some o → ∀ (H : Heap) (locs : List Loc) (ls : Array Slot), va_P E.1 vwCl (cW E a size on kinds marks nb reached dist lastW par ord paths costs wanted tlen onlyF found steps plen rowW rowS tally) H → va_S (nx_F) s.heap H locs → lv_has ls 4 [(0, .ref (a 22)), (2, .int x2)] → W p l e (nx_rm 1 21) s m args below meth c H locs 0 0 Q (F0 m 33 ls [.int s0]) := by
    intro x2 s0 h H locs ls hP hS hl
    unfold f_X0_turnedAt_22_j33 at h
    refine lv_istore_n (lv' := [(3, .int s0), (0, .ref (a 22)), (2, .int x2)]) hx hb dX0_turnedAt_33 rfl hl (by decide) rfl (fun ls hl => ?_)
    refine lv_iload_n hx hb dX0_turnedAt_34 rfl (lv_at hl 0 rfl) ?_
    refine lv_if_eq (tgt := 46) hx hb dX0_turnedAt_35 (by decide) (fun hc => ?_) (fun hc => ?_)
    · have h := nx_it h hc
      refine lv_iconst (v := 0) hx hb dX0_turnedAt_46 (by decide) ?_
      exact kr 47 ls 0 () H locs dX0_turnedAt_47 (Option.some.inj h) hP hS
    · have h := nx_if h hc
      refine lv_iconst (v := 1) hx hb dX0_turnedAt_38 (by decide) ?_
      refine lv_iload_n hx hb dX0_turnedAt_39 rfl (lv_at hl 2 rfl) ?_
      refine lv_iconst (v := 3) hx hb dX0_turnedAt_40 (by decide) ?_
      refine lv_isub hx hb dX0_turnedAt_41 ?_
      refine lv_ishl hx hb dX0_turnedAt_42 ?_
      refine lv_goto (tgt := 47) hx hb dX0_turnedAt_43 (by decide) ?_
      exact kr 47 ls (1 <<< ((x2 - 3) &&& 31)) () H locs dX0_turnedAt_47 (Option.some.inj h) hP hS
  unfold f_X0_turnedAt_22 at h
  suffices hw : ∀ (H : Heap) (locs : List Loc), va_P E.1 vwCl (cW E a size on kinds marks nb reached dist lastW par ord paths costs wanted tlen onlyF found steps plen rowW rowS tally) H → va_S (nx_F) s.heap H locs → W p l e (nx_rm 1 21) s m args below meth c H locs 0 0 Q (F0 m 0 ls []) from hw _ _ hP va_S.rf
  intro H locs hP hS
  refine lv_aload_n hx hb dX0_turnedAt_0 rfl (lv_at hl 0 rfl) ?_
  refine nx_gf X hP uw_X0 (ci := 0) rfl 22 rfl 0 (by decide) wf_RX0_9 rfl dX0_turnedAt_1 ?_
  refine lv_iload_n hx hb dX0_turnedAt_4 rfl (lv_at hl 1 rfl) ?_
  refine lv_iconst (v := 3) hx hb dX0_turnedAt_5 (by decide) ?_
  refine lv_idiv hx hb dX0_turnedAt_6 (by decide) ?_
  obtain ⟨r_2, hc_1, h⟩ := nx_bd h
  refine nx_ki (nx_runV (As := [.int (x1 / 3)]) (rest := []) X hS hP (c_X2_kindOf l E H.size a size on kinds marks nb reached dist lastW par ord paths costs wanted tlen onlyF found steps plen rowW rowS tally (x1 / 3) _ hc_1) nx_FA qV_RX0_25 ⟨rfl, rfl⟩ ⟨Nat.le_of_ble_eq_true rfl, Nat.le_of_ble_eq_true rfl⟩ ⟨Nat.zero_le _, Nat.zero_le _⟩ 1 rfl rfl rfl rfl hl.1 (Nat.le_of_ble_eq_true rfl) dX0_turnedAt_7) hS nx_FA (fun H locs hP hS => ?_)
  refine lv_istore_n (lv' := [(2, .int r_2), (0, .ref (a 22)), (1, .int x1)]) hx hb dX0_turnedAt_10 rfl hl (by decide) rfl (fun ls hl => ?_)
  refine lv_iload_n hx hb dX0_turnedAt_11 rfl (lv_at hl 2 rfl) ?_
  refine lv_iconst (v := 3) hx hb dX0_turnedAt_12 (by decide) ?_
  refine lv_irem hx hb dX0_turnedAt_13 (by decide) ?_
  refine lv_if_ne (tgt := 32) hx hb dX0_turnedAt_14 (by decide) (fun hc => ?_) (fun hc => ?_)
  · have h := nx_if h hc
    refine lv_iconst (v := 0) hx hb dX0_turnedAt_32 (by decide) ?_
    exact J33 _ _ h H locs ls hP hS (lv_sub hl [1, 0] rfl)
  · have h := nx_it h hc
    refine lv_iload_n hx hb dX0_turnedAt_17 rfl (lv_at hl 0 rfl) ?_
    refine lv_iconst (v := 3) hx hb dX0_turnedAt_18 (by decide) ?_
    refine lv_icmp_lt (tgt := 32) hx hb dX0_turnedAt_19 (by decide) (fun hc => ?_) (fun hc => ?_)
    · have h := nx_it h hc
      refine lv_iconst (v := 0) hx hb dX0_turnedAt_32 (by decide) ?_
      exact J33 _ _ h H locs ls hP hS (lv_sub hl [1, 0] rfl)
    · have h := nx_if h hc
      refine lv_iload_n hx hb dX0_turnedAt_22 rfl (lv_at hl 0 rfl) ?_
      refine lv_bipush (v := 6) hx hb dX0_turnedAt_23 (by decide) ?_
      refine lv_icmp_ge (tgt := 32) hx hb dX0_turnedAt_25 (by decide) (fun hc => ?_) (fun hc => ?_)
      · have h := nx_it h hc
        refine lv_iconst (v := 0) hx hb dX0_turnedAt_32 (by decide) ?_
        exact J33 _ _ h H locs ls hP hS (lv_sub hl [1, 0] rfl)
      · have h := nx_if h hc
        refine lv_iconst (v := 1) hx hb dX0_turnedAt_28 (by decide) ?_
        refine lv_goto (tgt := 33) hx hb dX0_turnedAt_29 (by decide) ?_
        exact J33 _ _ h H locs ls hP hS (lv_sub hl [1, 0] rfl)
def f_X0_after_22 (x1 : Int32) (x2 : Int32) (size : Int32) (kinds : Nat → Int32) (nb : Nat → Int32) : Option (Int32) :=
  (f_X0_placeOf x1).bind fun r_2 => (f_X0_groupsOf x1).bind fun r_4 => (f_X0_tipped_22 r_2 x2 size nb).bind fun r_6 => if (0 : Int32) = 0 then ((f_X0_isSound_22 r_6 r_4 size kinds nb).bind fun r_8 => if r_8 = 0 then (some (-1)) else ((f_X0_turnedAt_22 r_6 size kinds).bind fun r_10 => (f_X0_at r_6 (r_4 ^^^ r_10)).bind fun r_12 => some r_12)) else ((f_X0_turnedAt_22 r_2 size kinds).bind fun r_14 => (f_X0_isSound_22 r_6 (r_4 ^^^ r_14) size kinds nb).bind fun r_16 => if r_16 = 0 then (some (-1)) else ((f_X0_at r_6 (r_4 ^^^ r_14)).bind fun r_18 => some r_18))
set_option maxHeartbeats 4000000 in
set_option maxRecDepth 100000 in
theorem c_X0_after_22 (l : Launch) (E : nx_E) (sz : Nat) (a : Nat → Nat) (size : Int32) (on : Int32) (kinds : Nat → Int32) (marks : Nat → Int32) (nb : Nat → Int32) (reached : Int32) (dist : Nat → Int32) (lastW : Nat → Int32) (par : Nat → Int32) (ord : Nat → Int32) (paths : Nat → Int64) (costs : Nat → Int32) (wanted : Int32) (tlen : Int32) (onlyF : Int32) (found : Int32) (steps : Nat → Int32) (plen : Int32) (rowW : Nat → Int32) (rowS : Nat → Int32) (tally : Nat → Int32) (x1 : Int32) (x2 : Int32) (o : Int32) (h : f_X0_after_22 x1 x2 size kinds nb = some o) : Met l yX0_after (.code yX0_after cX0_after 7 (some .int) :: nx_T) (nx_rm 2 51) (va_Pc [.ref (a 22), .int x1, .int x2] (nx_P E (nx_F) sz (cW E a size on kinds marks nb reached dist lastW par ord paths costs wanted tlen onlyF found steps plen rowW rowS tally))) (va_Qi (fun v (_ : Unit) => v = o) (fun _ t => va_P E.1 vwCl (cW E a size on kinds marks nb reached dist lastW par ord paths costs wanted tlen onlyF found steps plen rowW rowS tally) t.heap) (nx_F)) 0 0 (nx_F) := by
  refine nx_enI (fun v (_ : Unit) => v = o) (fun (_ : Unit) => (cW E a size on kinds marks nb reached dist lastW par ord paths costs wanted tlen onlyF found steps plen rowW rowS tally)) (by decide) (Nat.le_of_ble_eq_true rfl) ?_
  intro p e s m below meth c Q X kr hsz hP ls hl
  subst hsz
  generalize hargs : (List.toArray [.ref (a 22), .int x1, .int x2] : Array Value) = args at X kr ⊢
  clear hargs
  obtain ⟨⟨hx, hb, hml, hown, hts⟩, hK, hSt, hNz⟩ := id X
  have hS : va_S (nx_F) s.heap s.heap [] := va_S.rf
  have hl : lv_has ls 7 [(0, .ref (a 22)), (1, .int x1), (2, .int x2)] := hl
  unfold f_X0_after_22 at h
  suffices hw : ∀ (H : Heap) (locs : List Loc), va_P E.1 vwCl (cW E a size on kinds marks nb reached dist lastW par ord paths costs wanted tlen onlyF found steps plen rowW rowS tally) H → va_S (nx_F) s.heap H locs → W p l e (nx_rm 2 51) s m args below meth c H locs 0 0 Q (F0 m 0 ls []) from hw _ _ hP va_S.rf
  intro H locs hP hS
  refine lv_iload_n hx hb dX0_after_0 rfl (lv_at hl 1 rfl) ?_
  obtain ⟨r_2, hc_1, h⟩ := nx_bd h
  refine nx_ki (nx_runS (As := [.int x1]) (rest := []) X hS hP (c_X0_placeOf l E H.size _ x1 _ hc_1) nx_FA qS_RX0_36 ⟨rfl, rfl⟩ ⟨Nat.le_of_ble_eq_true rfl, Nat.le_of_ble_eq_true rfl⟩ ⟨Nat.zero_le _, Nat.zero_le _⟩ rfl rfl hl.1 (Nat.le_of_ble_eq_true rfl) dX0_after_1) hS nx_FA (fun H locs hP hS => ?_)
  refine lv_istore_n (lv' := [(3, .int r_2), (0, .ref (a 22)), (1, .int x1), (2, .int x2)]) hx hb dX0_after_4 rfl hl (by decide) rfl (fun ls hl => ?_)
  refine lv_iload_n hx hb dX0_after_5 rfl (lv_at hl 2 rfl) ?_
  obtain ⟨r_4, hc_3, h⟩ := nx_bd h
  refine nx_ki (nx_runS (As := [.int x1]) (rest := []) X hS hP (c_X0_groupsOf l E H.size _ x1 _ hc_3) nx_FA qS_RX0_39 ⟨rfl, rfl⟩ ⟨Nat.le_of_ble_eq_true rfl, Nat.le_of_ble_eq_true rfl⟩ ⟨Nat.zero_le _, Nat.zero_le _⟩ rfl rfl hl.1 (Nat.le_of_ble_eq_true rfl) dX0_after_6) hS nx_FA (fun H locs hP hS => ?_)
  refine lv_istore (lv' := [(4, .int r_4), (3, .int r_2), (0, .ref (a 22)), (1, .int x1), (2, .int x2)]) hx hb dX0_after_9 hl (by decide) rfl (fun ls hl => ?_)
  refine lv_aload_n hx hb dX0_after_11 rfl (lv_at hl 2 rfl) ?_
  refine lv_iload_n hx hb dX0_after_12 rfl (lv_at hl 1 rfl) ?_
  refine lv_iload_n hx hb dX0_after_13 rfl (lv_at hl 4 rfl) ?_
  obtain ⟨r_6, hc_5, h⟩ := nx_bd h
  refine nx_ki (nx_runV (As := [.int r_2, .int x2]) (rest := []) X hS hP (c_X0_tipped_22 l E H.size a size on kinds marks nb reached dist lastW par ord paths costs wanted tlen onlyF found steps plen rowW rowS tally r_2 x2 _ hc_5) nx_FA qV_RX0_42 ⟨rfl, rfl⟩ ⟨Nat.le_of_ble_eq_true rfl, Nat.le_of_ble_eq_true rfl⟩ ⟨Nat.zero_le _, Nat.zero_le _⟩ 22 rfl rfl rfl rfl hl.1 (Nat.le_of_ble_eq_true rfl) dX0_after_14) hS nx_FA (fun H locs hP hS => ?_)
  refine lv_istore (lv' := [(5, .int r_6), (4, .int r_4), (3, .int r_2), (0, .ref (a 22)), (1, .int x1), (2, .int x2)]) hx hb dX0_after_17 hl (by decide) rfl (fun ls hl => ?_)
  refine lv_aload_n hx hb dX0_after_19 rfl (lv_at hl 3 rfl) ?_
  refine nx_gf X hP uw_X0 (ci := 0) rfl 22 rfl 1 (by decide) wf_RX0_15 rfl dX0_after_20 ?_
  refine lv_if_eq (tgt := 59) hx hb dX0_after_23 (by decide) (fun hc => ?_) (fun hc => ?_)
  · have h := nx_it h hc
    refine lv_aload_n hx hb dX0_after_59 rfl (lv_at hl 3 rfl) ?_
    refine lv_iload hx hb dX0_after_60 (lv_at hl 0 rfl) ?_
    refine lv_iload hx hb dX0_after_62 (lv_at hl 1 rfl) ?_
    obtain ⟨r_8, hc_7, h⟩ := nx_bd h
    refine nx_ki (nx_runV (As := [.int r_6, .int r_4]) (rest := []) X hS hP (c_X0_isSound_22 l E H.size a size on kinds marks nb reached dist lastW par ord paths costs wanted tlen onlyF found steps plen rowW rowS tally r_6 r_4 _ hc_7) nx_FA qV_RX0_48 ⟨rfl, rfl⟩ ⟨Nat.le_of_ble_eq_true rfl, Nat.le_of_ble_eq_true rfl⟩ ⟨Nat.zero_le _, Nat.zero_le _⟩ 22 rfl rfl rfl rfl hl.1 (Nat.le_of_ble_eq_true rfl) dX0_after_64) hS nx_FA (fun H locs hP hS => ?_)
    refine lv_if_eq (tgt := 87) hx hb dX0_after_67 (by decide) (fun hc => ?_) (fun hc => ?_)
    · have h := nx_it h hc
      refine lv_iconst (v := (-1)) hx hb dX0_after_87 (by decide) ?_
      exact kr 88 ls (-1) () H locs dX0_after_88 (Option.some.inj h) hP hS
    · have h := nx_if h hc
      refine lv_iload hx hb dX0_after_70 (lv_at hl 0 rfl) ?_
      refine lv_iload hx hb dX0_after_72 (lv_at hl 1 rfl) ?_
      refine lv_aload_n hx hb dX0_after_74 rfl (lv_at hl 3 rfl) ?_
      refine lv_iload hx hb dX0_after_75 (lv_at hl 0 rfl) ?_
      obtain ⟨r_10, hc_9, h⟩ := nx_bd h
      refine nx_ki (nx_runV (As := [.int r_6]) (rest := [.int r_4, .int r_6]) X hS hP (c_X0_turnedAt_22 l E H.size a size on kinds marks nb reached dist lastW par ord paths costs wanted tlen onlyF found steps plen rowW rowS tally r_6 _ hc_9) nx_FA qV_RX0_45 ⟨rfl, rfl⟩ ⟨Nat.le_of_ble_eq_true rfl, Nat.le_of_ble_eq_true rfl⟩ ⟨Nat.zero_le _, Nat.zero_le _⟩ 22 rfl rfl rfl rfl hl.1 (Nat.le_of_ble_eq_true rfl) dX0_after_77) hS nx_FA (fun H locs hP hS => ?_)
      refine lv_ixor hx hb dX0_after_80 ?_
      obtain ⟨r_12, hc_11, h⟩ := nx_bd h
      refine nx_ki (nx_runS (As := [.int r_6, .int (r_4 ^^^ r_10)]) (rest := []) X hS hP (c_X0_at l E H.size _ r_6 (r_4 ^^^ r_10) _ hc_11) nx_FA qS_RX0_51 ⟨rfl, rfl⟩ ⟨Nat.le_of_ble_eq_true rfl, Nat.le_of_ble_eq_true rfl⟩ ⟨Nat.zero_le _, Nat.zero_le _⟩ rfl rfl hl.1 (Nat.le_of_ble_eq_true rfl) dX0_after_81) hS nx_FA (fun H locs hP hS => ?_)
      refine lv_goto (tgt := 88) hx hb dX0_after_84 (by decide) ?_
      exact kr 88 ls r_12 () H locs dX0_after_88 (Option.some.inj h) hP hS
  · have h := nx_if h hc
    refine lv_iload hx hb dX0_after_26 (lv_at hl 1 rfl) ?_
    refine lv_aload_n hx hb dX0_after_28 rfl (lv_at hl 3 rfl) ?_
    refine lv_iload_n hx hb dX0_after_29 rfl (lv_at hl 2 rfl) ?_
    obtain ⟨r_14, hc_13, h⟩ := nx_bd h
    refine nx_ki (nx_runV (As := [.int r_2]) (rest := [.int r_4]) X hS hP (c_X0_turnedAt_22 l E H.size a size on kinds marks nb reached dist lastW par ord paths costs wanted tlen onlyF found steps plen rowW rowS tally r_2 _ hc_13) nx_FA qV_RX0_45 ⟨rfl, rfl⟩ ⟨Nat.le_of_ble_eq_true rfl, Nat.le_of_ble_eq_true rfl⟩ ⟨Nat.zero_le _, Nat.zero_le _⟩ 22 rfl rfl rfl rfl hl.1 (Nat.le_of_ble_eq_true rfl) dX0_after_30) hS nx_FA (fun H locs hP hS => ?_)
    refine lv_ixor hx hb dX0_after_33 ?_
    refine lv_istore (lv' := [(6, .int (r_4 ^^^ r_14)), (5, .int r_6), (4, .int r_4), (3, .int r_2), (0, .ref (a 22)), (1, .int x1), (2, .int x2)]) hx hb dX0_after_34 hl (by decide) rfl (fun ls hl => ?_)
    refine lv_aload_n hx hb dX0_after_36 rfl (lv_at hl 4 rfl) ?_
    refine lv_iload hx hb dX0_after_37 (lv_at hl 1 rfl) ?_
    refine lv_iload hx hb dX0_after_39 (lv_at hl 0 rfl) ?_
    obtain ⟨r_16, hc_15, h⟩ := nx_bd h
    refine nx_ki (nx_runV (As := [.int r_6, .int (r_4 ^^^ r_14)]) (rest := []) X hS hP (c_X0_isSound_22 l E H.size a size on kinds marks nb reached dist lastW par ord paths costs wanted tlen onlyF found steps plen rowW rowS tally r_6 (r_4 ^^^ r_14) _ hc_15) nx_FA qV_RX0_48 ⟨rfl, rfl⟩ ⟨Nat.le_of_ble_eq_true rfl, Nat.le_of_ble_eq_true rfl⟩ ⟨Nat.zero_le _, Nat.zero_le _⟩ 22 rfl rfl rfl rfl hl.1 (Nat.le_of_ble_eq_true rfl) dX0_after_41) hS nx_FA (fun H locs hP hS => ?_)
    refine lv_if_eq (tgt := 57) hx hb dX0_after_44 (by decide) (fun hc => ?_) (fun hc => ?_)
    · have h := nx_it h hc
      refine lv_iconst (v := (-1)) hx hb dX0_after_57 (by decide) ?_
      exact kr 58 ls (-1) () H locs dX0_after_58 (Option.some.inj h) hP hS
    · have h := nx_if h hc
      refine lv_iload hx hb dX0_after_47 (lv_at hl 1 rfl) ?_
      refine lv_iload hx hb dX0_after_49 (lv_at hl 0 rfl) ?_
      obtain ⟨r_18, hc_17, h⟩ := nx_bd h
      refine nx_ki (nx_runS (As := [.int r_6, .int (r_4 ^^^ r_14)]) (rest := []) X hS hP (c_X0_at l E H.size _ r_6 (r_4 ^^^ r_14) _ hc_17) nx_FA qS_RX0_51 ⟨rfl, rfl⟩ ⟨Nat.le_of_ble_eq_true rfl, Nat.le_of_ble_eq_true rfl⟩ ⟨Nat.zero_le _, Nat.zero_le _⟩ rfl rfl hl.1 (Nat.le_of_ble_eq_true rfl) dX0_after_51) hS nx_FA (fun H locs hP hS => ?_)
      refine lv_goto (tgt := 58) hx hb dX0_after_54 (by decide) ?_
      exact kr 58 ls r_18 () H locs dX0_after_58 (Option.some.inj h) hP hS
