def f_X1_placeAfter (x1 : Int32) (x2 : Int32) (size : Int32) (on : Int32) (kinds : Nat → Int32) (nb : Nat → Int32) : Option (Int32) :=
  (f_X1_isSoundNow x1 size on kinds nb).bind fun r_2 => if r_2 = 0 then (some (-9)) else ((f_X2_groupsOn on).bind fun r_4 => (f_X0_at x1 r_4).bind fun r_6 => (f_X0_after_22 r_6 x2 size kinds nb).bind fun r_8 => if r_8 = (-1) then (some (-9)) else ((f_X0_placeOf r_8).bind fun r_10 => some r_10))
set_option maxHeartbeats 4000000 in
set_option maxRecDepth 100000 in
theorem c_X1_placeAfter (l : Launch) (E : nx_E) (sz : Nat) (a : Nat → Nat) (size : Int32) (on : Int32) (kinds : Nat → Int32) (marks : Nat → Int32) (nb : Nat → Int32) (reached : Int32) (dist : Nat → Int32) (lastW : Nat → Int32) (par : Nat → Int32) (ord : Nat → Int32) (paths : Nat → Int64) (costs : Nat → Int32) (wanted : Int32) (tlen : Int32) (onlyF : Int32) (found : Int32) (steps : Nat → Int32) (plen : Int32) (rowW : Nat → Int32) (rowS : Nat → Int32) (tally : Nat → Int32) (x1 : Int32) (x2 : Int32) (o : Int32) (h : f_X1_placeAfter x1 x2 size on kinds nb = some o) : Met l yX1_placeAfter (.code yX1_placeAfter cX1_placeAfter 4 (some .int) :: nx_T) (nx_rm 3 77) (va_Pc [.ref (a 21), .int x1, .int x2] (nx_P E (nx_F) sz (cW E a size on kinds marks nb reached dist lastW par ord paths costs wanted tlen onlyF found steps plen rowW rowS tally))) (va_Qi (fun v (_ : Unit) => v = o) (fun _ t => va_P E.1 vwCl (cW E a size on kinds marks nb reached dist lastW par ord paths costs wanted tlen onlyF found steps plen rowW rowS tally) t.heap) (nx_F)) 0 0 (nx_F) := by
  refine nx_enI (fun v (_ : Unit) => v = o) (fun (_ : Unit) => (cW E a size on kinds marks nb reached dist lastW par ord paths costs wanted tlen onlyF found steps plen rowW rowS tally)) (by decide) (Nat.le_of_ble_eq_true rfl) ?_
  intro p e s m below meth c Q X kr hsz hP ls hl
  subst hsz
  generalize hargs : (List.toArray [.ref (a 21), .int x1, .int x2] : Array Value) = args at X kr ⊢
  clear hargs
  obtain ⟨⟨hx, hb, hml, hown, hts⟩, hK, hSt, hNz⟩ := id X
  have hS : va_S (nx_F) s.heap s.heap [] := va_S.rf
  have hl : lv_has ls 4 [(0, .ref (a 21)), (1, .int x1), (2, .int x2)] := hl
  unfold f_X1_placeAfter at h
  suffices hw : ∀ (H : Heap) (locs : List Loc), va_P E.1 vwCl (cW E a size on kinds marks nb reached dist lastW par ord paths costs wanted tlen onlyF found steps plen rowW rowS tally) H → va_S (nx_F) s.heap H locs → W p l e (nx_rm 3 77) s m args below meth c H locs 0 0 Q (F0 m 0 ls []) from hw _ _ hP va_S.rf
  intro H locs hP hS
  refine lv_aload_n hx hb dX1_placeAfter_0 rfl (lv_at hl 0 rfl) ?_
  refine lv_iload_n hx hb dX1_placeAfter_1 rfl (lv_at hl 1 rfl) ?_
  obtain ⟨r_2, hc_1, h⟩ := nx_bd h
  refine nx_ki (nx_runV (As := [.int x1]) (rest := []) X hS hP (c_X1_isSoundNow l E H.size a size on kinds marks nb reached dist lastW par ord paths costs wanted tlen onlyF found steps plen rowW rowS tally x1 _ hc_1) nx_FA qV_RX1_44 ⟨rfl, rfl⟩ ⟨Nat.le_of_ble_eq_true rfl, Nat.le_of_ble_eq_true rfl⟩ ⟨Nat.zero_le _, Nat.zero_le _⟩ 21 rfl rfl rfl rfl hl.1 (Nat.le_of_ble_eq_true rfl) dX1_placeAfter_2) hS nx_FA (fun H locs hP hS => ?_)
  refine lv_if_ne (tgt := 11) hx hb dX1_placeAfter_5 (by decide) (fun hc => ?_) (fun hc => ?_)
  · have h := nx_if h hc
    refine lv_aload_n hx hb dX1_placeAfter_11 rfl (lv_at hl 0 rfl) ?_
    refine nx_gf X hP uw_X1 (ci := 1) rfl 21 rfl 2 (by decide) wf_RX1_24 rfl dX1_placeAfter_12 ?_
    refine lv_iload_n hx hb dX1_placeAfter_15 rfl (lv_at hl 1 rfl) ?_
    refine lv_aload_n hx hb dX1_placeAfter_16 rfl (lv_at hl 0 rfl) ?_
    refine nx_gf X hP uw_X1 (ci := 1) rfl 21 rfl 0 (by decide) wf_RX1_9 rfl dX1_placeAfter_17 ?_
    obtain ⟨r_4, hc_3, h⟩ := nx_bd h
    refine nx_ki (nx_runV (As := []) (rest := [.int x1, .ref (a 22)]) X hS hP (c_X2_groupsOn l E H.size a size on kinds marks nb reached dist lastW par ord paths costs wanted tlen onlyF found steps plen rowW rowS tally _ hc_3) nx_FA qV_RX1_31 ⟨rfl, rfl⟩ ⟨Nat.le_of_ble_eq_true rfl, Nat.le_of_ble_eq_true rfl⟩ ⟨Nat.zero_le _, Nat.zero_le _⟩ 1 rfl rfl rfl rfl hl.1 (Nat.le_of_ble_eq_true rfl) dX1_placeAfter_20) hS nx_FA (fun H locs hP hS => ?_)
    obtain ⟨r_6, hc_5, h⟩ := nx_bd h
    refine nx_ki (nx_runS (As := [.int x1, .int r_4]) (rest := [.ref (a 22)]) X hS hP (c_X0_at l E H.size _ x1 r_4 _ hc_5) nx_FA qS_RX1_52 ⟨rfl, rfl⟩ ⟨Nat.le_of_ble_eq_true rfl, Nat.le_of_ble_eq_true rfl⟩ ⟨Nat.zero_le _, Nat.zero_le _⟩ rfl rfl hl.1 (Nat.le_of_ble_eq_true rfl) dX1_placeAfter_23) hS nx_FA (fun H locs hP hS => ?_)
    refine lv_iload_n hx hb dX1_placeAfter_26 rfl (lv_at hl 2 rfl) ?_
    obtain ⟨r_8, hc_7, h⟩ := nx_bd h
    refine nx_ki (nx_runV (As := [.int r_6, .int x2]) (rest := []) X hS hP (c_X0_after_22 l E H.size a size on kinds marks nb reached dist lastW par ord paths costs wanted tlen onlyF found steps plen rowW rowS tally r_6 x2 _ hc_7) nx_FA qV_RX1_56 ⟨rfl, rfl⟩ ⟨Nat.le_of_ble_eq_true rfl, Nat.le_of_ble_eq_true rfl⟩ ⟨Nat.zero_le _, Nat.zero_le _⟩ 22 rfl rfl rfl rfl hl.1 (Nat.le_of_ble_eq_true rfl) dX1_placeAfter_27) hS nx_FA (fun H locs hP hS => ?_)
    refine lv_istore_n (lv' := [(3, .int r_8), (0, .ref (a 21)), (1, .int x1), (2, .int x2)]) hx hb dX1_placeAfter_30 rfl hl (by decide) rfl (fun ls hl => ?_)
    refine lv_iload_n hx hb dX1_placeAfter_31 rfl (lv_at hl 0 rfl) ?_
    refine lv_iconst (v := (-1)) hx hb dX1_placeAfter_32 (by decide) ?_
    refine lv_icmp_ne (tgt := 41) hx hb dX1_placeAfter_33 (by decide) (fun hc => ?_) (fun hc => ?_)
    · have h := nx_if h hc
      refine lv_iload_n hx hb dX1_placeAfter_41 rfl (lv_at hl 0 rfl) ?_
      obtain ⟨r_10, hc_9, h⟩ := nx_bd h
      refine nx_ki (nx_runS (As := [.int r_8]) (rest := []) X hS hP (c_X0_placeOf l E H.size _ r_8 _ hc_9) nx_FA qS_RX1_59 ⟨rfl, rfl⟩ ⟨Nat.le_of_ble_eq_true rfl, Nat.le_of_ble_eq_true rfl⟩ ⟨Nat.zero_le _, Nat.zero_le _⟩ rfl rfl hl.1 (Nat.le_of_ble_eq_true rfl) dX1_placeAfter_42) hS nx_FA (fun H locs hP hS => ?_)
      exact kr 45 ls r_10 () H locs dX1_placeAfter_45 (Option.some.inj h) hP hS
    · have h := nx_it h hc
      refine lv_bipush (v := (-9)) hx hb dX1_placeAfter_36 (by decide) ?_
      refine lv_goto (tgt := 45) hx hb dX1_placeAfter_38 (by decide) ?_
      exact kr 45 ls (-9) () H locs dX1_placeAfter_45 (Option.some.inj h) hP hS
  · have h := nx_it h hc
    refine lv_bipush (v := (-9)) hx hb dX1_placeAfter_8 (by decide) ?_
    exact kr 10 ls (-9) () H locs dX1_placeAfter_10 (Option.some.inj h) hP hS
def f_X10_rolls (x1 : Int32) (x2 : Int32) (size : Int32) (on : Int32) (kinds : Nat → Int32) (nb : Nat → Int32) : Option (Int32) :=
  (f_X10_isPlace x1 size).bind fun r_2 => if r_2 = 0 then (some (-1)) else ((f_X10_isWay x2).bind fun r_4 => if r_4 = 0 then (some (-2)) else ((f_X1_placeAfter x1 x2 size on kinds nb).bind fun r_6 => some r_6))
set_option maxHeartbeats 4000000 in
set_option maxRecDepth 100000 in
theorem c_X10_rolls (l : Launch) (E : nx_E) (sz : Nat) (a : Nat → Nat) (size : Int32) (on : Int32) (kinds : Nat → Int32) (marks : Nat → Int32) (nb : Nat → Int32) (reached : Int32) (dist : Nat → Int32) (lastW : Nat → Int32) (par : Nat → Int32) (ord : Nat → Int32) (paths : Nat → Int64) (costs : Nat → Int32) (wanted : Int32) (tlen : Int32) (onlyF : Int32) (found : Int32) (steps : Nat → Int32) (plen : Int32) (rowW : Nat → Int32) (rowS : Nat → Int32) (tally : Nat → Int32) (x1 : Int32) (x2 : Int32) (o : Int32) (h : f_X10_rolls x1 x2 size on kinds nb = some o) : Met l yX10_rolls (.code yX10_rolls cX10_rolls 3 (some .int) :: nx_T) (nx_rm 4 100) (va_Pc [.ref (a 0), .int x1, .int x2] (nx_P E (nx_F) sz (cW E a size on kinds marks nb reached dist lastW par ord paths costs wanted tlen onlyF found steps plen rowW rowS tally))) (va_Qi (fun v (_ : Unit) => v = o) (fun _ t => va_P E.1 vwCl (cW E a size on kinds marks nb reached dist lastW par ord paths costs wanted tlen onlyF found steps plen rowW rowS tally) t.heap) (nx_F)) 0 0 (nx_F) := by
  refine nx_enI (fun v (_ : Unit) => v = o) (fun (_ : Unit) => (cW E a size on kinds marks nb reached dist lastW par ord paths costs wanted tlen onlyF found steps plen rowW rowS tally)) (by decide) (Nat.le_of_ble_eq_true rfl) ?_
  intro p e s m below meth c Q X kr hsz hP ls hl
  subst hsz
  generalize hargs : (List.toArray [.ref (a 0), .int x1, .int x2] : Array Value) = args at X kr ⊢
  clear hargs
  obtain ⟨⟨hx, hb, hml, hown, hts⟩, hK, hSt, hNz⟩ := id X
  have hS : va_S (nx_F) s.heap s.heap [] := va_S.rf
  have hl : lv_has ls 3 [(0, .ref (a 0)), (1, .int x1), (2, .int x2)] := hl
  unfold f_X10_rolls at h
  suffices hw : ∀ (H : Heap) (locs : List Loc), va_P E.1 vwCl (cW E a size on kinds marks nb reached dist lastW par ord paths costs wanted tlen onlyF found steps plen rowW rowS tally) H → va_S (nx_F) s.heap H locs → W p l e (nx_rm 4 100) s m args below meth c H locs 0 0 Q (F0 m 0 ls []) from hw _ _ hP va_S.rf
  intro H locs hP hS
  refine lv_aload_n hx hb dX10_rolls_0 rfl (lv_at hl 0 rfl) ?_
  refine lv_iload_n hx hb dX10_rolls_1 rfl (lv_at hl 1 rfl) ?_
  obtain ⟨r_2, hc_1, h⟩ := nx_bd h
  refine nx_ki (nx_runV (As := [.int x1]) (rest := []) X hS hP (c_X10_isPlace l E H.size a size on kinds marks nb reached dist lastW par ord paths costs wanted tlen onlyF found steps plen rowW rowS tally x1 _ hc_1) nx_FA qV_RX10_209 ⟨rfl, rfl⟩ ⟨Nat.le_of_ble_eq_true rfl, Nat.le_of_ble_eq_true rfl⟩ ⟨Nat.zero_le _, Nat.zero_le _⟩ 0 rfl rfl rfl rfl hl.1 (Nat.le_of_ble_eq_true rfl) dX10_rolls_2) hS nx_FA (fun H locs hP hS => ?_)
  refine lv_if_ne (tgt := 10) hx hb dX10_rolls_5 (by decide) (fun hc => ?_) (fun hc => ?_)
  · have h := nx_if h hc
    refine lv_iload_n hx hb dX10_rolls_10 rfl (lv_at hl 2 rfl) ?_
    obtain ⟨r_4, hc_3, h⟩ := nx_bd h
    refine nx_ki (nx_runS (As := [.int x2]) (rest := []) X hS hP (c_X10_isWay l E H.size _ x2 _ hc_3) nx_FA qS_RX10_123 ⟨rfl, rfl⟩ ⟨Nat.le_of_ble_eq_true rfl, Nat.le_of_ble_eq_true rfl⟩ ⟨Nat.zero_le _, Nat.zero_le _⟩ rfl rfl hl.1 (Nat.le_of_ble_eq_true rfl) dX10_rolls_11) hS nx_FA (fun H locs hP hS => ?_)
    refine lv_if_eq (tgt := 29) hx hb dX10_rolls_14 (by decide) (fun hc => ?_) (fun hc => ?_)
    · have h := nx_it h hc
      refine lv_bipush (v := (-2)) hx hb dX10_rolls_29 (by decide) ?_
      exact kr 31 ls (-2) () H locs dX10_rolls_31 (Option.some.inj h) hP hS
    · have h := nx_if h hc
      refine lv_aload_n hx hb dX10_rolls_17 rfl (lv_at hl 0 rfl) ?_
      refine nx_gf X hP uw_X10 (ci := 9) rfl 0 rfl 7 (by decide) wf_RX10_69 rfl dX10_rolls_18 ?_
      refine lv_iload_n hx hb dX10_rolls_21 rfl (lv_at hl 1 rfl) ?_
      refine lv_iload_n hx hb dX10_rolls_22 rfl (lv_at hl 2 rfl) ?_
      obtain ⟨r_6, hc_5, h⟩ := nx_bd h
      refine nx_ki (nx_runV (As := [.int x1, .int x2]) (rest := []) X hS hP (c_X1_placeAfter l E H.size a size on kinds marks nb reached dist lastW par ord paths costs wanted tlen onlyF found steps plen rowW rowS tally x1 x2 _ hc_5) nx_FA qV_RX10_215 ⟨rfl, rfl⟩ ⟨Nat.le_of_ble_eq_true rfl, Nat.le_of_ble_eq_true rfl⟩ ⟨Nat.zero_le _, Nat.zero_le _⟩ 21 rfl rfl rfl rfl hl.1 (Nat.le_of_ble_eq_true rfl) dX10_rolls_23) hS nx_FA (fun H locs hP hS => ?_)
      refine lv_goto (tgt := 31) hx hb dX10_rolls_26 (by decide) ?_
      exact kr 31 ls r_6 () H locs dX10_rolls_31 (Option.some.inj h) hP hS
  · have h := nx_it h hc
    refine lv_iconst (v := (-1)) hx hb dX10_rolls_8 (by decide) ?_
    exact kr 9 ls (-1) () H locs dX10_rolls_9 (Option.some.inj h) hP hS
def f_X8_spread_r22_b27 (x2 : Int32) (x3 : Int32) (size : Int32) (kinds : Nat → Int32) (nb : Nat → Int32) (rec : (Int32 × Int32 × (Nat → Int32) × (Nat → Int32) × (Nat → Int32) × (Nat → Int32) × (Nat → Int64)) → Option (Int32 × (Nat → Int32) × (Nat → Int32) × (Nat → Int32) × (Nat → Int32) × (Nat → Int64))) (x4 : Int32) (reached : Int32) (dist : Nat → Int32) (lastW : Nat → Int32) (par : Nat → Int32) (ord : Nat → Int32) (paths : Nat → Int64) : Option (Int32 × (Nat → Int32) × (Nat → Int32) × (Nat → Int32) × (Nat → Int32) × (Nat → Int64)) :=
  if 4 ≤ x4 then (some (reached, dist, lastW, par, ord, paths)) else ((f_X0_after_22 x3 x4 size kinds nb).bind fun r_2 => (f_X8_meet x3 x4 r_2 reached dist lastW par ord paths).bind fun t_10 => rec ((x4 + 1), t_10.1, t_10.2.1, t_10.2.2.1, t_10.2.2.2.1, t_10.2.2.2.2.1, t_10.2.2.2.2.2))
def f_X8_spread_r22_l27 (x2 : Int32) (x3 : Int32) (size : Int32) (kinds : Nat → Int32) (nb : Nat → Int32) : Nat → (Int32 × Int32 × (Nat → Int32) × (Nat → Int32) × (Nat → Int32) × (Nat → Int32) × (Nat → Int64)) → Option (Int32 × (Nat → Int32) × (Nat → Int32) × (Nat → Int32) × (Nat → Int32) × (Nat → Int64)) := nx_lp (fun rec z => f_X8_spread_r22_b27 x2 x3 size kinds nb rec z.1 z.2.1 z.2.2.1 z.2.2.2.1 z.2.2.2.2.1 z.2.2.2.2.2.1 z.2.2.2.2.2.2)
def f_X8_spread_r22_b2 (N : Nat) (size : Int32) (kinds : Nat → Int32) (nb : Nat → Int32) (rec : (Int32 × Int32 × (Nat → Int32) × (Nat → Int32) × (Nat → Int32) × (Nat → Int32) × (Nat → Int64)) → Option (Int32 × (Nat → Int32) × (Nat → Int32) × (Nat → Int32) × (Nat → Int32) × (Nat → Int64))) (x2 : Int32) (reached : Int32) (dist : Nat → Int32) (lastW : Nat → Int32) (par : Nat → Int32) (ord : Nat → Int32) (paths : Nat → Int64) : Option (Int32 × (Nat → Int32) × (Nat → Int32) × (Nat → Int32) × (Nat → Int32) × (Nat → Int64)) :=
  if reached ≤ x2 then (some (reached, dist, lastW, par, ord, paths)) else (if 600 ≤ x2 then (some (reached, dist, lastW, par, ord, paths)) else ((nx_rd ord 600 x2).bind fun _ => (f_X8_spread_r22_l27 x2 (ord x2.toNatClampNeg) size kinds nb N (0, reached, dist, lastW, par, ord, paths)).bind fun z_13 => rec ((x2 + 1), z_13.1, z_13.2.1, z_13.2.2.1, z_13.2.2.2.1, z_13.2.2.2.2.1, z_13.2.2.2.2.2)))
def f_X8_spread_r22_l2 (N : Nat) (size : Int32) (kinds : Nat → Int32) (nb : Nat → Int32) : Nat → (Int32 × Int32 × (Nat → Int32) × (Nat → Int32) × (Nat → Int32) × (Nat → Int32) × (Nat → Int64)) → Option (Int32 × (Nat → Int32) × (Nat → Int32) × (Nat → Int32) × (Nat → Int32) × (Nat → Int64)) := nx_lp (fun rec z => f_X8_spread_r22_b2 N size kinds nb rec z.1 z.2.1 z.2.2.1 z.2.2.2.1 z.2.2.2.2.1 z.2.2.2.2.2.1 z.2.2.2.2.2.2)
def f_X8_spread_r22 (N : Nat)  (size : Int32) (kinds : Nat → Int32) (nb : Nat → Int32) (reached : Int32) (dist : Nat → Int32) (lastW : Nat → Int32) (par : Nat → Int32) (ord : Nat → Int32) (paths : Nat → Int64) : Option (Int32 × (Nat → Int32) × (Nat → Int32) × (Nat → Int32) × (Nat → Int32) × (Nat → Int64)) :=
  (f_X8_spread_r22_l2 N size kinds nb N (0, reached, dist, lastW, par, ord, paths)).bind fun z_15 => some (z_15.1, z_15.2.1, z_15.2.2.1, z_15.2.2.2.1, z_15.2.2.2.2.1, z_15.2.2.2.2.2)
set_option maxHeartbeats 4000000 in
set_option maxRecDepth 100000 in
theorem c_X8_spread_r22 (l : Launch) (N : Nat) (E : nx_E) (sz : Nat) (a : Nat → Nat) (size : Int32) (on : Int32) (kinds : Nat → Int32) (marks : Nat → Int32) (nb : Nat → Int32) (reached : Int32) (dist : Nat → Int32) (lastW : Nat → Int32) (par : Nat → Int32) (ord : Nat → Int32) (paths : Nat → Int64) (costs : Nat → Int32) (wanted : Int32) (tlen : Int32) (onlyF : Int32) (found : Int32) (steps : Nat → Int32) (plen : Int32) (rowW : Nat → Int32) (rowS : Nat → Int32) (tally : Nat → Int32)  (hI : nx_inj a 24) (o : Int32 × (Nat → Int32) × (Nat → Int32) × (Nat → Int32) × (Nat → Int32) × (Nat → Int64)) (h : f_X8_spread_r22 N size kinds nb reached dist lastW par ord paths = some o) : Met l yX8_spread (.code yX8_spread cX8_spread 5 none :: nx_T) (nx_rm 3 77) (va_Pc [.ref (a 6), .ref (a 22)] (nx_P E (nx_A a 24 sz) sz (cW E a size on kinds marks nb reached dist lastW par ord paths costs wanted tlen onlyF found steps plen rowW rowS tally))) (va_Qv (fun u => u = o) (fun u t => va_P E.1 vwCl (cW E a size on kinds marks nb (u.1) (u.2.1) (u.2.2.1) (u.2.2.2.1) (u.2.2.2.2.1) (u.2.2.2.2.2) costs wanted tlen onlyF found steps plen rowW rowS tally) t.heap) (nx_A a 24 sz)) 0 0 (nx_A a 24 sz) := by
  refine nx_enV (fun u => u = o) (fun (u : Int32 × (Nat → Int32) × (Nat → Int32) × (Nat → Int32) × (Nat → Int32) × (Nat → Int64)) => (cW E a size on kinds marks nb (u.1) (u.2.1) (u.2.2.1) (u.2.2.2.1) (u.2.2.2.2.1) (u.2.2.2.2.2) costs wanted tlen onlyF found steps plen rowW rowS tally)) (by decide) (Nat.le_of_ble_eq_true rfl) ?_
  intro p e s m below meth c Q X kr hsz hP ls hl
  subst hsz
  generalize hargs : (List.toArray [.ref (a 6), .ref (a 22)] : Array Value) = args at X kr ⊢
  clear hargs
  obtain ⟨⟨hx, hb, hml, hown, hts⟩, hK, hSt, hNz⟩ := id X
  have hS : va_S (nx_A a 24 s.heap.size) s.heap s.heap [] := va_S.rf
  have hl : lv_has ls 5 [(0, .ref (a 6)), (1, .ref (a 22))] := hl
  have L27 : ∀ (x2 : Int32) (x3 : Int32) (n : Nat) (x4 : Int32) (reached : Int32) (dist : Nat → Int32) (lastW : Nat → Int32) (par : Nat → Int32) (ord : Nat → Int32) (paths : Nat → Int64) (z : (Int32 × (Nat → Int32) × (Nat → Int32) × (Nat → Int32) × (Nat → Int32) × (Nat → Int64))), f_X8_spread_r22_l27 x2 x3 size kinds nb n (x4, reached, dist, lastW, par, ord, paths) = some z → ∀ (H : Heap) (locs : List Loc) (ls : Array Slot), va_P E.1 vwCl (cW E a size on kinds marks nb reached dist lastW par ord paths costs wanted tlen onlyF found steps plen rowW rowS tally) H → va_S (nx_A a 24 s.heap.size) s.heap H locs → lv_has ls 5 [(0, .ref (a 6)), (1, .ref (a 22)), (2, .int x2), (3, .int x3), (4, .int x4)] → ∀ (kR : ∀ (H : Heap) (locs : List Loc) (ls : Array Slot), va_P E.1 vwCl (cW E a size on kinds marks nb (z.1) (z.2.1) (z.2.2.1) (z.2.2.2.1) (z.2.2.2.2.1) (z.2.2.2.2.2) costs wanted tlen onlyF found steps plen rowW rowS tally) H → va_S (nx_A a 24 s.heap.size) s.heap H locs → lv_has ls 5 [(0, .ref (a 6)), (1, .ref (a 22)), (2, .int x2)] → W p l e (nx_rm 3 77) s m args below meth c H locs 0 0 Q (F0 m 53 ls [])), W p l e (nx_rm 3 77) s m args below meth c H locs 0 0 Q (F0 m 27 ls []) := by
   intro x2 x3 n
   induction n with
   | zero => intro x4 reached dist lastW par ord paths z h; exact nomatch (show none = some z from h)
   | succ n ih =>
    intro x4 reached dist lastW par ord paths z h H locs ls hP hS hl kR
    have h : f_X8_spread_r22_b27 x2 x3 size kinds nb (f_X8_spread_r22_l27 x2 x3 size kinds nb n) x4 reached dist lastW par ord paths = some z := h
    unfold f_X8_spread_r22_b27 at h
    refine lv_iload hx hb dX8_spread_27 (lv_at hl 4 rfl) ?_
    refine lv_iconst (v := 4) hx hb dX8_spread_29 (by decide) ?_
    refine lv_icmp_ge (tgt := 53) hx hb dX8_spread_30 (by decide) (fun hc => ?_) (fun hc => ?_)
    · have h := nx_it h hc
      obtain rfl := Option.some.inj h
      exact kR H locs ls hP hS (lv_sub hl [0, 1, 2] rfl)
    · have h := nx_if h hc
      refine lv_aload_n hx hb dX8_spread_33 rfl (lv_at hl 0 rfl) ?_
      refine lv_iload_n hx hb dX8_spread_34 rfl (lv_at hl 3 rfl) ?_
      refine lv_iload hx hb dX8_spread_35 (lv_at hl 4 rfl) ?_
      refine lv_aload_n hx hb dX8_spread_37 rfl (lv_at hl 1 rfl) ?_
      refine lv_iload_n hx hb dX8_spread_38 rfl (lv_at hl 3 rfl) ?_
      refine lv_iload hx hb dX8_spread_39 (lv_at hl 4 rfl) ?_
      obtain ⟨r_2, hc_1, h⟩ := nx_bd h
      refine nx_ki (nx_runU (As := [.int x3, .int x4]) (rest := [.int x4, .int x3, .ref (a 6)]) X hS hP (c_X0_after_22 l E H.size a size on kinds marks nb reached dist lastW par ord paths costs wanted tlen onlyF found steps plen rowW rowS tally x3 x4 _ hc_1) nx_FA qU_RX8_53_X0 ⟨rfl, rfl⟩ ⟨Nat.le_of_ble_eq_true rfl, Nat.le_of_ble_eq_true rfl⟩ ⟨Nat.zero_le _, Nat.zero_le _⟩ 22 rfl rfl rfl rfl hl.1 (Nat.le_of_ble_eq_true rfl) dX8_spread_41) hS nx_FA (fun H locs hP hS => ?_)
      obtain ⟨⟨k_4, k_5, k_6, k_7, k_8, k_9⟩, hc_3, h⟩ := nx_bd h
      refine nx_kv (nx_runV (As := [.int x3, .int x4, .int r_2]) (rest := []) X hS hP (c_X8_meet l E H.size a size on kinds marks nb reached dist lastW par ord paths costs wanted tlen onlyF found steps plen rowW rowS tally x3 x4 r_2 hI _ hc_3) (nx_Am hS.1) qV_RX8_59 ⟨rfl, rfl⟩ ⟨Nat.le_of_ble_eq_true rfl, Nat.le_of_ble_eq_true rfl⟩ ⟨Nat.zero_le _, Nat.zero_le _⟩ 6 rfl rfl rfl rfl hl.1 (Nat.le_of_ble_eq_true rfl) dX8_spread_44) hS (nx_Am hS.1) (fun H locs hP hS => ?_)
      have hP : va_P E.1 vwCl (cW E a size on kinds marks nb k_4 k_5 k_6 k_7 k_8 k_9 costs wanted tlen onlyF found steps plen rowW rowS tally) H := hP
      refine lv_iinc (v := (x4 + 1)) (lv' := [(4, .int (x4 + 1)), (0, .ref (a 6)), (1, .ref (a 22)), (2, .int x2), (3, .int x3)]) hx hb dX8_spread_47 hl (k := 4) rfl rfl (by decide) rfl (fun ls hl => ?_)
      refine lv_goto (tgt := 27) hx hb dX8_spread_50 (by decide) ?_
      exact ih _ _ _ _ _ _ _ z h H locs ls hP hS (lv_sub hl [1, 2, 3, 4, 0] rfl) kR
  have L2 : ∀ (n : Nat) (x2 : Int32) (reached : Int32) (dist : Nat → Int32) (lastW : Nat → Int32) (par : Nat → Int32) (ord : Nat → Int32) (paths : Nat → Int64) (z : (Int32 × (Nat → Int32) × (Nat → Int32) × (Nat → Int32) × (Nat → Int32) × (Nat → Int64))), f_X8_spread_r22_l2 N size kinds nb n (x2, reached, dist, lastW, par, ord, paths) = some z → ∀ (H : Heap) (locs : List Loc) (ls : Array Slot), va_P E.1 vwCl (cW E a size on kinds marks nb reached dist lastW par ord paths costs wanted tlen onlyF found steps plen rowW rowS tally) H → va_S (nx_A a 24 s.heap.size) s.heap H locs → lv_has ls 5 [(0, .ref (a 6)), (1, .ref (a 22)), (2, .int x2)] → ∀ (kR : ∀ (H : Heap) (locs : List Loc) (ls : Array Slot), va_P E.1 vwCl (cW E a size on kinds marks nb (z.1) (z.2.1) (z.2.2.1) (z.2.2.2.1) (z.2.2.2.2.1) (z.2.2.2.2.2) costs wanted tlen onlyF found steps plen rowW rowS tally) H → va_S (nx_A a 24 s.heap.size) s.heap H locs → lv_has ls 5 [(0, .ref (a 6)), (1, .ref (a 22))] → W p l e (nx_rm 3 77) s m args below meth c H locs 0 0 Q (F0 m 59 ls [])), W p l e (nx_rm 3 77) s m args below meth c H locs 0 0 Q (F0 m 2 ls []) := by
   intro  n
   induction n with
   | zero => intro x2 reached dist lastW par ord paths z h; exact nomatch (show none = some z from h)
   | succ n ih =>
    intro x2 reached dist lastW par ord paths z h H locs ls hP hS hl kR
    have h : f_X8_spread_r22_b2 N size kinds nb (f_X8_spread_r22_l2 N size kinds nb n) x2 reached dist lastW par ord paths = some z := h
    unfold f_X8_spread_r22_b2 at h
    refine lv_iload_n hx hb dX8_spread_2 rfl (lv_at hl 2 rfl) ?_
    refine lv_aload_n hx hb dX8_spread_3 rfl (lv_at hl 0 rfl) ?_
    refine nx_gf X hP uw_X8 (ci := 7) rfl 6 rfl 5 (by decide) wf_RX8_34 rfl dX8_spread_4 ?_
    refine lv_icmp_ge (tgt := 59) hx hb dX8_spread_7 (by decide) (fun hc => ?_) (fun hc => ?_)
    · have h := nx_it h hc
      obtain rfl := Option.some.inj h
      exact kR H locs ls hP hS (lv_sub hl [0, 1] rfl)
    · have h := nx_if h hc
      refine lv_iload_n hx hb dX8_spread_10 rfl (lv_at hl 2 rfl) ?_
      refine lv_sipush (v := 600) hx hb dX8_spread_11 (by decide) ?_
      refine lv_icmp_ge (tgt := 59) hx hb dX8_spread_14 (by decide) (fun hc => ?_) (fun hc => ?_)
      · have h := nx_it h hc
        obtain rfl := Option.some.inj h
        exact kR H locs ls hP hS (lv_sub hl [0, 1] rfl)
      · have h := nx_if h hc
        refine lv_aload_n hx hb dX8_spread_17 rfl (lv_at hl 0 rfl) ?_
        refine nx_gf X hP uw_X8 (ci := 7) rfl 6 rfl 3 (by decide) wf_RX8_21 rfl dX8_spread_18 ?_
        refine lv_iload_n hx hb dX8_spread_21 rfl (lv_at hl 2 rfl) ?_
        obtain ⟨hv_11, h⟩ := nx_rb h
        refine nx_ld X hP 10 rfl hv_11 dX8_spread_22 ?_
        refine lv_istore_n (lv' := [(3, .int (ord x2.toNatClampNeg)), (0, .ref (a 6)), (1, .ref (a 22)), (2, .int x2)]) hx hb dX8_spread_23 rfl hl (by decide) rfl (fun ls hl => ?_)
        refine lv_iconst (v := 0) hx hb dX8_spread_24 (by decide) ?_
        refine lv_istore (lv' := [(4, .int 0), (3, .int (ord x2.toNatClampNeg)), (0, .ref (a 6)), (1, .ref (a 22)), (2, .int x2)]) hx hb dX8_spread_25 hl (by decide) rfl (fun ls hl => ?_)
        obtain ⟨z_13, hz_14, h⟩ := nx_bd h
        refine L27 _ _ N _ _ _ _ _ _ _ _ hz_14 H locs ls hP hS (lv_sub hl [2, 3, 4, 1, 0] rfl) (fun H locs ls hP hS hl => ?_)
        refine lv_iinc (v := (x2 + 1)) (lv' := [(2, .int (x2 + 1)), (0, .ref (a 6)), (1, .ref (a 22))]) hx hb dX8_spread_53 hl (k := 2) rfl rfl (by decide) rfl (fun ls hl => ?_)
        refine lv_goto (tgt := 2) hx hb dX8_spread_56 (by decide) ?_
        exact ih _ _ _ _ _ _ _ z h H locs ls hP hS (lv_sub hl [1, 2, 0] rfl) kR
  unfold f_X8_spread_r22 at h
  suffices hw : ∀ (H : Heap) (locs : List Loc), va_P E.1 vwCl (cW E a size on kinds marks nb reached dist lastW par ord paths costs wanted tlen onlyF found steps plen rowW rowS tally) H → va_S (nx_A a 24 s.heap.size) s.heap H locs → W p l e (nx_rm 3 77) s m args below meth c H locs 0 0 Q (F0 m 0 ls []) from hw _ _ hP va_S.rf
  intro H locs hP hS
  refine lv_iconst (v := 0) hx hb dX8_spread_0 (by decide) ?_
  refine lv_istore_n (lv' := [(2, .int 0), (0, .ref (a 6)), (1, .ref (a 22))]) hx hb dX8_spread_1 rfl hl (by decide) rfl (fun ls hl => ?_)
  obtain ⟨z_15, hz_16, h⟩ := nx_bd h
  refine L2  N _ _ _ _ _ _ _ _ hz_16 H locs ls hP hS (lv_sub hl [1, 2, 0] rfl) (fun H locs ls hP hS hl => ?_)
  exact kr 59 ls (z_15.1, z_15.2.1, z_15.2.2.1, z_15.2.2.2.1, z_15.2.2.2.2.1, z_15.2.2.2.2.2) H locs dX8_spread_59 (Option.some.inj h) hP hS
def f_X0_standingOn (x0 : Int32)  : Option (Int32) :=
  some (3 * x0)
set_option maxHeartbeats 4000000 in
set_option maxRecDepth 100000 in
theorem c_X0_standingOn (l : Launch) (E : nx_E) (sz : Nat) (ws : va_W) (x0 : Int32) (o : Int32) (h : f_X0_standingOn x0 = some o) : Met l yX0_standingOn (.code yX0_standingOn cX0_standingOn 1 (some .int) :: nx_T) (nx_rm 0 0) (va_Pc [.int x0] (nx_P E (nx_F) sz ws)) (va_Qi (fun v (_ : Unit) => v = o) (fun _ t => va_P E.1 vwCl ws t.heap) (nx_F)) 0 0 (nx_F) := by
  refine nx_enI (fun v (_ : Unit) => v = o) (fun (_ : Unit) => ws) (by decide) (Nat.le_of_ble_eq_true rfl) ?_
  intro p e s m below meth c Q X kr hsz hP ls hl
  subst hsz
  generalize hargs : (List.toArray [.int x0] : Array Value) = args at X kr ⊢
  clear hargs
  obtain ⟨⟨hx, hb, hml, hown, hts⟩, hK, hSt, hNz⟩ := id X
  have hS : va_S (nx_F) s.heap s.heap [] := va_S.rf
  have hl : lv_has ls 1 [(0, .int x0)] := hl
  unfold f_X0_standingOn at h
  suffices hw : ∀ (H : Heap) (locs : List Loc), va_P E.1 vwCl ws H → va_S (nx_F) s.heap H locs → W p l e (nx_rm 0 0) s m args below meth c H locs 0 0 Q (F0 m 0 ls []) from hw _ _ hP va_S.rf
  intro H locs hP hS
  refine lv_iconst (v := 3) hx hb dX0_standingOn_0 (by decide) ?_
  refine lv_iload_n hx hb dX0_standingOn_1 rfl (lv_at hl 0 rfl) ?_
  refine lv_imul hx hb dX0_standingOn_2 ?_
  exact kr 3 ls (3 * x0) () H locs dX0_standingOn_3 (Option.some.inj h) hP hS
def f_X1_endOf_b41 (x2 : Int32) (reached : Int32) (dist : Nat → Int32) (lastW : Nat → Int32) (par : Nat → Int32) (ord : Nat → Int32) (paths : Nat → Int64) (rec : (Int32) → Option ((Int32 × (Int32 × (Nat → Int32) × (Nat → Int32) × (Nat → Int32) × (Nat → Int32) × (Nat → Int64))) ⊕ (Unit))) (x3 : Int32) : Option ((Int32 × (Int32 × (Nat → Int32) × (Nat → Int32) × (Nat → Int32) × (Nat → Int32) × (Nat → Int64))) ⊕ (Unit)) :=
  (f_X8_reached reached).bind fun r_2 => if r_2 ≤ x3 then (some (.inr ())) else ((f_X8_reachedAt x3 reached ord).bind fun r_4 => (f_X0_placeOf r_4).bind fun r_6 => (f_X0_standingOn x2).bind fun r_8 => if r_6 = r_8 then (some (.inl (r_4, (reached, dist, lastW, par, ord, paths)))) else (rec (x3 + 1)))
def f_X1_endOf_l41 (x2 : Int32) (reached : Int32) (dist : Nat → Int32) (lastW : Nat → Int32) (par : Nat → Int32) (ord : Nat → Int32) (paths : Nat → Int64) : Nat → (Int32) → Option ((Int32 × (Int32 × (Nat → Int32) × (Nat → Int32) × (Nat → Int32) × (Nat → Int32) × (Nat → Int64))) ⊕ (Unit)) := nx_lp (fun rec z => f_X1_endOf_b41 x2 reached dist lastW par ord paths rec z)
def f_X1_endOf (N : Nat) (x1 : Int32) (x2 : Int32) (size : Int32) (on : Int32) (kinds : Nat → Int32) (nb : Nat → Int32) (reached : Int32) (dist : Nat → Int32) (lastW : Nat → Int32) (par : Nat → Int32) (ord : Nat → Int32) (paths : Nat → Int64) : Option (Int32 × (Int32 × (Nat → Int32) × (Nat → Int32) × (Nat → Int32) × (Nat → Int32) × (Nat → Int64))) :=
  (f_X1_isSoundNow x1 size on kinds nb).bind fun r_10 => if r_10 = 0 then (some ((-1), (reached, dist, lastW, par, ord, paths))) else ((f_X2_groupsOn on).bind fun r_12 => (f_X0_at x1 r_12).bind fun r_14 => (f_X8_begin N r_14 reached dist lastW par ord paths).bind fun t_22 => (f_X8_spread_r22 N size kinds nb t_22.1 t_22.2.1 t_22.2.2.1 t_22.2.2.2.1 t_22.2.2.2.2.1 t_22.2.2.2.2.2).bind fun t_30 => (f_X1_endOf_l41 x2 t_30.1 t_30.2.1 t_30.2.2.1 t_30.2.2.2.1 t_30.2.2.2.2.1 t_30.2.2.2.2.2 N 0).bind fun z_31 => Sum.elim (fun rr => some rr) (fun y_33 => some ((-1), (t_30.1, t_30.2.1, t_30.2.2.1, t_30.2.2.2.1, t_30.2.2.2.2.1, t_30.2.2.2.2.2))) z_31)
set_option maxHeartbeats 4000000 in
set_option maxRecDepth 100000 in
theorem c_X1_endOf (l : Launch) (N : Nat) (E : nx_E) (sz : Nat) (a : Nat → Nat) (size : Int32) (on : Int32) (kinds : Nat → Int32) (marks : Nat → Int32) (nb : Nat → Int32) (reached : Int32) (dist : Nat → Int32) (lastW : Nat → Int32) (par : Nat → Int32) (ord : Nat → Int32) (paths : Nat → Int64) (costs : Nat → Int32) (wanted : Int32) (tlen : Int32) (onlyF : Int32) (found : Int32) (steps : Nat → Int32) (plen : Int32) (rowW : Nat → Int32) (rowS : Nat → Int32) (tally : Nat → Int32) (x1 : Int32) (x2 : Int32) (hI : nx_inj a 24) (o : Int32 × (Int32 × (Nat → Int32) × (Nat → Int32) × (Nat → Int32) × (Nat → Int32) × (Nat → Int64))) (h : f_X1_endOf N x1 x2 size on kinds nb reached dist lastW par ord paths = some o) : Met l yX1_endOf (.code yX1_endOf cX1_endOf 5 (some .int) :: nx_T) (nx_rm 4 101) (va_Pc [.ref (a 21), .int x1, .int x2] (nx_P E (nx_A a 24 sz) sz (cW E a size on kinds marks nb reached dist lastW par ord paths costs wanted tlen onlyF found steps plen rowW rowS tally))) (va_Qi (fun v u => (v, u) = o) (fun u t => va_P E.1 vwCl (cW E a size on kinds marks nb (u.1) (u.2.1) (u.2.2.1) (u.2.2.2.1) (u.2.2.2.2.1) (u.2.2.2.2.2) costs wanted tlen onlyF found steps plen rowW rowS tally) t.heap) (nx_A a 24 sz)) 0 0 (nx_A a 24 sz) := by
  refine nx_enI (fun v u => (v, u) = o) (fun (u : Int32 × (Nat → Int32) × (Nat → Int32) × (Nat → Int32) × (Nat → Int32) × (Nat → Int64)) => (cW E a size on kinds marks nb (u.1) (u.2.1) (u.2.2.1) (u.2.2.2.1) (u.2.2.2.2.1) (u.2.2.2.2.2) costs wanted tlen onlyF found steps plen rowW rowS tally)) (by decide) (Nat.le_of_ble_eq_true rfl) ?_
  intro p e s m below meth c Q X kr hsz hP ls hl
  subst hsz
  generalize hargs : (List.toArray [.ref (a 21), .int x1, .int x2] : Array Value) = args at X kr ⊢
  clear hargs
  obtain ⟨⟨hx, hb, hml, hown, hts⟩, hK, hSt, hNz⟩ := id X
  have hS : va_S (nx_A a 24 s.heap.size) s.heap s.heap [] := va_S.rf
  have hl : lv_has ls 5 [(0, .ref (a 21)), (1, .int x1), (2, .int x2)] := hl
  have L41 : ∀ (x2 : Int32) (reached : Int32) (dist : Nat → Int32) (lastW : Nat → Int32) (par : Nat → Int32) (ord : Nat → Int32) (paths : Nat → Int64) (n : Nat) (x3 : Int32) (z : ((Int32 × (Int32 × (Nat → Int32) × (Nat → Int32) × (Nat → Int32) × (Nat → Int32) × (Nat → Int64))) ⊕ (Unit))), f_X1_endOf_l41 x2 reached dist lastW par ord paths n x3 = some z → ∀ (H : Heap) (locs : List Loc) (ls : Array Slot), va_P E.1 vwCl (cW E a size on kinds marks nb reached dist lastW par ord paths costs wanted tlen onlyF found steps plen rowW rowS tally) H → va_S (nx_A a 24 s.heap.size) s.heap H locs → lv_has ls 5 [(0, .ref (a 21)), (2, .int x2), (3, .int x3)] → ∀ (kL : ∀ r, z = .inl r → ∀ (pc : Nat) (ls : Array Slot) (v : Int32) (u : Int32 × (Nat → Int32) × (Nat → Int32) × (Nat → Int32) × (Nat → Int32) × (Nat → Int64)) (H : Heap) (locs : List Loc), decode cX1_endOf pc = .ok (.ireturn, 1) → (v, u) = r → va_P E.1 vwCl (cW E a size on kinds marks nb (u.1) (u.2.1) (u.2.2.1) (u.2.2.2.1) (u.2.2.2.2.1) (u.2.2.2.2.2) costs wanted tlen onlyF found steps plen rowW rowS tally) H → va_S (nx_A a 24 s.heap.size) s.heap H locs → W p l e (nx_rm 4 101) s m args below meth c H locs 0 0 Q (F0 m pc ls [.int v])) (kR : ∀ y, z = .inr y → ∀ (H : Heap) (locs : List Loc) (ls : Array Slot), va_P E.1 vwCl (cW E a size on kinds marks nb reached dist lastW par ord paths costs wanted tlen onlyF found steps plen rowW rowS tally) H → va_S (nx_A a 24 s.heap.size) s.heap H locs → lv_has ls 5 [(0, .ref (a 21))] → W p l e (nx_rm 4 101) s m args below meth c H locs 0 0 Q (F0 m 83 ls [])), W p l e (nx_rm 4 101) s m args below meth c H locs 0 0 Q (F0 m 41 ls []) := by
   intro x2 reached dist lastW par ord paths n
   induction n with
   | zero => intro x3 z h; exact nomatch (show none = some z from h)
   | succ n ih =>
    intro x3 z h H locs ls hP hS hl kL kR
    have h : f_X1_endOf_b41 x2 reached dist lastW par ord paths (f_X1_endOf_l41 x2 reached dist lastW par ord paths n) x3 = some z := h
    unfold f_X1_endOf_b41 at h
    refine lv_iload_n hx hb dX1_endOf_41 rfl (lv_at hl 2 rfl) ?_
    refine lv_aload_n hx hb dX1_endOf_42 rfl (lv_at hl 0 rfl) ?_
    refine nx_gf X hP uw_X1 (ci := 1) rfl 21 rfl 1 (by decide) wf_RX1_15 rfl dX1_endOf_43 ?_
    obtain ⟨r_2, hc_1, h⟩ := nx_bd h
    refine nx_ki (nx_runV (As := []) (rest := [.int x3]) X hS hP (c_X8_reached l E H.size a size on kinds marks nb reached dist lastW par ord paths costs wanted tlen onlyF found steps plen rowW rowS tally _ hc_1) nx_FA qV_RX1_100 ⟨rfl, rfl⟩ ⟨Nat.le_of_ble_eq_true rfl, Nat.le_of_ble_eq_true rfl⟩ ⟨Nat.zero_le _, Nat.zero_le _⟩ 6 rfl rfl rfl rfl hl.1 (Nat.le_of_ble_eq_true rfl) dX1_endOf_46) hS nx_FA (fun H locs hP hS => ?_)
    refine lv_icmp_ge (tgt := 83) hx hb dX1_endOf_49 (by decide) (fun hc => ?_) (fun hc => ?_)
    · have h := nx_it h hc
      exact kR _ (Option.some.inj h).symm H locs ls hP hS (lv_sub hl [0] rfl)
    · have h := nx_if h hc
      refine lv_aload_n hx hb dX1_endOf_52 rfl (lv_at hl 0 rfl) ?_
      refine nx_gf X hP uw_X1 (ci := 1) rfl 21 rfl 1 (by decide) wf_RX1_15 rfl dX1_endOf_53 ?_
      refine lv_iload_n hx hb dX1_endOf_56 rfl (lv_at hl 2 rfl) ?_
      obtain ⟨r_4, hc_3, h⟩ := nx_bd h
      refine nx_ki (nx_runV (As := [.int x3]) (rest := []) X hS hP (c_X8_reachedAt l E H.size a size on kinds marks nb reached dist lastW par ord paths costs wanted tlen onlyF found steps plen rowW rowS tally x3 _ hc_3) nx_FA qV_RX1_103 ⟨rfl, rfl⟩ ⟨Nat.le_of_ble_eq_true rfl, Nat.le_of_ble_eq_true rfl⟩ ⟨Nat.zero_le _, Nat.zero_le _⟩ 6 rfl rfl rfl rfl hl.1 (Nat.le_of_ble_eq_true rfl) dX1_endOf_57) hS nx_FA (fun H locs hP hS => ?_)
      refine lv_istore (lv' := [(4, .int r_4), (0, .ref (a 21)), (2, .int x2), (3, .int x3)]) hx hb dX1_endOf_60 hl (by decide) rfl (fun ls hl => ?_)
      refine lv_iload hx hb dX1_endOf_62 (lv_at hl 0 rfl) ?_
      obtain ⟨r_6, hc_5, h⟩ := nx_bd h
      refine nx_ki (nx_runS (As := [.int r_4]) (rest := []) X hS hP (c_X0_placeOf l E H.size _ r_4 _ hc_5) nx_FA qS_RX1_59 ⟨rfl, rfl⟩ ⟨Nat.le_of_ble_eq_true rfl, Nat.le_of_ble_eq_true rfl⟩ ⟨Nat.zero_le _, Nat.zero_le _⟩ rfl rfl hl.1 (Nat.le_of_ble_eq_true rfl) dX1_endOf_64) hS nx_FA (fun H locs hP hS => ?_)
      refine lv_iload_n hx hb dX1_endOf_67 rfl (lv_at hl 2 rfl) ?_
      obtain ⟨r_8, hc_7, h⟩ := nx_bd h
      refine nx_ki (nx_runS (As := [.int x2]) (rest := [.int r_6]) X hS hP (c_X0_standingOn l E H.size _ x2 _ hc_7) nx_FA qS_RX1_106 ⟨rfl, rfl⟩ ⟨Nat.le_of_ble_eq_true rfl, Nat.le_of_ble_eq_true rfl⟩ ⟨Nat.zero_le _, Nat.zero_le _⟩ rfl rfl hl.1 (Nat.le_of_ble_eq_true rfl) dX1_endOf_68) hS nx_FA (fun H locs hP hS => ?_)
      refine lv_icmp_ne (tgt := 77) hx hb dX1_endOf_71 (by decide) (fun hc => ?_) (fun hc => ?_)
      · have h := nx_if h hc
        refine lv_iinc (v := (x3 + 1)) (lv' := [(3, .int (x3 + 1)), (4, .int r_4), (0, .ref (a 21)), (2, .int x2)]) hx hb dX1_endOf_77 hl (k := 3) rfl rfl (by decide) rfl (fun ls hl => ?_)
        refine lv_goto (tgt := 41) hx hb dX1_endOf_80 (by decide) ?_
        exact ih _ z h H locs ls hP hS (lv_sub hl [2, 3, 0] rfl) kL kR
      · have h := nx_it h hc
        refine lv_iload hx hb dX1_endOf_74 (lv_at hl 0 rfl) ?_
        exact kL _ (Option.some.inj h).symm 76 ls r_4 (reached, dist, lastW, par, ord, paths) H locs dX1_endOf_76 rfl hP hS
  unfold f_X1_endOf at h
  suffices hw : ∀ (H : Heap) (locs : List Loc), va_P E.1 vwCl (cW E a size on kinds marks nb reached dist lastW par ord paths costs wanted tlen onlyF found steps plen rowW rowS tally) H → va_S (nx_A a 24 s.heap.size) s.heap H locs → W p l e (nx_rm 4 101) s m args below meth c H locs 0 0 Q (F0 m 0 ls []) from hw _ _ hP va_S.rf
  intro H locs hP hS
  refine lv_aload_n hx hb dX1_endOf_0 rfl (lv_at hl 0 rfl) ?_
  refine lv_iload_n hx hb dX1_endOf_1 rfl (lv_at hl 1 rfl) ?_
  obtain ⟨r_10, hc_9, h⟩ := nx_bd h
  refine nx_ki (nx_runV (As := [.int x1]) (rest := []) X hS hP (c_X1_isSoundNow l E H.size a size on kinds marks nb reached dist lastW par ord paths costs wanted tlen onlyF found steps plen rowW rowS tally x1 _ hc_9) nx_FA qV_RX1_44 ⟨rfl, rfl⟩ ⟨Nat.le_of_ble_eq_true rfl, Nat.le_of_ble_eq_true rfl⟩ ⟨Nat.zero_le _, Nat.zero_le _⟩ 21 rfl rfl rfl rfl hl.1 (Nat.le_of_ble_eq_true rfl) dX1_endOf_2) hS nx_FA (fun H locs hP hS => ?_)
  refine lv_if_ne (tgt := 10) hx hb dX1_endOf_5 (by decide) (fun hc => ?_) (fun hc => ?_)
  · have h := nx_if h hc
    refine lv_aload_n hx hb dX1_endOf_10 rfl (lv_at hl 0 rfl) ?_
    refine nx_gf X hP uw_X1 (ci := 1) rfl 21 rfl 1 (by decide) wf_RX1_15 rfl dX1_endOf_11 ?_
    refine lv_iload_n hx hb dX1_endOf_14 rfl (lv_at hl 1 rfl) ?_
    refine lv_aload_n hx hb dX1_endOf_15 rfl (lv_at hl 0 rfl) ?_
    refine nx_gf X hP uw_X1 (ci := 1) rfl 21 rfl 0 (by decide) wf_RX1_9 rfl dX1_endOf_16 ?_
    obtain ⟨r_12, hc_11, h⟩ := nx_bd h
    refine nx_ki (nx_runV (As := []) (rest := [.int x1, .ref (a 6)]) X hS hP (c_X2_groupsOn l E H.size a size on kinds marks nb reached dist lastW par ord paths costs wanted tlen onlyF found steps plen rowW rowS tally _ hc_11) nx_FA qV_RX1_31 ⟨rfl, rfl⟩ ⟨Nat.le_of_ble_eq_true rfl, Nat.le_of_ble_eq_true rfl⟩ ⟨Nat.zero_le _, Nat.zero_le _⟩ 1 rfl rfl rfl rfl hl.1 (Nat.le_of_ble_eq_true rfl) dX1_endOf_19) hS nx_FA (fun H locs hP hS => ?_)
    obtain ⟨r_14, hc_13, h⟩ := nx_bd h
    refine nx_ki (nx_runS (As := [.int x1, .int r_12]) (rest := [.ref (a 6)]) X hS hP (c_X0_at l E H.size _ x1 r_12 _ hc_13) nx_FA qS_RX1_52 ⟨rfl, rfl⟩ ⟨Nat.le_of_ble_eq_true rfl, Nat.le_of_ble_eq_true rfl⟩ ⟨Nat.zero_le _, Nat.zero_le _⟩ rfl rfl hl.1 (Nat.le_of_ble_eq_true rfl) dX1_endOf_22) hS nx_FA (fun H locs hP hS => ?_)
    obtain ⟨⟨k_16, k_17, k_18, k_19, k_20, k_21⟩, hc_15, h⟩ := nx_bd h
    refine nx_kv (nx_runV (As := [.int r_14]) (rest := []) X hS hP (c_X8_begin l N E H.size a size on kinds marks nb reached dist lastW par ord paths costs wanted tlen onlyF found steps plen rowW rowS tally r_14 hI _ hc_15) (nx_Am hS.1) qV_RX1_93 ⟨rfl, rfl⟩ ⟨Nat.le_of_ble_eq_true rfl, Nat.le_of_ble_eq_true rfl⟩ ⟨Nat.zero_le _, Nat.zero_le _⟩ 6 rfl rfl rfl rfl hl.1 (Nat.le_of_ble_eq_true rfl) dX1_endOf_25) hS (nx_Am hS.1) (fun H locs hP hS => ?_)
    have hP : va_P E.1 vwCl (cW E a size on kinds marks nb k_16 k_17 k_18 k_19 k_20 k_21 costs wanted tlen onlyF found steps plen rowW rowS tally) H := hP
    refine lv_aload_n hx hb dX1_endOf_28 rfl (lv_at hl 0 rfl) ?_
    refine nx_gf X hP uw_X1 (ci := 1) rfl 21 rfl 1 (by decide) wf_RX1_15 rfl dX1_endOf_29 ?_
    refine lv_aload_n hx hb dX1_endOf_32 rfl (lv_at hl 0 rfl) ?_
    refine nx_gf X hP uw_X1 (ci := 1) rfl 21 rfl 2 (by decide) wf_RX1_24 rfl dX1_endOf_33 ?_
    obtain ⟨⟨k_24, k_25, k_26, k_27, k_28, k_29⟩, hc_23, h⟩ := nx_bd h
    refine nx_kv (nx_runV (As := [.ref (a 22)]) (rest := []) X hS hP (c_X8_spread_r22 l N E H.size a size on kinds marks nb k_16 k_17 k_18 k_19 k_20 k_21 costs wanted tlen onlyF found steps plen rowW rowS tally hI _ hc_23) (nx_Am hS.1) qV_RX1_96 ⟨rfl, rfl⟩ ⟨Nat.le_of_ble_eq_true rfl, Nat.le_of_ble_eq_true rfl⟩ ⟨Nat.zero_le _, Nat.zero_le _⟩ 6 rfl rfl rfl rfl hl.1 (Nat.le_of_ble_eq_true rfl) dX1_endOf_36) hS (nx_Am hS.1) (fun H locs hP hS => ?_)
    have hP : va_P E.1 vwCl (cW E a size on kinds marks nb k_24 k_25 k_26 k_27 k_28 k_29 costs wanted tlen onlyF found steps plen rowW rowS tally) H := hP
    refine lv_iconst (v := 0) hx hb dX1_endOf_39 (by decide) ?_
    refine lv_istore_n (lv' := [(3, .int 0), (0, .ref (a 21)), (1, .int x1), (2, .int x2)]) hx hb dX1_endOf_40 rfl hl (by decide) rfl (fun ls hl => ?_)
    obtain ⟨z_31, hz_32, h⟩ := nx_bd h
    refine L41 _ _ _ _ _ _ _ N _ _ hz_32 H locs ls hP hS (lv_sub hl [1, 3, 0] rfl) ?_ ?_
    · intro rr hr
      subst hr
      have h := Option.some.inj h; subst h
      exact kr
    intro y_33 hr H locs ls hP hS hl
    subst hr
    refine lv_iconst (v := (-1)) hx hb dX1_endOf_83 (by decide) ?_
    exact kr 84 ls (-1) (k_24, k_25, k_26, k_27, k_28, k_29) H locs dX1_endOf_84 (Option.some.inj h) hP hS
  · have h := nx_it h hc
    refine lv_iconst (v := (-1)) hx hb dX1_endOf_8 (by decide) ?_
    exact kr 9 ls (-1) (reached, dist, lastW, par, ord, paths) H locs dX1_endOf_9 (Option.some.inj h) hP hS
def f_X1_length (N : Nat) (x1 : Int32) (x2 : Int32) (size : Int32) (on : Int32) (kinds : Nat → Int32) (nb : Nat → Int32) (reached : Int32) (dist : Nat → Int32) (lastW : Nat → Int32) (par : Nat → Int32) (ord : Nat → Int32) (paths : Nat → Int64) : Option (Int32 × (Int32 × (Nat → Int32) × (Nat → Int32) × (Nat → Int32) × (Nat → Int32) × (Nat → Int64))) :=
  (f_X1_endOf N x1 x2 size on kinds nb reached dist lastW par ord paths).bind fun t_9 => (f_X8_distanceTo t_9.1 t_9.2.2.1).bind fun r_11 => (f_X10_noneIfNowhere r_11).bind fun r_13 => some (r_13, (t_9.2.1, t_9.2.2.1, t_9.2.2.2.1, t_9.2.2.2.2.1, t_9.2.2.2.2.2.1, t_9.2.2.2.2.2.2))
set_option maxHeartbeats 4000000 in
set_option maxRecDepth 100000 in
theorem c_X1_length (l : Launch) (N : Nat) (E : nx_E) (sz : Nat) (a : Nat → Nat) (size : Int32) (on : Int32) (kinds : Nat → Int32) (marks : Nat → Int32) (nb : Nat → Int32) (reached : Int32) (dist : Nat → Int32) (lastW : Nat → Int32) (par : Nat → Int32) (ord : Nat → Int32) (paths : Nat → Int64) (costs : Nat → Int32) (wanted : Int32) (tlen : Int32) (onlyF : Int32) (found : Int32) (steps : Nat → Int32) (plen : Int32) (rowW : Nat → Int32) (rowS : Nat → Int32) (tally : Nat → Int32) (x1 : Int32) (x2 : Int32) (hI : nx_inj a 24) (o : Int32 × (Int32 × (Nat → Int32) × (Nat → Int32) × (Nat → Int32) × (Nat → Int32) × (Nat → Int64))) (h : f_X1_length N x1 x2 size on kinds nb reached dist lastW par ord paths = some o) : Met l yX1_length (.code yX1_length cX1_length 3 (some .int) :: nx_T) (nx_rm 5 125) (va_Pc [.ref (a 21), .int x1, .int x2] (nx_P E (nx_A a 24 sz) sz (cW E a size on kinds marks nb reached dist lastW par ord paths costs wanted tlen onlyF found steps plen rowW rowS tally))) (va_Qi (fun v u => (v, u) = o) (fun u t => va_P E.1 vwCl (cW E a size on kinds marks nb (u.1) (u.2.1) (u.2.2.1) (u.2.2.2.1) (u.2.2.2.2.1) (u.2.2.2.2.2) costs wanted tlen onlyF found steps plen rowW rowS tally) t.heap) (nx_A a 24 sz)) 0 0 (nx_A a 24 sz) := by
  refine nx_enI (fun v u => (v, u) = o) (fun (u : Int32 × (Nat → Int32) × (Nat → Int32) × (Nat → Int32) × (Nat → Int32) × (Nat → Int64)) => (cW E a size on kinds marks nb (u.1) (u.2.1) (u.2.2.1) (u.2.2.2.1) (u.2.2.2.2.1) (u.2.2.2.2.2) costs wanted tlen onlyF found steps plen rowW rowS tally)) (by decide) (Nat.le_of_ble_eq_true rfl) ?_
  intro p e s m below meth c Q X kr hsz hP ls hl
  subst hsz
  generalize hargs : (List.toArray [.ref (a 21), .int x1, .int x2] : Array Value) = args at X kr ⊢
  clear hargs
  obtain ⟨⟨hx, hb, hml, hown, hts⟩, hK, hSt, hNz⟩ := id X
  have hS : va_S (nx_A a 24 s.heap.size) s.heap s.heap [] := va_S.rf
  have hl : lv_has ls 3 [(0, .ref (a 21)), (1, .int x1), (2, .int x2)] := hl
  unfold f_X1_length at h
  suffices hw : ∀ (H : Heap) (locs : List Loc), va_P E.1 vwCl (cW E a size on kinds marks nb reached dist lastW par ord paths costs wanted tlen onlyF found steps plen rowW rowS tally) H → va_S (nx_A a 24 s.heap.size) s.heap H locs → W p l e (nx_rm 5 125) s m args below meth c H locs 0 0 Q (F0 m 0 ls []) from hw _ _ hP va_S.rf
  intro H locs hP hS
  refine lv_aload_n hx hb dX1_length_0 rfl (lv_at hl 0 rfl) ?_
  refine nx_gf X hP uw_X1 (ci := 1) rfl 21 rfl 1 (by decide) wf_RX1_15 rfl dX1_length_1 ?_
  refine lv_aload_n hx hb dX1_length_4 rfl (lv_at hl 0 rfl) ?_
  refine lv_iload_n hx hb dX1_length_5 rfl (lv_at hl 1 rfl) ?_
  refine lv_iload_n hx hb dX1_length_6 rfl (lv_at hl 2 rfl) ?_
  obtain ⟨⟨r_2, ⟨k_3, k_4, k_5, k_6, k_7, k_8⟩⟩, hc_1, h⟩ := nx_bd h
  refine nx_kwi (nx_runV (As := [.int x1, .int x2]) (rest := [.ref (a 6)]) X hS hP (c_X1_endOf l N E H.size a size on kinds marks nb reached dist lastW par ord paths costs wanted tlen onlyF found steps plen rowW rowS tally x1 x2 hI _ hc_1) (nx_Am hS.1) qV_RX1_63 ⟨rfl, rfl⟩ ⟨Nat.le_of_ble_eq_true rfl, Nat.le_of_ble_eq_true rfl⟩ ⟨Nat.zero_le _, Nat.zero_le _⟩ 21 rfl rfl rfl rfl hl.1 (Nat.le_of_ble_eq_true rfl) dX1_length_7) hS (nx_Am hS.1) (fun H locs hP hS => ?_)
  have hP : va_P E.1 vwCl (cW E a size on kinds marks nb k_3 k_4 k_5 k_6 k_7 k_8 costs wanted tlen onlyF found steps plen rowW rowS tally) H := hP
  obtain ⟨r_11, hc_10, h⟩ := nx_bd h
  refine nx_ki (nx_runV (As := [.int r_2]) (rest := []) X hS hP (c_X8_distanceTo l E H.size a size on kinds marks nb k_3 k_4 k_5 k_6 k_7 k_8 costs wanted tlen onlyF found steps plen rowW rowS tally r_2 _ hc_10) nx_FA qV_RX1_66 ⟨rfl, rfl⟩ ⟨Nat.le_of_ble_eq_true rfl, Nat.le_of_ble_eq_true rfl⟩ ⟨Nat.zero_le _, Nat.zero_le _⟩ 6 rfl rfl rfl rfl hl.1 (Nat.le_of_ble_eq_true rfl) dX1_length_10) hS nx_FA (fun H locs hP hS => ?_)
  obtain ⟨r_13, hc_12, h⟩ := nx_bd h
  refine nx_ki (nx_runN (As := [.int r_11]) (rest := []) X hS hP (c_X10_noneIfNowhere l E H.size _ r_11 _ hc_12) nx_FA qN_RX1_71 ⟨rfl, rfl⟩ ⟨Nat.le_of_ble_eq_true rfl, Nat.le_of_ble_eq_true rfl⟩ ⟨Nat.zero_le _, Nat.zero_le _⟩ rfl rfl hl.1 (Nat.le_of_ble_eq_true rfl) dX1_length_13) hS nx_FA (fun H locs hP hS => ?_)
  exact kr 16 ls r_13 (k_3, k_4, k_5, k_6, k_7, k_8) H locs dX1_length_16 (Option.some.inj h) hP hS
def f_X10_home (N : Nat) (x1 : Int32) (x2 : Int32) (size : Int32) (on : Int32) (kinds : Nat → Int32) (nb : Nat → Int32) (reached : Int32) (dist : Nat → Int32) (lastW : Nat → Int32) (par : Nat → Int32) (ord : Nat → Int32) (paths : Nat → Int64) : Option (Int32 × (Int32 × (Nat → Int32) × (Nat → Int32) × (Nat → Int32) × (Nat → Int32) × (Nat → Int64))) :=
  (f_X10_isPlace x1 size).bind fun r_2 => if r_2 = 0 then (some ((-1), (reached, dist, lastW, par, ord, paths))) else ((f_X2_has x2 size).bind fun r_4 => if r_4 = 0 then (some ((-1), (reached, dist, lastW, par, ord, paths))) else ((f_X1_length N x1 x2 size on kinds nb reached dist lastW par ord paths).bind fun t_13 => some (t_13.1, (t_13.2.1, t_13.2.2.1, t_13.2.2.2.1, t_13.2.2.2.2.1, t_13.2.2.2.2.2.1, t_13.2.2.2.2.2.2))))
set_option maxHeartbeats 4000000 in
set_option maxRecDepth 100000 in
theorem c_X10_home (l : Launch) (N : Nat) (E : nx_E) (sz : Nat) (a : Nat → Nat) (size : Int32) (on : Int32) (kinds : Nat → Int32) (marks : Nat → Int32) (nb : Nat → Int32) (reached : Int32) (dist : Nat → Int32) (lastW : Nat → Int32) (par : Nat → Int32) (ord : Nat → Int32) (paths : Nat → Int64) (costs : Nat → Int32) (wanted : Int32) (tlen : Int32) (onlyF : Int32) (found : Int32) (steps : Nat → Int32) (plen : Int32) (rowW : Nat → Int32) (rowS : Nat → Int32) (tally : Nat → Int32) (x1 : Int32) (x2 : Int32) (hI : nx_inj a 24) (o : Int32 × (Int32 × (Nat → Int32) × (Nat → Int32) × (Nat → Int32) × (Nat → Int32) × (Nat → Int64))) (h : f_X10_home N x1 x2 size on kinds nb reached dist lastW par ord paths = some o) : Met l yX10_home (.code yX10_home cX10_home 3 (some .int) :: nx_T) (nx_rm 6 147) (va_Pc [.ref (a 0), .int x1, .int x2] (nx_P E (nx_A a 24 sz) sz (cW E a size on kinds marks nb reached dist lastW par ord paths costs wanted tlen onlyF found steps plen rowW rowS tally))) (va_Qi (fun v u => (v, u) = o) (fun u t => va_P E.1 vwCl (cW E a size on kinds marks nb (u.1) (u.2.1) (u.2.2.1) (u.2.2.2.1) (u.2.2.2.2.1) (u.2.2.2.2.2) costs wanted tlen onlyF found steps plen rowW rowS tally) t.heap) (nx_A a 24 sz)) 0 0 (nx_A a 24 sz) := by
  refine nx_enI (fun v u => (v, u) = o) (fun (u : Int32 × (Nat → Int32) × (Nat → Int32) × (Nat → Int32) × (Nat → Int32) × (Nat → Int64)) => (cW E a size on kinds marks nb (u.1) (u.2.1) (u.2.2.1) (u.2.2.2.1) (u.2.2.2.2.1) (u.2.2.2.2.2) costs wanted tlen onlyF found steps plen rowW rowS tally)) (by decide) (Nat.le_of_ble_eq_true rfl) ?_
  intro p e s m below meth c Q X kr hsz hP ls hl
  subst hsz
  generalize hargs : (List.toArray [.ref (a 0), .int x1, .int x2] : Array Value) = args at X kr ⊢
  clear hargs
  obtain ⟨⟨hx, hb, hml, hown, hts⟩, hK, hSt, hNz⟩ := id X
  have hS : va_S (nx_A a 24 s.heap.size) s.heap s.heap [] := va_S.rf
  have hl : lv_has ls 3 [(0, .ref (a 0)), (1, .int x1), (2, .int x2)] := hl
  unfold f_X10_home at h
  suffices hw : ∀ (H : Heap) (locs : List Loc), va_P E.1 vwCl (cW E a size on kinds marks nb reached dist lastW par ord paths costs wanted tlen onlyF found steps plen rowW rowS tally) H → va_S (nx_A a 24 s.heap.size) s.heap H locs → W p l e (nx_rm 6 147) s m args below meth c H locs 0 0 Q (F0 m 0 ls []) from hw _ _ hP va_S.rf
  intro H locs hP hS
  refine lv_aload_n hx hb dX10_home_0 rfl (lv_at hl 0 rfl) ?_
  refine lv_iload_n hx hb dX10_home_1 rfl (lv_at hl 1 rfl) ?_
  obtain ⟨r_2, hc_1, h⟩ := nx_bd h
  refine nx_ki (nx_runV (As := [.int x1]) (rest := []) X hS hP (c_X10_isPlace l E H.size a size on kinds marks nb reached dist lastW par ord paths costs wanted tlen onlyF found steps plen rowW rowS tally x1 _ hc_1) nx_FA qV_RX10_209 ⟨rfl, rfl⟩ ⟨Nat.le_of_ble_eq_true rfl, Nat.le_of_ble_eq_true rfl⟩ ⟨Nat.zero_le _, Nat.zero_le _⟩ 0 rfl rfl rfl rfl hl.1 (Nat.le_of_ble_eq_true rfl) dX10_home_2) hS nx_FA (fun H locs hP hS => ?_)
  refine lv_if_eq (tgt := 31) hx hb dX10_home_5 (by decide) (fun hc => ?_) (fun hc => ?_)
  · have h := nx_it h hc
    refine lv_iconst (v := (-1)) hx hb dX10_home_31 (by decide) ?_
    exact kr 32 ls (-1) (reached, dist, lastW, par, ord, paths) H locs dX10_home_32 (Option.some.inj h) hP hS
  · have h := nx_if h hc
    refine lv_aload_n hx hb dX10_home_8 rfl (lv_at hl 0 rfl) ?_
    refine nx_gf X hP uw_X10 (ci := 9) rfl 0 rfl 0 (by decide) wf_RX10_12 rfl dX10_home_9 ?_
    refine lv_iload_n hx hb dX10_home_12 rfl (lv_at hl 2 rfl) ?_
    obtain ⟨r_4, hc_3, h⟩ := nx_bd h
    refine nx_ki (nx_runV (As := [.int x2]) (rest := []) X hS hP (c_X2_has l E H.size a size on kinds marks nb reached dist lastW par ord paths costs wanted tlen onlyF found steps plen rowW rowS tally x2 _ hc_3) nx_FA qV_RX10_85 ⟨rfl, rfl⟩ ⟨Nat.le_of_ble_eq_true rfl, Nat.le_of_ble_eq_true rfl⟩ ⟨Nat.zero_le _, Nat.zero_le _⟩ 1 rfl rfl rfl rfl hl.1 (Nat.le_of_ble_eq_true rfl) dX10_home_13) hS nx_FA (fun H locs hP hS => ?_)
    refine lv_if_eq (tgt := 31) hx hb dX10_home_16 (by decide) (fun hc => ?_) (fun hc => ?_)
    · have h := nx_it h hc
      refine lv_iconst (v := (-1)) hx hb dX10_home_31 (by decide) ?_
      exact kr 32 ls (-1) (reached, dist, lastW, par, ord, paths) H locs dX10_home_32 (Option.some.inj h) hP hS
    · have h := nx_if h hc
      refine lv_aload_n hx hb dX10_home_19 rfl (lv_at hl 0 rfl) ?_
      refine nx_gf X hP uw_X10 (ci := 9) rfl 0 rfl 7 (by decide) wf_RX10_69 rfl dX10_home_20 ?_
      refine lv_iload_n hx hb dX10_home_23 rfl (lv_at hl 1 rfl) ?_
      refine lv_iload_n hx hb dX10_home_24 rfl (lv_at hl 2 rfl) ?_
      obtain ⟨⟨r_6, ⟨k_7, k_8, k_9, k_10, k_11, k_12⟩⟩, hc_5, h⟩ := nx_bd h
      refine nx_kwi (nx_runV (As := [.int x1, .int x2]) (rest := []) X hS hP (c_X1_length l N E H.size a size on kinds marks nb reached dist lastW par ord paths costs wanted tlen onlyF found steps plen rowW rowS tally x1 x2 hI _ hc_5) (nx_Am hS.1) qV_RX10_218 ⟨rfl, rfl⟩ ⟨Nat.le_of_ble_eq_true rfl, Nat.le_of_ble_eq_true rfl⟩ ⟨Nat.zero_le _, Nat.zero_le _⟩ 21 rfl rfl rfl rfl hl.1 (Nat.le_of_ble_eq_true rfl) dX10_home_25) hS (nx_Am hS.1) (fun H locs hP hS => ?_)
      have hP : va_P E.1 vwCl (cW E a size on kinds marks nb k_7 k_8 k_9 k_10 k_11 k_12 costs wanted tlen onlyF found steps plen rowW rowS tally) H := hP
      refine lv_goto (tgt := 32) hx hb dX10_home_28 (by decide) ?_
      exact kr 32 ls r_6 (k_7, k_8, k_9, k_10, k_11, k_12) H locs dX10_home_32 (Option.some.inj h) hP hS
def f_X1_stepAt (N : Nat) (x1 : Int32) (x2 : Int32) (x3 : Int32) (size : Int32) (on : Int32) (kinds : Nat → Int32) (nb : Nat → Int32) (reached : Int32) (dist : Nat → Int32) (lastW : Nat → Int32) (par : Nat → Int32) (ord : Nat → Int32) (paths : Nat → Int64) : Option (Int32 × (Int32 × (Nat → Int32) × (Nat → Int32) × (Nat → Int32) × (Nat → Int32) × (Nat → Int64))) :=
  (f_X1_endOf N x1 x2 size on kinds nb reached dist lastW par ord paths).bind fun t_9 => (f_X8_stepTo N t_9.1 x3 t_9.2.2.1 t_9.2.2.2.1 t_9.2.2.2.2.1).bind fun r_11 => some (r_11, (t_9.2.1, t_9.2.2.1, t_9.2.2.2.1, t_9.2.2.2.2.1, t_9.2.2.2.2.2.1, t_9.2.2.2.2.2.2))
set_option maxHeartbeats 4000000 in
set_option maxRecDepth 100000 in
theorem c_X1_stepAt (l : Launch) (N : Nat) (E : nx_E) (sz : Nat) (a : Nat → Nat) (size : Int32) (on : Int32) (kinds : Nat → Int32) (marks : Nat → Int32) (nb : Nat → Int32) (reached : Int32) (dist : Nat → Int32) (lastW : Nat → Int32) (par : Nat → Int32) (ord : Nat → Int32) (paths : Nat → Int64) (costs : Nat → Int32) (wanted : Int32) (tlen : Int32) (onlyF : Int32) (found : Int32) (steps : Nat → Int32) (plen : Int32) (rowW : Nat → Int32) (rowS : Nat → Int32) (tally : Nat → Int32) (x1 : Int32) (x2 : Int32) (x3 : Int32) (hI : nx_inj a 24) (o : Int32 × (Int32 × (Nat → Int32) × (Nat → Int32) × (Nat → Int32) × (Nat → Int32) × (Nat → Int64))) (h : f_X1_stepAt N x1 x2 x3 size on kinds nb reached dist lastW par ord paths = some o) : Met l yX1_stepAt (.code yX1_stepAt cX1_stepAt 4 (some .int) :: nx_T) (nx_rm 5 125) (va_Pc [.ref (a 21), .int x1, .int x2, .int x3] (nx_P E (nx_A a 24 sz) sz (cW E a size on kinds marks nb reached dist lastW par ord paths costs wanted tlen onlyF found steps plen rowW rowS tally))) (va_Qi (fun v u => (v, u) = o) (fun u t => va_P E.1 vwCl (cW E a size on kinds marks nb (u.1) (u.2.1) (u.2.2.1) (u.2.2.2.1) (u.2.2.2.2.1) (u.2.2.2.2.2) costs wanted tlen onlyF found steps plen rowW rowS tally) t.heap) (nx_A a 24 sz)) 0 0 (nx_A a 24 sz) := by
  refine nx_enI (fun v u => (v, u) = o) (fun (u : Int32 × (Nat → Int32) × (Nat → Int32) × (Nat → Int32) × (Nat → Int32) × (Nat → Int64)) => (cW E a size on kinds marks nb (u.1) (u.2.1) (u.2.2.1) (u.2.2.2.1) (u.2.2.2.2.1) (u.2.2.2.2.2) costs wanted tlen onlyF found steps plen rowW rowS tally)) (by decide) (Nat.le_of_ble_eq_true rfl) ?_
  intro p e s m below meth c Q X kr hsz hP ls hl
  subst hsz
  generalize hargs : (List.toArray [.ref (a 21), .int x1, .int x2, .int x3] : Array Value) = args at X kr ⊢
  clear hargs
  obtain ⟨⟨hx, hb, hml, hown, hts⟩, hK, hSt, hNz⟩ := id X
  have hS : va_S (nx_A a 24 s.heap.size) s.heap s.heap [] := va_S.rf
  have hl : lv_has ls 4 [(0, .ref (a 21)), (1, .int x1), (2, .int x2), (3, .int x3)] := hl
  unfold f_X1_stepAt at h
  suffices hw : ∀ (H : Heap) (locs : List Loc), va_P E.1 vwCl (cW E a size on kinds marks nb reached dist lastW par ord paths costs wanted tlen onlyF found steps plen rowW rowS tally) H → va_S (nx_A a 24 s.heap.size) s.heap H locs → W p l e (nx_rm 5 125) s m args below meth c H locs 0 0 Q (F0 m 0 ls []) from hw _ _ hP va_S.rf
  intro H locs hP hS
  refine lv_aload_n hx hb dX1_stepAt_0 rfl (lv_at hl 0 rfl) ?_
  refine nx_gf X hP uw_X1 (ci := 1) rfl 21 rfl 1 (by decide) wf_RX1_15 rfl dX1_stepAt_1 ?_
  refine lv_aload_n hx hb dX1_stepAt_4 rfl (lv_at hl 0 rfl) ?_
  refine lv_iload_n hx hb dX1_stepAt_5 rfl (lv_at hl 1 rfl) ?_
  refine lv_iload_n hx hb dX1_stepAt_6 rfl (lv_at hl 2 rfl) ?_
  obtain ⟨⟨r_2, ⟨k_3, k_4, k_5, k_6, k_7, k_8⟩⟩, hc_1, h⟩ := nx_bd h
  refine nx_kwi (nx_runV (As := [.int x1, .int x2]) (rest := [.ref (a 6)]) X hS hP (c_X1_endOf l N E H.size a size on kinds marks nb reached dist lastW par ord paths costs wanted tlen onlyF found steps plen rowW rowS tally x1 x2 hI _ hc_1) (nx_Am hS.1) qV_RX1_63 ⟨rfl, rfl⟩ ⟨Nat.le_of_ble_eq_true rfl, Nat.le_of_ble_eq_true rfl⟩ ⟨Nat.zero_le _, Nat.zero_le _⟩ 21 rfl rfl rfl rfl hl.1 (Nat.le_of_ble_eq_true rfl) dX1_stepAt_7) hS (nx_Am hS.1) (fun H locs hP hS => ?_)
  have hP : va_P E.1 vwCl (cW E a size on kinds marks nb k_3 k_4 k_5 k_6 k_7 k_8 costs wanted tlen onlyF found steps plen rowW rowS tally) H := hP
  refine lv_iload_n hx hb dX1_stepAt_10 rfl (lv_at hl 3 rfl) ?_
  obtain ⟨r_11, hc_10, h⟩ := nx_bd h
  refine nx_ki (nx_runV (As := [.int r_2, .int x3]) (rest := []) X hS hP (c_X8_stepTo l N E H.size a size on kinds marks nb k_3 k_4 k_5 k_6 k_7 k_8 costs wanted tlen onlyF found steps plen rowW rowS tally r_2 x3 _ hc_10) nx_FA qV_RX1_74 ⟨rfl, rfl⟩ ⟨Nat.le_of_ble_eq_true rfl, Nat.le_of_ble_eq_true rfl⟩ ⟨Nat.zero_le _, Nat.zero_le _⟩ 6 rfl rfl rfl rfl hl.1 (Nat.le_of_ble_eq_true rfl) dX1_stepAt_11) hS nx_FA (fun H locs hP hS => ?_)
  exact kr 14 ls r_11 (k_3, k_4, k_5, k_6, k_7, k_8) H locs dX1_stepAt_14 (Option.some.inj h) hP hS
def f_X10_homeWay (N : Nat) (x1 : Int32) (x2 : Int32) (x3 : Int32) (size : Int32) (on : Int32) (kinds : Nat → Int32) (nb : Nat → Int32) (reached : Int32) (dist : Nat → Int32) (lastW : Nat → Int32) (par : Nat → Int32) (ord : Nat → Int32) (paths : Nat → Int64) : Option (Int32 × (Int32 × (Nat → Int32) × (Nat → Int32) × (Nat → Int32) × (Nat → Int32) × (Nat → Int64))) :=
  (f_X10_isPlace x1 size).bind fun r_2 => if r_2 = 0 then (some ((-1), (reached, dist, lastW, par, ord, paths))) else ((f_X2_has x2 size).bind fun r_4 => if r_4 = 0 then (some ((-1), (reached, dist, lastW, par, ord, paths))) else ((f_X1_stepAt N x1 x2 x3 size on kinds nb reached dist lastW par ord paths).bind fun t_13 => some (t_13.1, (t_13.2.1, t_13.2.2.1, t_13.2.2.2.1, t_13.2.2.2.2.1, t_13.2.2.2.2.2.1, t_13.2.2.2.2.2.2))))
set_option maxHeartbeats 4000000 in
set_option maxRecDepth 100000 in
theorem c_X10_homeWay (l : Launch) (N : Nat) (E : nx_E) (sz : Nat) (a : Nat → Nat) (size : Int32) (on : Int32) (kinds : Nat → Int32) (marks : Nat → Int32) (nb : Nat → Int32) (reached : Int32) (dist : Nat → Int32) (lastW : Nat → Int32) (par : Nat → Int32) (ord : Nat → Int32) (paths : Nat → Int64) (costs : Nat → Int32) (wanted : Int32) (tlen : Int32) (onlyF : Int32) (found : Int32) (steps : Nat → Int32) (plen : Int32) (rowW : Nat → Int32) (rowS : Nat → Int32) (tally : Nat → Int32) (x1 : Int32) (x2 : Int32) (x3 : Int32) (hI : nx_inj a 24) (o : Int32 × (Int32 × (Nat → Int32) × (Nat → Int32) × (Nat → Int32) × (Nat → Int32) × (Nat → Int64))) (h : f_X10_homeWay N x1 x2 x3 size on kinds nb reached dist lastW par ord paths = some o) : Met l yX10_homeWay (.code yX10_homeWay cX10_homeWay 4 (some .int) :: nx_T) (nx_rm 6 148) (va_Pc [.ref (a 0), .int x1, .int x2, .int x3] (nx_P E (nx_A a 24 sz) sz (cW E a size on kinds marks nb reached dist lastW par ord paths costs wanted tlen onlyF found steps plen rowW rowS tally))) (va_Qi (fun v u => (v, u) = o) (fun u t => va_P E.1 vwCl (cW E a size on kinds marks nb (u.1) (u.2.1) (u.2.2.1) (u.2.2.2.1) (u.2.2.2.2.1) (u.2.2.2.2.2) costs wanted tlen onlyF found steps plen rowW rowS tally) t.heap) (nx_A a 24 sz)) 0 0 (nx_A a 24 sz) := by
  refine nx_enI (fun v u => (v, u) = o) (fun (u : Int32 × (Nat → Int32) × (Nat → Int32) × (Nat → Int32) × (Nat → Int32) × (Nat → Int64)) => (cW E a size on kinds marks nb (u.1) (u.2.1) (u.2.2.1) (u.2.2.2.1) (u.2.2.2.2.1) (u.2.2.2.2.2) costs wanted tlen onlyF found steps plen rowW rowS tally)) (by decide) (Nat.le_of_ble_eq_true rfl) ?_
  intro p e s m below meth c Q X kr hsz hP ls hl
  subst hsz
  generalize hargs : (List.toArray [.ref (a 0), .int x1, .int x2, .int x3] : Array Value) = args at X kr ⊢
  clear hargs
  obtain ⟨⟨hx, hb, hml, hown, hts⟩, hK, hSt, hNz⟩ := id X
  have hS : va_S (nx_A a 24 s.heap.size) s.heap s.heap [] := va_S.rf
  have hl : lv_has ls 4 [(0, .ref (a 0)), (1, .int x1), (2, .int x2), (3, .int x3)] := hl
  unfold f_X10_homeWay at h
  suffices hw : ∀ (H : Heap) (locs : List Loc), va_P E.1 vwCl (cW E a size on kinds marks nb reached dist lastW par ord paths costs wanted tlen onlyF found steps plen rowW rowS tally) H → va_S (nx_A a 24 s.heap.size) s.heap H locs → W p l e (nx_rm 6 148) s m args below meth c H locs 0 0 Q (F0 m 0 ls []) from hw _ _ hP va_S.rf
  intro H locs hP hS
  refine lv_aload_n hx hb dX10_homeWay_0 rfl (lv_at hl 0 rfl) ?_
  refine lv_iload_n hx hb dX10_homeWay_1 rfl (lv_at hl 1 rfl) ?_
  obtain ⟨r_2, hc_1, h⟩ := nx_bd h
  refine nx_ki (nx_runV (As := [.int x1]) (rest := []) X hS hP (c_X10_isPlace l E H.size a size on kinds marks nb reached dist lastW par ord paths costs wanted tlen onlyF found steps plen rowW rowS tally x1 _ hc_1) nx_FA qV_RX10_209 ⟨rfl, rfl⟩ ⟨Nat.le_of_ble_eq_true rfl, Nat.le_of_ble_eq_true rfl⟩ ⟨Nat.zero_le _, Nat.zero_le _⟩ 0 rfl rfl rfl rfl hl.1 (Nat.le_of_ble_eq_true rfl) dX10_homeWay_2) hS nx_FA (fun H locs hP hS => ?_)
  refine lv_if_eq (tgt := 32) hx hb dX10_homeWay_5 (by decide) (fun hc => ?_) (fun hc => ?_)
  · have h := nx_it h hc
    refine lv_iconst (v := (-1)) hx hb dX10_homeWay_32 (by decide) ?_
    exact kr 33 ls (-1) (reached, dist, lastW, par, ord, paths) H locs dX10_homeWay_33 (Option.some.inj h) hP hS
  · have h := nx_if h hc
    refine lv_aload_n hx hb dX10_homeWay_8 rfl (lv_at hl 0 rfl) ?_
    refine nx_gf X hP uw_X10 (ci := 9) rfl 0 rfl 0 (by decide) wf_RX10_12 rfl dX10_homeWay_9 ?_
    refine lv_iload_n hx hb dX10_homeWay_12 rfl (lv_at hl 2 rfl) ?_
    obtain ⟨r_4, hc_3, h⟩ := nx_bd h
    refine nx_ki (nx_runV (As := [.int x2]) (rest := []) X hS hP (c_X2_has l E H.size a size on kinds marks nb reached dist lastW par ord paths costs wanted tlen onlyF found steps plen rowW rowS tally x2 _ hc_3) nx_FA qV_RX10_85 ⟨rfl, rfl⟩ ⟨Nat.le_of_ble_eq_true rfl, Nat.le_of_ble_eq_true rfl⟩ ⟨Nat.zero_le _, Nat.zero_le _⟩ 1 rfl rfl rfl rfl hl.1 (Nat.le_of_ble_eq_true rfl) dX10_homeWay_13) hS nx_FA (fun H locs hP hS => ?_)
    refine lv_if_eq (tgt := 32) hx hb dX10_homeWay_16 (by decide) (fun hc => ?_) (fun hc => ?_)
    · have h := nx_it h hc
      refine lv_iconst (v := (-1)) hx hb dX10_homeWay_32 (by decide) ?_
      exact kr 33 ls (-1) (reached, dist, lastW, par, ord, paths) H locs dX10_homeWay_33 (Option.some.inj h) hP hS
    · have h := nx_if h hc
      refine lv_aload_n hx hb dX10_homeWay_19 rfl (lv_at hl 0 rfl) ?_
      refine nx_gf X hP uw_X10 (ci := 9) rfl 0 rfl 7 (by decide) wf_RX10_69 rfl dX10_homeWay_20 ?_
      refine lv_iload_n hx hb dX10_homeWay_23 rfl (lv_at hl 1 rfl) ?_
      refine lv_iload_n hx hb dX10_homeWay_24 rfl (lv_at hl 2 rfl) ?_
      refine lv_iload_n hx hb dX10_homeWay_25 rfl (lv_at hl 3 rfl) ?_
      obtain ⟨⟨r_6, ⟨k_7, k_8, k_9, k_10, k_11, k_12⟩⟩, hc_5, h⟩ := nx_bd h
      refine nx_kwi (nx_runV (As := [.int x1, .int x2, .int x3]) (rest := []) X hS hP (c_X1_stepAt l N E H.size a size on kinds marks nb reached dist lastW par ord paths costs wanted tlen onlyF found steps plen rowW rowS tally x1 x2 x3 hI _ hc_5) (nx_Am hS.1) qV_RX10_220 ⟨rfl, rfl⟩ ⟨Nat.le_of_ble_eq_true rfl, Nat.le_of_ble_eq_true rfl⟩ ⟨Nat.zero_le _, Nat.zero_le _⟩ 21 rfl rfl rfl rfl hl.1 (Nat.le_of_ble_eq_true rfl) dX10_homeWay_26) hS (nx_Am hS.1) (fun H locs hP hS => ?_)
      have hP : va_P E.1 vwCl (cW E a size on kinds marks nb k_7 k_8 k_9 k_10 k_11 k_12 costs wanted tlen onlyF found steps plen rowW rowS tally) H := hP
      refine lv_goto (tgt := 33) hx hb dX10_homeWay_29 (by decide) ?_
      exact kr 33 ls r_6 (k_7, k_8, k_9, k_10, k_11, k_12) H locs dX10_homeWay_33 (Option.some.inj h) hP hS
