def f_X1_soundPlaces_b4 (size : Int32) (on : Int32) (kinds : Nat → Int32) (nb : Nat → Int32) (rec : (Int32 × Int32) → Option (Int32)) (x1 : Int32) (x2 : Int32) : Option (Int32) :=
  (f_X1_allPlaces size).bind fun r_2 => if r_2 ≤ x2 then (some x1) else ((f_X1_isSoundNow x2 size on kinds nb).bind fun r_4 => (f_X10_oneIf r_4).bind fun r_6 => rec ((x1 + r_6), (x2 + 1)))
def f_X1_soundPlaces_l4 (size : Int32) (on : Int32) (kinds : Nat → Int32) (nb : Nat → Int32) : Nat → (Int32 × Int32) → Option (Int32) := nx_lp (fun rec z => f_X1_soundPlaces_b4 size on kinds nb rec z.1 z.2)
def f_X1_soundPlaces (N : Nat)  (size : Int32) (on : Int32) (kinds : Nat → Int32) (nb : Nat → Int32) : Option (Int32) :=
  (f_X1_soundPlaces_l4 size on kinds nb N (0, 0)).bind fun z_7 => some z_7
set_option maxHeartbeats 4000000 in
set_option maxRecDepth 100000 in
theorem c_X1_soundPlaces (l : Launch) (N : Nat) (E : nx_E) (sz : Nat) (a : Nat → Nat) (size : Int32) (on : Int32) (kinds : Nat → Int32) (marks : Nat → Int32) (nb : Nat → Int32) (reached : Int32) (dist : Nat → Int32) (lastW : Nat → Int32) (par : Nat → Int32) (ord : Nat → Int32) (paths : Nat → Int64) (costs : Nat → Int32) (wanted : Int32) (tlen : Int32) (onlyF : Int32) (found : Int32) (steps : Nat → Int32) (plen : Int32) (rowW : Nat → Int32) (rowS : Nat → Int32) (tally : Nat → Int32)  (o : Int32) (h : f_X1_soundPlaces N size on kinds nb = some o) : Met l yX1_soundPlaces (.code yX1_soundPlaces cX1_soundPlaces 3 (some .int) :: nx_T) (nx_rm 3 68) (va_Pc [.ref (a 21)] (nx_P E (nx_F) sz (cW E a size on kinds marks nb reached dist lastW par ord paths costs wanted tlen onlyF found steps plen rowW rowS tally))) (va_Qi (fun v (_ : Unit) => v = o) (fun _ t => va_P E.1 vwCl (cW E a size on kinds marks nb reached dist lastW par ord paths costs wanted tlen onlyF found steps plen rowW rowS tally) t.heap) (nx_F)) 0 0 (nx_F) := by
  refine nx_enI (fun v (_ : Unit) => v = o) (fun (_ : Unit) => (cW E a size on kinds marks nb reached dist lastW par ord paths costs wanted tlen onlyF found steps plen rowW rowS tally)) (by decide) (Nat.le_of_ble_eq_true rfl) ?_
  intro p e s m below meth c Q X kr hsz hP ls hl
  subst hsz
  generalize hargs : (List.toArray [.ref (a 21)] : Array Value) = args at X kr ⊢
  clear hargs
  obtain ⟨⟨hx, hb, hml, hown, hts⟩, hK, hSt, hNz⟩ := id X
  have hS : va_S (nx_F) s.heap s.heap [] := va_S.rf
  have hl : lv_has ls 3 [(0, .ref (a 21))] := hl
  have L4 : ∀ (n : Nat) (x1 : Int32) (x2 : Int32) (z : (Int32)), f_X1_soundPlaces_l4 size on kinds nb n (x1, x2) = some z → ∀ (H : Heap) (locs : List Loc) (ls : Array Slot), va_P E.1 vwCl (cW E a size on kinds marks nb reached dist lastW par ord paths costs wanted tlen onlyF found steps plen rowW rowS tally) H → va_S (nx_F) s.heap H locs → lv_has ls 3 [(0, .ref (a 21)), (1, .int x1), (2, .int x2)] → ∀ (kR : ∀ (H : Heap) (locs : List Loc) (ls : Array Slot), va_P E.1 vwCl (cW E a size on kinds marks nb reached dist lastW par ord paths costs wanted tlen onlyF found steps plen rowW rowS tally) H → va_S (nx_F) s.heap H locs → lv_has ls 3 [(0, .ref (a 21)), (1, .int z)] → W p l e (nx_rm 3 68) s m args below meth c H locs 0 0 Q (F0 m 29 ls [])), W p l e (nx_rm 3 68) s m args below meth c H locs 0 0 Q (F0 m 4 ls []) := by
   intro  n
   induction n with
   | zero => intro x1 x2 z h; exact nomatch (show none = some z from h)
   | succ n ih =>
    intro x1 x2 z h H locs ls hP hS hl kR
    have h : f_X1_soundPlaces_b4 size on kinds nb (f_X1_soundPlaces_l4 size on kinds nb n) x1 x2 = some z := h
    unfold f_X1_soundPlaces_b4 at h
    refine lv_iload_n hx hb dX1_soundPlaces_4 rfl (lv_at hl 2 rfl) ?_
    refine lv_aload_n hx hb dX1_soundPlaces_5 rfl (lv_at hl 0 rfl) ?_
    obtain ⟨r_2, hc_1, h⟩ := nx_bd h
    refine nx_ki (nx_runV (As := []) (rest := [.int x2]) X hS hP (c_X1_allPlaces l E H.size a size on kinds marks nb reached dist lastW par ord paths costs wanted tlen onlyF found steps plen rowW rowS tally _ hc_1) nx_FA qV_RX1_41 ⟨rfl, rfl⟩ ⟨Nat.le_of_ble_eq_true rfl, Nat.le_of_ble_eq_true rfl⟩ ⟨Nat.zero_le _, Nat.zero_le _⟩ 21 rfl rfl rfl rfl hl.1 (Nat.le_of_ble_eq_true rfl) dX1_soundPlaces_6) hS nx_FA (fun H locs hP hS => ?_)
    refine lv_icmp_ge (tgt := 29) hx hb dX1_soundPlaces_9 (by decide) (fun hc => ?_) (fun hc => ?_)
    · have h := nx_it h hc
      obtain rfl := Option.some.inj h
      exact kR H locs ls hP hS (lv_sub hl [0, 1] rfl)
    · have h := nx_if h hc
      refine lv_iload_n hx hb dX1_soundPlaces_12 rfl (lv_at hl 1 rfl) ?_
      refine lv_aload_n hx hb dX1_soundPlaces_13 rfl (lv_at hl 0 rfl) ?_
      refine lv_iload_n hx hb dX1_soundPlaces_14 rfl (lv_at hl 2 rfl) ?_
      obtain ⟨r_4, hc_3, h⟩ := nx_bd h
      refine nx_ki (nx_runV (As := [.int x2]) (rest := [.int x1]) X hS hP (c_X1_isSoundNow l E H.size a size on kinds marks nb reached dist lastW par ord paths costs wanted tlen onlyF found steps plen rowW rowS tally x2 _ hc_3) nx_FA qV_RX1_44 ⟨rfl, rfl⟩ ⟨Nat.le_of_ble_eq_true rfl, Nat.le_of_ble_eq_true rfl⟩ ⟨Nat.zero_le _, Nat.zero_le _⟩ 21 rfl rfl rfl rfl hl.1 (Nat.le_of_ble_eq_true rfl) dX1_soundPlaces_15) hS nx_FA (fun H locs hP hS => ?_)
      obtain ⟨r_6, hc_5, h⟩ := nx_bd h
      refine nx_ki (nx_runN (As := [.int r_4]) (rest := [.int x1]) X hS hP (c_X10_oneIf l E H.size _ r_4 _ hc_5) nx_FA qN_RX1_48 ⟨rfl, rfl⟩ ⟨Nat.le_of_ble_eq_true rfl, Nat.le_of_ble_eq_true rfl⟩ ⟨Nat.zero_le _, Nat.zero_le _⟩ rfl rfl hl.1 (Nat.le_of_ble_eq_true rfl) dX1_soundPlaces_18) hS nx_FA (fun H locs hP hS => ?_)
      refine lv_iadd hx hb dX1_soundPlaces_21 ?_
      refine lv_istore_n (lv' := [(1, .int (x1 + r_6)), (0, .ref (a 21)), (2, .int x2)]) hx hb dX1_soundPlaces_22 rfl hl (by decide) rfl (fun ls hl => ?_)
      refine lv_iinc (v := (x2 + 1)) (lv' := [(2, .int (x2 + 1)), (1, .int (x1 + r_6)), (0, .ref (a 21))]) hx hb dX1_soundPlaces_23 hl (k := 2) rfl rfl (by decide) rfl (fun ls hl => ?_)
      refine lv_goto (tgt := 4) hx hb dX1_soundPlaces_26 (by decide) ?_
      exact ih _ _ z h H locs ls hP hS (lv_sub hl [2, 1, 0] rfl) kR
  unfold f_X1_soundPlaces at h
  suffices hw : ∀ (H : Heap) (locs : List Loc), va_P E.1 vwCl (cW E a size on kinds marks nb reached dist lastW par ord paths costs wanted tlen onlyF found steps plen rowW rowS tally) H → va_S (nx_F) s.heap H locs → W p l e (nx_rm 3 68) s m args below meth c H locs 0 0 Q (F0 m 0 ls []) from hw _ _ hP va_S.rf
  intro H locs hP hS
  refine lv_iconst (v := 0) hx hb dX1_soundPlaces_0 (by decide) ?_
  refine lv_istore_n (lv' := [(1, .int 0), (0, .ref (a 21))]) hx hb dX1_soundPlaces_1 rfl hl (by decide) rfl (fun ls hl => ?_)
  refine lv_iconst (v := 0) hx hb dX1_soundPlaces_2 (by decide) ?_
  refine lv_istore_n (lv' := [(2, .int 0), (1, .int 0), (0, .ref (a 21))]) hx hb dX1_soundPlaces_3 rfl hl (by decide) rfl (fun ls hl => ?_)
  obtain ⟨z_7, hz_8, h⟩ := nx_bd h
  refine L4  N _ _ _ hz_8 H locs ls hP hS (lv_sub hl [2, 1, 0] rfl) (fun H locs ls hP hS hl => ?_)
  refine lv_iload_n hx hb dX1_soundPlaces_29 rfl (lv_at hl 1 rfl) ?_
  exact kr 30 ls z_7 () H locs dX1_soundPlaces_30 (Option.some.inj h) hP hS
def f_X10_count (N : Nat) (x1 : Int32) (size : Int32) (on : Int32) (kinds : Nat → Int32) (marks : Nat → Int32) (nb : Nat → Int32) (plen : Int32) : Option (Int32) :=
  if x1 = 0 then ((f_X2_size size).bind fun r_2 => some r_2) else (if x1 = 1 then ((f_X2_openCells N size on kinds).bind fun r_4 => some r_4) else (if x1 = 2 then ((f_X2_groupsOn on).bind fun r_6 => (f_J6_bitCount_0f7a4 r_6).bind fun r_8 => some r_8) else (if x1 = 3 then ((f_X7_length plen).bind fun r_10 => some r_10) else (if x1 = 4 then ((f_X2_markedCells N size marks).bind fun r_12 => some r_12) else (if x1 = 5 then ((f_X1_soundPlaces N size on kinds nb).bind fun r_14 => some r_14) else (some (-2)))))))
set_option maxHeartbeats 4000000 in
set_option maxRecDepth 100000 in
theorem c_X10_count (l : Launch) (N : Nat) (E : nx_E) (sz : Nat) (a : Nat → Nat) (size : Int32) (on : Int32) (kinds : Nat → Int32) (marks : Nat → Int32) (nb : Nat → Int32) (reached : Int32) (dist : Nat → Int32) (lastW : Nat → Int32) (par : Nat → Int32) (ord : Nat → Int32) (paths : Nat → Int64) (costs : Nat → Int32) (wanted : Int32) (tlen : Int32) (onlyF : Int32) (found : Int32) (steps : Nat → Int32) (plen : Int32) (rowW : Nat → Int32) (rowS : Nat → Int32) (tally : Nat → Int32) (x1 : Int32) (o : Int32) (h : f_X10_count N x1 size on kinds marks nb plen = some o) : Met l yX10_count (.code yX10_count cX10_count 2 (some .int) :: nx_T) (nx_rm 4 90) (va_Pc [.ref (a 0), .int x1] (nx_P E (nx_F) sz (cW E a size on kinds marks nb reached dist lastW par ord paths costs wanted tlen onlyF found steps plen rowW rowS tally))) (va_Qi (fun v (_ : Unit) => v = o) (fun _ t => va_P E.1 vwCl (cW E a size on kinds marks nb reached dist lastW par ord paths costs wanted tlen onlyF found steps plen rowW rowS tally) t.heap) (nx_F)) 0 0 (nx_F) := by
  refine nx_enI (fun v (_ : Unit) => v = o) (fun (_ : Unit) => (cW E a size on kinds marks nb reached dist lastW par ord paths costs wanted tlen onlyF found steps plen rowW rowS tally)) (by decide) (Nat.le_of_ble_eq_true rfl) ?_
  intro p e s m below meth c Q X kr hsz hP ls hl
  subst hsz
  generalize hargs : (List.toArray [.ref (a 0), .int x1] : Array Value) = args at X kr ⊢
  clear hargs
  obtain ⟨⟨hx, hb, hml, hown, hts⟩, hK, hSt, hNz⟩ := id X
  have hS : va_S (nx_F) s.heap s.heap [] := va_S.rf
  have hl : lv_has ls 2 [(0, .ref (a 0)), (1, .int x1)] := hl
  unfold f_X10_count at h
  suffices hw : ∀ (H : Heap) (locs : List Loc), va_P E.1 vwCl (cW E a size on kinds marks nb reached dist lastW par ord paths costs wanted tlen onlyF found steps plen rowW rowS tally) H → va_S (nx_F) s.heap H locs → W p l e (nx_rm 4 90) s m args below meth c H locs 0 0 Q (F0 m 0 ls []) from hw _ _ hP va_S.rf
  intro H locs hP hS
  refine lv_iload_n hx hb dX10_count_0 rfl (lv_at hl 1 rfl) ?_
  by_cases hc0 : x1 = 0
  · have h := nx_it h hc0
    refine lv_tableIn (off := 39) (tgt := 40) hx hb dX10_count_1 (by rw [hc0]; decide) (by rw [hc0]; decide) (by rw [hc0]; decide) (by decide) ?_
    refine lv_aload_n hx hb dX10_count_40 rfl (lv_at hl 0 rfl) ?_
    refine nx_gf X hP uw_X10 (ci := 9) rfl 0 rfl 0 (by decide) wf_RX10_12 rfl dX10_count_41 ?_
    obtain ⟨r_2, hc_1, h⟩ := nx_bd h
    refine nx_ki (nx_runV (As := []) (rest := []) X hS hP (c_X2_size l E H.size a size on kinds marks nb reached dist lastW par ord paths costs wanted tlen onlyF found steps plen rowW rowS tally _ hc_1) nx_FA qV_RX10_81 ⟨rfl, rfl⟩ ⟨Nat.le_of_ble_eq_true rfl, Nat.le_of_ble_eq_true rfl⟩ ⟨Nat.zero_le _, Nat.zero_le _⟩ 1 rfl rfl rfl rfl hl.1 (Nat.le_of_ble_eq_true rfl) dX10_count_44) hS nx_FA (fun H locs hP hS => ?_)
    exact kr 47 ls r_2 () H locs dX10_count_47 (Option.some.inj h) hP hS
  have h := nx_if h hc0
  by_cases hc1 : x1 = 1
  · have h := nx_it h hc1
    refine lv_tableIn (off := 47) (tgt := 48) hx hb dX10_count_1 (by rw [hc1]; decide) (by rw [hc1]; decide) (by rw [hc1]; decide) (by decide) ?_
    refine lv_aload_n hx hb dX10_count_48 rfl (lv_at hl 0 rfl) ?_
    refine nx_gf X hP uw_X10 (ci := 9) rfl 0 rfl 0 (by decide) wf_RX10_12 rfl dX10_count_49 ?_
    obtain ⟨r_4, hc_3, h⟩ := nx_bd h
    refine nx_ki (nx_runV (As := []) (rest := []) X hS hP (c_X2_openCells l N E H.size a size on kinds marks nb reached dist lastW par ord paths costs wanted tlen onlyF found steps plen rowW rowS tally _ hc_3) nx_FA qV_RX10_234 ⟨rfl, rfl⟩ ⟨Nat.le_of_ble_eq_true rfl, Nat.le_of_ble_eq_true rfl⟩ ⟨Nat.zero_le _, Nat.zero_le _⟩ 1 rfl rfl rfl rfl hl.1 (Nat.le_of_ble_eq_true rfl) dX10_count_52) hS nx_FA (fun H locs hP hS => ?_)
    exact kr 55 ls r_4 () H locs dX10_count_55 (Option.some.inj h) hP hS
  have h := nx_if h hc1
  by_cases hc2 : x1 = 2
  · have h := nx_it h hc2
    refine lv_tableIn (off := 55) (tgt := 56) hx hb dX10_count_1 (by rw [hc2]; decide) (by rw [hc2]; decide) (by rw [hc2]; decide) (by decide) ?_
    refine lv_aload_n hx hb dX10_count_56 rfl (lv_at hl 0 rfl) ?_
    refine nx_gf X hP uw_X10 (ci := 9) rfl 0 rfl 0 (by decide) wf_RX10_12 rfl dX10_count_57 ?_
    obtain ⟨r_6, hc_5, h⟩ := nx_bd h
    refine nx_ki (nx_runV (As := []) (rest := []) X hS hP (c_X2_groupsOn l E H.size a size on kinds marks nb reached dist lastW par ord paths costs wanted tlen onlyF found steps plen rowW rowS tally _ hc_5) nx_FA qV_RX10_99 ⟨rfl, rfl⟩ ⟨Nat.le_of_ble_eq_true rfl, Nat.le_of_ble_eq_true rfl⟩ ⟨Nat.zero_le _, Nat.zero_le _⟩ 1 rfl rfl rfl rfl hl.1 (Nat.le_of_ble_eq_true rfl) dX10_count_60) hS nx_FA (fun H locs hP hS => ?_)
    obtain ⟨r_8, hc_7, h⟩ := nx_bd h
    refine nx_ki (nx_runS (As := [.int r_6]) (rest := []) X hS hP (c_J6_bitCount_0f7a4 l E H.size _ r_6 _ hc_7) nx_FA qS_RX10_237 ⟨rfl, rfl⟩ ⟨Nat.le_of_ble_eq_true rfl, Nat.le_of_ble_eq_true rfl⟩ ⟨Nat.zero_le _, Nat.zero_le _⟩ rfl rfl hl.1 (Nat.le_of_ble_eq_true rfl) dX10_count_63) hS nx_FA (fun H locs hP hS => ?_)
    exact kr 66 ls r_8 () H locs dX10_count_66 (Option.some.inj h) hP hS
  have h := nx_if h hc2
  by_cases hc3 : x1 = 3
  · have h := nx_it h hc3
    refine lv_tableIn (off := 66) (tgt := 67) hx hb dX10_count_1 (by rw [hc3]; decide) (by rw [hc3]; decide) (by rw [hc3]; decide) (by decide) ?_
    refine lv_aload_n hx hb dX10_count_67 rfl (lv_at hl 0 rfl) ?_
    refine nx_gf X hP uw_X10 (ci := 9) rfl 0 rfl 6 (by decide) wf_RX10_60 rfl dX10_count_68 ?_
    obtain ⟨r_10, hc_9, h⟩ := nx_bd h
    refine nx_ki (nx_runV (As := []) (rest := []) X hS hP (c_X7_length l E H.size a size on kinds marks nb reached dist lastW par ord paths costs wanted tlen onlyF found steps plen rowW rowS tally _ hc_9) nx_FA qV_RX10_189 ⟨rfl, rfl⟩ ⟨Nat.le_of_ble_eq_true rfl, Nat.le_of_ble_eq_true rfl⟩ ⟨Nat.zero_le _, Nat.zero_le _⟩ 17 rfl rfl rfl rfl hl.1 (Nat.le_of_ble_eq_true rfl) dX10_count_71) hS nx_FA (fun H locs hP hS => ?_)
    exact kr 74 ls r_10 () H locs dX10_count_74 (Option.some.inj h) hP hS
  have h := nx_if h hc3
  by_cases hc4 : x1 = 4
  · have h := nx_it h hc4
    refine lv_tableIn (off := 74) (tgt := 75) hx hb dX10_count_1 (by rw [hc4]; decide) (by rw [hc4]; decide) (by rw [hc4]; decide) (by decide) ?_
    refine lv_aload_n hx hb dX10_count_75 rfl (lv_at hl 0 rfl) ?_
    refine nx_gf X hP uw_X10 (ci := 9) rfl 0 rfl 0 (by decide) wf_RX10_12 rfl dX10_count_76 ?_
    obtain ⟨r_12, hc_11, h⟩ := nx_bd h
    refine nx_ki (nx_runV (As := []) (rest := []) X hS hP (c_X2_markedCells l N E H.size a size on kinds marks nb reached dist lastW par ord paths costs wanted tlen onlyF found steps plen rowW rowS tally _ hc_11) nx_FA qV_RX10_242 ⟨rfl, rfl⟩ ⟨Nat.le_of_ble_eq_true rfl, Nat.le_of_ble_eq_true rfl⟩ ⟨Nat.zero_le _, Nat.zero_le _⟩ 1 rfl rfl rfl rfl hl.1 (Nat.le_of_ble_eq_true rfl) dX10_count_79) hS nx_FA (fun H locs hP hS => ?_)
    exact kr 82 ls r_12 () H locs dX10_count_82 (Option.some.inj h) hP hS
  have h := nx_if h hc4
  by_cases hc5 : x1 = 5
  · have h := nx_it h hc5
    refine lv_tableIn (off := 82) (tgt := 83) hx hb dX10_count_1 (by rw [hc5]; decide) (by rw [hc5]; decide) (by rw [hc5]; decide) (by decide) ?_
    refine lv_aload_n hx hb dX10_count_83 rfl (lv_at hl 0 rfl) ?_
    refine nx_gf X hP uw_X10 (ci := 9) rfl 0 rfl 7 (by decide) wf_RX10_69 rfl dX10_count_84 ?_
    obtain ⟨r_14, hc_13, h⟩ := nx_bd h
    refine nx_ki (nx_runV (As := []) (rest := []) X hS hP (c_X1_soundPlaces l N E H.size a size on kinds marks nb reached dist lastW par ord paths costs wanted tlen onlyF found steps plen rowW rowS tally _ hc_13) nx_FA qV_RX10_245 ⟨rfl, rfl⟩ ⟨Nat.le_of_ble_eq_true rfl, Nat.le_of_ble_eq_true rfl⟩ ⟨Nat.zero_le _, Nat.zero_le _⟩ 21 rfl rfl rfl rfl hl.1 (Nat.le_of_ble_eq_true rfl) dX10_count_87) hS nx_FA (fun H locs hP hS => ?_)
    exact kr 90 ls r_14 () H locs dX10_count_90 (Option.some.inj h) hP hS
  have h := nx_if h hc5
  refine lv_tableOut (tgt := 91) hx hb dX10_count_1 (nx_sw6 hc0 hc1 hc2 hc3 hc4 hc5) (by decide) ?_
  refine lv_bipush (v := (-2)) hx hb dX10_count_91 (by decide) ?_
  exact kr 93 ls (-2) () H locs dX10_count_93 (Option.some.inj h) hP hS
