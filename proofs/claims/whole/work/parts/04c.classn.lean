def f_X1_spreadBack_b9 (x1 : Int32) (size : Int32) (kinds : Nat → Int32) (nb : Nat → Int32) (rec : (Int32 × Int32 × (Nat → Int32) × (Nat → Int32) × (Nat → Int32) × (Nat → Int32) × (Nat → Int64)) → Option (Int32 × (Nat → Int32) × (Nat → Int32) × (Nat → Int32) × (Nat → Int32) × (Nat → Int64))) (x2 : Int32) (reached : Int32) (dist : Nat → Int32) (lastW : Nat → Int32) (par : Nat → Int32) (ord : Nat → Int32) (paths : Nat → Int64) : Option (Int32 × (Nat → Int32) × (Nat → Int32) × (Nat → Int32) × (Nat → Int32) × (Nat → Int64)) :=
  if 8 ≤ x2 then (some (reached, dist, lastW, par, ord, paths)) else ((f_X0_standingOn x1).bind fun r_2 => (f_X0_isSound_22 r_2 x2 size kinds nb).bind fun r_4 => if r_4 = 0 then (rec ((x2 + 1), reached, dist, lastW, par, ord, paths)) else ((f_X0_standingOn x1).bind fun r_6 => (f_X0_at r_6 x2).bind fun r_8 => (f_X8_enter r_8 reached dist lastW par ord paths).bind fun t_16 => rec ((x2 + 1), t_16.1, t_16.2.1, t_16.2.2.1, t_16.2.2.2.1, t_16.2.2.2.2.1, t_16.2.2.2.2.2)))
def f_X1_spreadBack_l9 (x1 : Int32) (size : Int32) (kinds : Nat → Int32) (nb : Nat → Int32) : Nat → (Int32 × Int32 × (Nat → Int32) × (Nat → Int32) × (Nat → Int32) × (Nat → Int32) × (Nat → Int64)) → Option (Int32 × (Nat → Int32) × (Nat → Int32) × (Nat → Int32) × (Nat → Int32) × (Nat → Int64)) := nx_lp (fun rec z => f_X1_spreadBack_b9 x1 size kinds nb rec z.1 z.2.1 z.2.2.1 z.2.2.2.1 z.2.2.2.2.1 z.2.2.2.2.2.1 z.2.2.2.2.2.2)
def f_X1_spreadBack (N : Nat) (x1 : Int32) (size : Int32) (kinds : Nat → Int32) (nb : Nat → Int32) (reached : Int32) (dist : Nat → Int32) (lastW : Nat → Int32) (par : Nat → Int32) (ord : Nat → Int32) (paths : Nat → Int64) : Option (Int32 × (Nat → Int32) × (Nat → Int32) × (Nat → Int32) × (Nat → Int32) × (Nat → Int64)) :=
  (f_X8_forget N reached dist).bind fun t_20 => (f_X1_spreadBack_l9 x1 size kinds nb N (0, t_20.1, t_20.2, lastW, par, ord, paths)).bind fun z_21 => (f_X8_spread_r23 N size kinds nb z_21.1 z_21.2.1 z_21.2.2.1 z_21.2.2.2.1 z_21.2.2.2.2.1 z_21.2.2.2.2.2).bind fun t_30 => some (t_30.1, t_30.2.1, t_30.2.2.1, t_30.2.2.2.1, t_30.2.2.2.2.1, t_30.2.2.2.2.2)
set_option maxHeartbeats 4000000 in
set_option maxRecDepth 100000 in
theorem c_X1_spreadBack (l : Launch) (N : Nat) (E : nx_E) (sz : Nat) (a : Nat → Nat) (size : Int32) (on : Int32) (kinds : Nat → Int32) (marks : Nat → Int32) (nb : Nat → Int32) (reached : Int32) (dist : Nat → Int32) (lastW : Nat → Int32) (par : Nat → Int32) (ord : Nat → Int32) (paths : Nat → Int64) (costs : Nat → Int32) (wanted : Int32) (tlen : Int32) (onlyF : Int32) (found : Int32) (steps : Nat → Int32) (plen : Int32) (rowW : Nat → Int32) (rowS : Nat → Int32) (tally : Nat → Int32) (x1 : Int32) (hI : nx_inj a 24) (o : Int32 × (Nat → Int32) × (Nat → Int32) × (Nat → Int32) × (Nat → Int32) × (Nat → Int64)) (h : f_X1_spreadBack N x1 size kinds nb reached dist lastW par ord paths = some o) : Met l yX1_spreadBack (.code yX1_spreadBack cX1_spreadBack 3 none :: nx_T) (nx_rm 4 101) (va_Pc [.ref (a 21), .int x1] (nx_P E (nx_A a 24 sz) sz (cW E a size on kinds marks nb reached dist lastW par ord paths costs wanted tlen onlyF found steps plen rowW rowS tally))) (va_Qv (fun u => u = o) (fun u t => va_P E.1 vwCl (cW E a size on kinds marks nb (u.1) (u.2.1) (u.2.2.1) (u.2.2.2.1) (u.2.2.2.2.1) (u.2.2.2.2.2) costs wanted tlen onlyF found steps plen rowW rowS tally) t.heap) (nx_A a 24 sz)) 0 0 (nx_A a 24 sz) := by
  refine nx_enV (fun u => u = o) (fun (u : Int32 × (Nat → Int32) × (Nat → Int32) × (Nat → Int32) × (Nat → Int32) × (Nat → Int64)) => (cW E a size on kinds marks nb (u.1) (u.2.1) (u.2.2.1) (u.2.2.2.1) (u.2.2.2.2.1) (u.2.2.2.2.2) costs wanted tlen onlyF found steps plen rowW rowS tally)) (by decide) (Nat.le_of_ble_eq_true rfl) ?_
  intro p e s m below meth c Q X kr hsz hP ls hl
  subst hsz
  generalize hargs : (List.toArray [.ref (a 21), .int x1] : Array Value) = args at X kr ⊢
  clear hargs
  obtain ⟨⟨hx, hb, hml, hown, hts⟩, hK, hSt, hNz⟩ := id X
  have hS : va_S (nx_A a 24 s.heap.size) s.heap s.heap [] := va_S.rf
  have hl : lv_has ls 3 [(0, .ref (a 21)), (1, .int x1)] := hl
  have L9 : ∀ (x1 : Int32) (n : Nat) (x2 : Int32) (reached : Int32) (dist : Nat → Int32) (lastW : Nat → Int32) (par : Nat → Int32) (ord : Nat → Int32) (paths : Nat → Int64) (z : (Int32 × (Nat → Int32) × (Nat → Int32) × (Nat → Int32) × (Nat → Int32) × (Nat → Int64))), f_X1_spreadBack_l9 x1 size kinds nb n (x2, reached, dist, lastW, par, ord, paths) = some z → ∀ (H : Heap) (locs : List Loc) (ls : Array Slot), va_P E.1 vwCl (cW E a size on kinds marks nb reached dist lastW par ord paths costs wanted tlen onlyF found steps plen rowW rowS tally) H → va_S (nx_A a 24 s.heap.size) s.heap H locs → lv_has ls 3 [(0, .ref (a 21)), (1, .int x1), (2, .int x2)] → ∀ (kR : ∀ (H : Heap) (locs : List Loc) (ls : Array Slot), va_P E.1 vwCl (cW E a size on kinds marks nb (z.1) (z.2.1) (z.2.2.1) (z.2.2.2.1) (z.2.2.2.2.1) (z.2.2.2.2.2) costs wanted tlen onlyF found steps plen rowW rowS tally) H → va_S (nx_A a 24 s.heap.size) s.heap H locs → lv_has ls 3 [(0, .ref (a 21))] → W p l e (nx_rm 4 101) s m args below meth c H locs 0 0 Q (F0 m 51 ls [])), W p l e (nx_rm 4 101) s m args below meth c H locs 0 0 Q (F0 m 9 ls []) := by
   intro x1 n
   induction n with
   | zero => intro x2 reached dist lastW par ord paths z h; exact nomatch (show none = some z from h)
   | succ n ih =>
    intro x2 reached dist lastW par ord paths z h H locs ls hP hS hl kR
    have h : f_X1_spreadBack_b9 x1 size kinds nb (f_X1_spreadBack_l9 x1 size kinds nb n) x2 reached dist lastW par ord paths = some z := h
    unfold f_X1_spreadBack_b9 at h
    refine lv_iload_n hx hb dX1_spreadBack_9 rfl (lv_at hl 2 rfl) ?_
    refine lv_bipush (v := 8) hx hb dX1_spreadBack_10 (by decide) ?_
    refine lv_icmp_ge (tgt := 51) hx hb dX1_spreadBack_12 (by decide) (fun hc => ?_) (fun hc => ?_)
    · have h := nx_it h hc
      obtain rfl := Option.some.inj h
      exact kR H locs ls hP hS (lv_sub hl [0] rfl)
    · have h := nx_if h hc
      refine lv_aload_n hx hb dX1_spreadBack_15 rfl (lv_at hl 0 rfl) ?_
      refine nx_gf X hP uw_X1 (ci := 1) rfl 21 rfl 2 (by decide) wf_RX1_24 rfl dX1_spreadBack_16 ?_
      refine lv_iload_n hx hb dX1_spreadBack_19 rfl (lv_at hl 1 rfl) ?_
      obtain ⟨r_2, hc_1, h⟩ := nx_bd h
      refine nx_ki (nx_runS (As := [.int x1]) (rest := [.ref (a 22)]) X hS hP (c_X0_standingOn l E H.size _ x1 _ hc_1) nx_FA qS_RX1_106 ⟨rfl, rfl⟩ ⟨Nat.le_of_ble_eq_true rfl, Nat.le_of_ble_eq_true rfl⟩ ⟨Nat.zero_le _, Nat.zero_le _⟩ rfl rfl hl.1 (Nat.le_of_ble_eq_true rfl) dX1_spreadBack_20) hS nx_FA (fun H locs hP hS => ?_)
      refine lv_iload_n hx hb dX1_spreadBack_23 rfl (lv_at hl 2 rfl) ?_
      obtain ⟨r_4, hc_3, h⟩ := nx_bd h
      refine nx_ki (nx_runV (As := [.int r_2, .int x2]) (rest := []) X hS hP (c_X0_isSound_22 l E H.size a size on kinds marks nb reached dist lastW par ord paths costs wanted tlen onlyF found steps plen rowW rowS tally r_2 x2 _ hc_3) nx_FA qV_RX1_37 ⟨rfl, rfl⟩ ⟨Nat.le_of_ble_eq_true rfl, Nat.le_of_ble_eq_true rfl⟩ ⟨Nat.zero_le _, Nat.zero_le _⟩ 22 rfl rfl rfl rfl hl.1 (Nat.le_of_ble_eq_true rfl) dX1_spreadBack_24) hS nx_FA (fun H locs hP hS => ?_)
      refine lv_if_eq (tgt := 45) hx hb dX1_spreadBack_27 (by decide) (fun hc => ?_) (fun hc => ?_)
      · have h := nx_it h hc
        refine lv_iinc (v := (x2 + 1)) (lv' := [(2, .int (x2 + 1)), (0, .ref (a 21)), (1, .int x1)]) hx hb dX1_spreadBack_45 hl (k := 2) rfl rfl (by decide) rfl (fun ls hl => ?_)
        refine lv_goto (tgt := 9) hx hb dX1_spreadBack_48 (by decide) ?_
        exact ih _ _ _ _ _ _ _ z h H locs ls hP hS (lv_sub hl [1, 2, 0] rfl) kR
      · have h := nx_if h hc
        refine lv_aload_n hx hb dX1_spreadBack_30 rfl (lv_at hl 0 rfl) ?_
        refine nx_gf X hP uw_X1 (ci := 1) rfl 21 rfl 1 (by decide) wf_RX1_15 rfl dX1_spreadBack_31 ?_
        refine lv_iload_n hx hb dX1_spreadBack_34 rfl (lv_at hl 1 rfl) ?_
        obtain ⟨r_6, hc_5, h⟩ := nx_bd h
        refine nx_ki (nx_runS (As := [.int x1]) (rest := [.ref (a 6)]) X hS hP (c_X0_standingOn l E H.size _ x1 _ hc_5) nx_FA qS_RX1_106 ⟨rfl, rfl⟩ ⟨Nat.le_of_ble_eq_true rfl, Nat.le_of_ble_eq_true rfl⟩ ⟨Nat.zero_le _, Nat.zero_le _⟩ rfl rfl hl.1 (Nat.le_of_ble_eq_true rfl) dX1_spreadBack_35) hS nx_FA (fun H locs hP hS => ?_)
        refine lv_iload_n hx hb dX1_spreadBack_38 rfl (lv_at hl 2 rfl) ?_
        obtain ⟨r_8, hc_7, h⟩ := nx_bd h
        refine nx_ki (nx_runS (As := [.int r_6, .int x2]) (rest := [.ref (a 6)]) X hS hP (c_X0_at l E H.size _ r_6 x2 _ hc_7) nx_FA qS_RX1_52 ⟨rfl, rfl⟩ ⟨Nat.le_of_ble_eq_true rfl, Nat.le_of_ble_eq_true rfl⟩ ⟨Nat.zero_le _, Nat.zero_le _⟩ rfl rfl hl.1 (Nat.le_of_ble_eq_true rfl) dX1_spreadBack_39) hS nx_FA (fun H locs hP hS => ?_)
        obtain ⟨⟨k_10, k_11, k_12, k_13, k_14, k_15⟩, hc_9, h⟩ := nx_bd h
        refine nx_kv (nx_runV (As := [.int r_8]) (rest := []) X hS hP (c_X8_enter l E H.size a size on kinds marks nb reached dist lastW par ord paths costs wanted tlen onlyF found steps plen rowW rowS tally r_8 hI _ hc_9) (nx_Am hS.1) qV_RX1_112 ⟨rfl, rfl⟩ ⟨Nat.le_of_ble_eq_true rfl, Nat.le_of_ble_eq_true rfl⟩ ⟨Nat.zero_le _, Nat.zero_le _⟩ 6 rfl rfl rfl rfl hl.1 (Nat.le_of_ble_eq_true rfl) dX1_spreadBack_42) hS (nx_Am hS.1) (fun H locs hP hS => ?_)
        have hP : va_P E.1 vwCl (cW E a size on kinds marks nb k_10 k_11 k_12 k_13 k_14 k_15 costs wanted tlen onlyF found steps plen rowW rowS tally) H := hP
        refine lv_iinc (v := (x2 + 1)) (lv' := [(2, .int (x2 + 1)), (0, .ref (a 21)), (1, .int x1)]) hx hb dX1_spreadBack_45 hl (k := 2) rfl rfl (by decide) rfl (fun ls hl => ?_)
        refine lv_goto (tgt := 9) hx hb dX1_spreadBack_48 (by decide) ?_
        exact ih _ _ _ _ _ _ _ z h H locs ls hP hS (lv_sub hl [1, 2, 0] rfl) kR
  unfold f_X1_spreadBack at h
  suffices hw : ∀ (H : Heap) (locs : List Loc), va_P E.1 vwCl (cW E a size on kinds marks nb reached dist lastW par ord paths costs wanted tlen onlyF found steps plen rowW rowS tally) H → va_S (nx_A a 24 s.heap.size) s.heap H locs → W p l e (nx_rm 4 101) s m args below meth c H locs 0 0 Q (F0 m 0 ls []) from hw _ _ hP va_S.rf
  intro H locs hP hS
  refine lv_aload_n hx hb dX1_spreadBack_0 rfl (lv_at hl 0 rfl) ?_
  refine nx_gf X hP uw_X1 (ci := 1) rfl 21 rfl 1 (by decide) wf_RX1_15 rfl dX1_spreadBack_1 ?_
  obtain ⟨⟨k_18, k_19⟩, hc_17, h⟩ := nx_bd h
  refine nx_kv (nx_runV (As := []) (rest := []) X hS hP (c_X8_forget l N E H.size a size on kinds marks nb reached dist lastW par ord paths costs wanted tlen onlyF found steps plen rowW rowS tally hI _ hc_17) (nx_Am hS.1) qV_RX1_109 ⟨rfl, rfl⟩ ⟨Nat.le_of_ble_eq_true rfl, Nat.le_of_ble_eq_true rfl⟩ ⟨Nat.zero_le _, Nat.zero_le _⟩ 6 rfl rfl rfl rfl hl.1 (Nat.le_of_ble_eq_true rfl) dX1_spreadBack_4) hS (nx_Am hS.1) (fun H locs hP hS => ?_)
  have hP : va_P E.1 vwCl (cW E a size on kinds marks nb k_18 k_19 lastW par ord paths costs wanted tlen onlyF found steps plen rowW rowS tally) H := hP
  refine lv_iconst (v := 0) hx hb dX1_spreadBack_7 (by decide) ?_
  refine lv_istore_n (lv' := [(2, .int 0), (0, .ref (a 21)), (1, .int x1)]) hx hb dX1_spreadBack_8 rfl hl (by decide) rfl (fun ls hl => ?_)
  obtain ⟨z_21, hz_22, h⟩ := nx_bd h
  refine L9 _ N _ _ _ _ _ _ _ _ hz_22 H locs ls hP hS (lv_sub hl [1, 2, 0] rfl) (fun H locs ls hP hS hl => ?_)
  refine lv_aload_n hx hb dX1_spreadBack_51 rfl (lv_at hl 0 rfl) ?_
  refine nx_gf X hP uw_X1 (ci := 1) rfl 21 rfl 1 (by decide) wf_RX1_15 rfl dX1_spreadBack_52 ?_
  refine lv_aload_n hx hb dX1_spreadBack_55 rfl (lv_at hl 0 rfl) ?_
  refine nx_gf X hP uw_X1 (ci := 1) rfl 21 rfl 3 (by decide) wf_RX1_28 rfl dX1_spreadBack_56 ?_
  obtain ⟨⟨k_24, k_25, k_26, k_27, k_28, k_29⟩, hc_23, h⟩ := nx_bd h
  refine nx_kv (nx_runV (As := [.ref (a 23)]) (rest := []) X hS hP (c_X8_spread_r23 l N E H.size a size on kinds marks nb z_21.1 z_21.2.1 z_21.2.2.1 z_21.2.2.2.1 z_21.2.2.2.2.1 z_21.2.2.2.2.2 costs wanted tlen onlyF found steps plen rowW rowS tally hI _ hc_23) (nx_Am hS.1) qV_RX1_96 ⟨rfl, rfl⟩ ⟨Nat.le_of_ble_eq_true rfl, Nat.le_of_ble_eq_true rfl⟩ ⟨Nat.zero_le _, Nat.zero_le _⟩ 6 rfl rfl rfl rfl hl.1 (Nat.le_of_ble_eq_true rfl) dX1_spreadBack_59) hS (nx_Am hS.1) (fun H locs hP hS => ?_)
  have hP : va_P E.1 vwCl (cW E a size on kinds marks nb k_24 k_25 k_26 k_27 k_28 k_29 costs wanted tlen onlyF found steps plen rowW rowS tally) H := hP
  exact kr 62 ls (k_24, k_25, k_26, k_27, k_28, k_29) H locs dX1_spreadBack_62 (Option.some.inj h) hP hS
def f_X1_allPlaces  (size : Int32) : Option (Int32) :=
  (f_X2_size size).bind fun r_2 => some (3 * r_2)
set_option maxHeartbeats 4000000 in
set_option maxRecDepth 100000 in
theorem c_X1_allPlaces (l : Launch) (E : nx_E) (sz : Nat) (a : Nat → Nat) (size : Int32) (on : Int32) (kinds : Nat → Int32) (marks : Nat → Int32) (nb : Nat → Int32) (reached : Int32) (dist : Nat → Int32) (lastW : Nat → Int32) (par : Nat → Int32) (ord : Nat → Int32) (paths : Nat → Int64) (costs : Nat → Int32) (wanted : Int32) (tlen : Int32) (onlyF : Int32) (found : Int32) (steps : Nat → Int32) (plen : Int32) (rowW : Nat → Int32) (rowS : Nat → Int32) (tally : Nat → Int32)  (o : Int32) (h : f_X1_allPlaces size = some o) : Met l yX1_allPlaces (.code yX1_allPlaces cX1_allPlaces 1 (some .int) :: nx_T) (nx_rm 1 20) (va_Pc [.ref (a 21)] (nx_P E (nx_F) sz (cW E a size on kinds marks nb reached dist lastW par ord paths costs wanted tlen onlyF found steps plen rowW rowS tally))) (va_Qi (fun v (_ : Unit) => v = o) (fun _ t => va_P E.1 vwCl (cW E a size on kinds marks nb reached dist lastW par ord paths costs wanted tlen onlyF found steps plen rowW rowS tally) t.heap) (nx_F)) 0 0 (nx_F) := by
  refine nx_enI (fun v (_ : Unit) => v = o) (fun (_ : Unit) => (cW E a size on kinds marks nb reached dist lastW par ord paths costs wanted tlen onlyF found steps plen rowW rowS tally)) (by decide) (Nat.le_of_ble_eq_true rfl) ?_
  intro p e s m below meth c Q X kr hsz hP ls hl
  subst hsz
  generalize hargs : (List.toArray [.ref (a 21)] : Array Value) = args at X kr ⊢
  clear hargs
  obtain ⟨⟨hx, hb, hml, hown, hts⟩, hK, hSt, hNz⟩ := id X
  have hS : va_S (nx_F) s.heap s.heap [] := va_S.rf
  have hl : lv_has ls 1 [(0, .ref (a 21))] := hl
  unfold f_X1_allPlaces at h
  suffices hw : ∀ (H : Heap) (locs : List Loc), va_P E.1 vwCl (cW E a size on kinds marks nb reached dist lastW par ord paths costs wanted tlen onlyF found steps plen rowW rowS tally) H → va_S (nx_F) s.heap H locs → W p l e (nx_rm 1 20) s m args below meth c H locs 0 0 Q (F0 m 0 ls []) from hw _ _ hP va_S.rf
  intro H locs hP hS
  refine lv_iconst (v := 3) hx hb dX1_allPlaces_0 (by decide) ?_
  refine lv_aload_n hx hb dX1_allPlaces_1 rfl (lv_at hl 0 rfl) ?_
  refine nx_gf X hP uw_X1 (ci := 1) rfl 21 rfl 0 (by decide) wf_RX1_9 rfl dX1_allPlaces_2 ?_
  obtain ⟨r_2, hc_1, h⟩ := nx_bd h
  refine nx_ki (nx_runV (As := []) (rest := [.int 3]) X hS hP (c_X2_size l E H.size a size on kinds marks nb reached dist lastW par ord paths costs wanted tlen onlyF found steps plen rowW rowS tally _ hc_1) nx_FA qV_RX1_90 ⟨rfl, rfl⟩ ⟨Nat.le_of_ble_eq_true rfl, Nat.le_of_ble_eq_true rfl⟩ ⟨Nat.zero_le _, Nat.zero_le _⟩ 1 rfl rfl rfl rfl hl.1 (Nat.le_of_ble_eq_true rfl) dX1_allPlaces_5) hS nx_FA (fun H locs hP hS => ?_)
  refine lv_imul hx hb dX1_allPlaces_8 ?_
  exact kr 9 ls (3 * r_2) () H locs dX1_allPlaces_9 (Option.some.inj h) hP hS
def f_X1_distanceHome (x1 : Int32) (on : Int32) (dist : Nat → Int32) : Option (Int32) :=
  (f_X2_groupsOn on).bind fun r_2 => (f_X0_at x1 r_2).bind fun r_4 => (f_X8_distanceTo r_4 dist).bind fun r_6 => some r_6
set_option maxHeartbeats 4000000 in
set_option maxRecDepth 100000 in
theorem c_X1_distanceHome (l : Launch) (E : nx_E) (sz : Nat) (a : Nat → Nat) (size : Int32) (on : Int32) (kinds : Nat → Int32) (marks : Nat → Int32) (nb : Nat → Int32) (reached : Int32) (dist : Nat → Int32) (lastW : Nat → Int32) (par : Nat → Int32) (ord : Nat → Int32) (paths : Nat → Int64) (costs : Nat → Int32) (wanted : Int32) (tlen : Int32) (onlyF : Int32) (found : Int32) (steps : Nat → Int32) (plen : Int32) (rowW : Nat → Int32) (rowS : Nat → Int32) (tally : Nat → Int32) (x1 : Int32) (o : Int32) (h : f_X1_distanceHome x1 on dist = some o) : Met l yX1_distanceHome (.code yX1_distanceHome cX1_distanceHome 2 (some .int) :: nx_T) (nx_rm 2 41) (va_Pc [.ref (a 21), .int x1] (nx_P E (nx_F) sz (cW E a size on kinds marks nb reached dist lastW par ord paths costs wanted tlen onlyF found steps plen rowW rowS tally))) (va_Qi (fun v (_ : Unit) => v = o) (fun _ t => va_P E.1 vwCl (cW E a size on kinds marks nb reached dist lastW par ord paths costs wanted tlen onlyF found steps plen rowW rowS tally) t.heap) (nx_F)) 0 0 (nx_F) := by
  refine nx_enI (fun v (_ : Unit) => v = o) (fun (_ : Unit) => (cW E a size on kinds marks nb reached dist lastW par ord paths costs wanted tlen onlyF found steps plen rowW rowS tally)) (by decide) (Nat.le_of_ble_eq_true rfl) ?_
  intro p e s m below meth c Q X kr hsz hP ls hl
  subst hsz
  generalize hargs : (List.toArray [.ref (a 21), .int x1] : Array Value) = args at X kr ⊢
  clear hargs
  obtain ⟨⟨hx, hb, hml, hown, hts⟩, hK, hSt, hNz⟩ := id X
  have hS : va_S (nx_F) s.heap s.heap [] := va_S.rf
  have hl : lv_has ls 2 [(0, .ref (a 21)), (1, .int x1)] := hl
  unfold f_X1_distanceHome at h
  suffices hw : ∀ (H : Heap) (locs : List Loc), va_P E.1 vwCl (cW E a size on kinds marks nb reached dist lastW par ord paths costs wanted tlen onlyF found steps plen rowW rowS tally) H → va_S (nx_F) s.heap H locs → W p l e (nx_rm 2 41) s m args below meth c H locs 0 0 Q (F0 m 0 ls []) from hw _ _ hP va_S.rf
  intro H locs hP hS
  refine lv_aload_n hx hb dX1_distanceHome_0 rfl (lv_at hl 0 rfl) ?_
  refine nx_gf X hP uw_X1 (ci := 1) rfl 21 rfl 1 (by decide) wf_RX1_15 rfl dX1_distanceHome_1 ?_
  refine lv_iload_n hx hb dX1_distanceHome_4 rfl (lv_at hl 1 rfl) ?_
  refine lv_aload_n hx hb dX1_distanceHome_5 rfl (lv_at hl 0 rfl) ?_
  refine nx_gf X hP uw_X1 (ci := 1) rfl 21 rfl 0 (by decide) wf_RX1_9 rfl dX1_distanceHome_6 ?_
  obtain ⟨r_2, hc_1, h⟩ := nx_bd h
  refine nx_ki (nx_runV (As := []) (rest := [.int x1, .ref (a 6)]) X hS hP (c_X2_groupsOn l E H.size a size on kinds marks nb reached dist lastW par ord paths costs wanted tlen onlyF found steps plen rowW rowS tally _ hc_1) nx_FA qV_RX1_31 ⟨rfl, rfl⟩ ⟨Nat.le_of_ble_eq_true rfl, Nat.le_of_ble_eq_true rfl⟩ ⟨Nat.zero_le _, Nat.zero_le _⟩ 1 rfl rfl rfl rfl hl.1 (Nat.le_of_ble_eq_true rfl) dX1_distanceHome_9) hS nx_FA (fun H locs hP hS => ?_)
  obtain ⟨r_4, hc_3, h⟩ := nx_bd h
  refine nx_ki (nx_runS (As := [.int x1, .int r_2]) (rest := [.ref (a 6)]) X hS hP (c_X0_at l E H.size _ x1 r_2 _ hc_3) nx_FA qS_RX1_52 ⟨rfl, rfl⟩ ⟨Nat.le_of_ble_eq_true rfl, Nat.le_of_ble_eq_true rfl⟩ ⟨Nat.zero_le _, Nat.zero_le _⟩ rfl rfl hl.1 (Nat.le_of_ble_eq_true rfl) dX1_distanceHome_12) hS nx_FA (fun H locs hP hS => ?_)
  obtain ⟨r_6, hc_5, h⟩ := nx_bd h
  refine nx_ki (nx_runV (As := [.int r_4]) (rest := []) X hS hP (c_X8_distanceTo l E H.size a size on kinds marks nb reached dist lastW par ord paths costs wanted tlen onlyF found steps plen rowW rowS tally r_4 _ hc_5) nx_FA qV_RX1_66 ⟨rfl, rfl⟩ ⟨Nat.le_of_ble_eq_true rfl, Nat.le_of_ble_eq_true rfl⟩ ⟨Nat.zero_le _, Nat.zero_le _⟩ 6 rfl rfl rfl rfl hl.1 (Nat.le_of_ble_eq_true rfl) dX1_distanceHome_15) hS nx_FA (fun H locs hP hS => ?_)
  exact kr 18 ls r_6 () H locs dX1_distanceHome_18 (Option.some.inj h) hP hS
def f_X1_farthestPlace_b13 (size : Int32) (on : Int32) (dist : Nat → Int32) (rec : (Int32 × Int32 × Int32) → Option (Int32)) (x2 : Int32) (x3 : Int32) (x4 : Int32) : Option (Int32) :=
  (f_X1_allPlaces size).bind fun r_2 => if r_2 ≤ x4 then (some x2) else ((f_X1_distanceHome x4 on dist).bind fun r_4 => if r_4 ≤ x3 then (rec (x2, x3, (x4 + 1))) else ((f_X1_distanceHome x4 on dist).bind fun r_6 => rec (x4, r_6, (x4 + 1))))
def f_X1_farthestPlace_l13 (size : Int32) (on : Int32) (dist : Nat → Int32) : Nat → (Int32 × Int32 × Int32) → Option (Int32) := nx_lp (fun rec z => f_X1_farthestPlace_b13 size on dist rec z.1 z.2.1 z.2.2)
def f_X1_farthestPlace (N : Nat) (x1 : Int32) (size : Int32) (on : Int32) (kinds : Nat → Int32) (nb : Nat → Int32) (reached : Int32) (dist : Nat → Int32) (lastW : Nat → Int32) (par : Nat → Int32) (ord : Nat → Int32) (paths : Nat → Int64) : Option (Int32 × (Int32 × (Nat → Int32) × (Nat → Int32) × (Nat → Int32) × (Nat → Int32) × (Nat → Int64))) :=
  (f_X1_spreadBack N x1 size kinds nb reached dist lastW par ord paths).bind fun t_14 => (f_X1_farthestPlace_l13 size on t_14.2.1 N ((-9), (-1), 0)).bind fun z_15 => some (z_15, (t_14.1, t_14.2.1, t_14.2.2.1, t_14.2.2.2.1, t_14.2.2.2.2.1, t_14.2.2.2.2.2))
set_option maxHeartbeats 4000000 in
set_option maxRecDepth 100000 in
theorem c_X1_farthestPlace (l : Launch) (N : Nat) (E : nx_E) (sz : Nat) (a : Nat → Nat) (size : Int32) (on : Int32) (kinds : Nat → Int32) (marks : Nat → Int32) (nb : Nat → Int32) (reached : Int32) (dist : Nat → Int32) (lastW : Nat → Int32) (par : Nat → Int32) (ord : Nat → Int32) (paths : Nat → Int64) (costs : Nat → Int32) (wanted : Int32) (tlen : Int32) (onlyF : Int32) (found : Int32) (steps : Nat → Int32) (plen : Int32) (rowW : Nat → Int32) (rowS : Nat → Int32) (tally : Nat → Int32) (x1 : Int32) (hI : nx_inj a 24) (o : Int32 × (Int32 × (Nat → Int32) × (Nat → Int32) × (Nat → Int32) × (Nat → Int32) × (Nat → Int64))) (h : f_X1_farthestPlace N x1 size on kinds nb reached dist lastW par ord paths = some o) : Met l yX1_farthestPlace (.code yX1_farthestPlace cX1_farthestPlace 5 (some .int) :: nx_T) (nx_rm 5 123) (va_Pc [.ref (a 21), .int x1] (nx_P E (nx_A a 24 sz) sz (cW E a size on kinds marks nb reached dist lastW par ord paths costs wanted tlen onlyF found steps plen rowW rowS tally))) (va_Qi (fun v u => (v, u) = o) (fun u t => va_P E.1 vwCl (cW E a size on kinds marks nb (u.1) (u.2.1) (u.2.2.1) (u.2.2.2.1) (u.2.2.2.2.1) (u.2.2.2.2.2) costs wanted tlen onlyF found steps plen rowW rowS tally) t.heap) (nx_A a 24 sz)) 0 0 (nx_A a 24 sz) := by
  refine nx_enI (fun v u => (v, u) = o) (fun (u : Int32 × (Nat → Int32) × (Nat → Int32) × (Nat → Int32) × (Nat → Int32) × (Nat → Int64)) => (cW E a size on kinds marks nb (u.1) (u.2.1) (u.2.2.1) (u.2.2.2.1) (u.2.2.2.2.1) (u.2.2.2.2.2) costs wanted tlen onlyF found steps plen rowW rowS tally)) (by decide) (Nat.le_of_ble_eq_true rfl) ?_
  intro p e s m below meth c Q X kr hsz hP ls hl
  subst hsz
  generalize hargs : (List.toArray [.ref (a 21), .int x1] : Array Value) = args at X kr ⊢
  clear hargs
  obtain ⟨⟨hx, hb, hml, hown, hts⟩, hK, hSt, hNz⟩ := id X
  have hS : va_S (nx_A a 24 s.heap.size) s.heap s.heap [] := va_S.rf
  have hl : lv_has ls 5 [(0, .ref (a 21)), (1, .int x1)] := hl
  have L13 : ∀ (dist : Nat → Int32) (reached : Int32) (lastW : Nat → Int32) (par : Nat → Int32) (ord : Nat → Int32) (paths : Nat → Int64) (n : Nat) (x2 : Int32) (x3 : Int32) (x4 : Int32) (z : (Int32)), f_X1_farthestPlace_l13 size on dist n (x2, x3, x4) = some z → ∀ (H : Heap) (locs : List Loc) (ls : Array Slot), va_P E.1 vwCl (cW E a size on kinds marks nb reached dist lastW par ord paths costs wanted tlen onlyF found steps plen rowW rowS tally) H → va_S (nx_A a 24 s.heap.size) s.heap H locs → lv_has ls 5 [(0, .ref (a 21)), (2, .int x2), (3, .int x3), (4, .int x4)] → ∀ (kR : ∀ (H : Heap) (locs : List Loc) (ls : Array Slot), va_P E.1 vwCl (cW E a size on kinds marks nb reached dist lastW par ord paths costs wanted tlen onlyF found steps plen rowW rowS tally) H → va_S (nx_A a 24 s.heap.size) s.heap H locs → lv_has ls 5 [(0, .ref (a 21)), (2, .int z)] → W p l e (nx_rm 5 123) s m args below meth c H locs 0 0 Q (F0 m 48 ls [])), W p l e (nx_rm 5 123) s m args below meth c H locs 0 0 Q (F0 m 13 ls []) := by
   intro dist reached lastW par ord paths n
   induction n with
   | zero => intro x2 x3 x4 z h; exact nomatch (show none = some z from h)
   | succ n ih =>
    intro x2 x3 x4 z h H locs ls hP hS hl kR
    have h : f_X1_farthestPlace_b13 size on dist (f_X1_farthestPlace_l13 size on dist n) x2 x3 x4 = some z := h
    unfold f_X1_farthestPlace_b13 at h
    refine lv_iload hx hb dX1_farthestPlace_13 (lv_at hl 3 rfl) ?_
    refine lv_aload_n hx hb dX1_farthestPlace_15 rfl (lv_at hl 0 rfl) ?_
    obtain ⟨r_2, hc_1, h⟩ := nx_bd h
    refine nx_ki (nx_runV (As := []) (rest := [.int x4]) X hS hP (c_X1_allPlaces l E H.size a size on kinds marks nb reached dist lastW par ord paths costs wanted tlen onlyF found steps plen rowW rowS tally _ hc_1) nx_FA qV_RX1_41 ⟨rfl, rfl⟩ ⟨Nat.le_of_ble_eq_true rfl, Nat.le_of_ble_eq_true rfl⟩ ⟨Nat.zero_le _, Nat.zero_le _⟩ 21 rfl rfl rfl rfl hl.1 (Nat.le_of_ble_eq_true rfl) dX1_farthestPlace_16) hS nx_FA (fun H locs hP hS => ?_)
    refine lv_icmp_ge (tgt := 48) hx hb dX1_farthestPlace_19 (by decide) (fun hc => ?_) (fun hc => ?_)
    · have h := nx_it h hc
      obtain rfl := Option.some.inj h
      exact kR H locs ls hP hS (lv_sub hl [0, 1] rfl)
    · have h := nx_if h hc
      refine lv_aload_n hx hb dX1_farthestPlace_22 rfl (lv_at hl 0 rfl) ?_
      refine lv_iload hx hb dX1_farthestPlace_23 (lv_at hl 3 rfl) ?_
      obtain ⟨r_4, hc_3, h⟩ := nx_bd h
      refine nx_ki (nx_runV (As := [.int x4]) (rest := []) X hS hP (c_X1_distanceHome l E H.size a size on kinds marks nb reached dist lastW par ord paths costs wanted tlen onlyF found steps plen rowW rowS tally x4 _ hc_3) nx_FA qV_RX1_87 ⟨rfl, rfl⟩ ⟨Nat.le_of_ble_eq_true rfl, Nat.le_of_ble_eq_true rfl⟩ ⟨Nat.zero_le _, Nat.zero_le _⟩ 21 rfl rfl rfl rfl hl.1 (Nat.le_of_ble_eq_true rfl) dX1_farthestPlace_25) hS nx_FA (fun H locs hP hS => ?_)
      refine lv_iload_n hx hb dX1_farthestPlace_28 rfl (lv_at hl 2 rfl) ?_
      refine lv_icmp_le (tgt := 42) hx hb dX1_farthestPlace_29 (by decide) (fun hc => ?_) (fun hc => ?_)
      · have h := nx_it h hc
        refine lv_iinc (v := (x4 + 1)) (lv' := [(4, .int (x4 + 1)), (0, .ref (a 21)), (2, .int x2), (3, .int x3)]) hx hb dX1_farthestPlace_42 hl (k := 3) rfl rfl (by decide) rfl (fun ls hl => ?_)
        refine lv_goto (tgt := 13) hx hb dX1_farthestPlace_45 (by decide) ?_
        exact ih _ _ _ z h H locs ls hP hS (lv_sub hl [1, 2, 3, 0] rfl) kR
      · have h := nx_if h hc
        refine lv_iload hx hb dX1_farthestPlace_32 (lv_at hl 3 rfl) ?_
        refine lv_istore_n (lv' := [(2, .int x4), (0, .ref (a 21)), (3, .int x3), (4, .int x4)]) hx hb dX1_farthestPlace_34 rfl hl (by decide) rfl (fun ls hl => ?_)
        refine lv_aload_n hx hb dX1_farthestPlace_35 rfl (lv_at hl 1 rfl) ?_
        refine lv_iload hx hb dX1_farthestPlace_36 (lv_at hl 3 rfl) ?_
        obtain ⟨r_6, hc_5, h⟩ := nx_bd h
        refine nx_ki (nx_runV (As := [.int x4]) (rest := []) X hS hP (c_X1_distanceHome l E H.size a size on kinds marks nb reached dist lastW par ord paths costs wanted tlen onlyF found steps plen rowW rowS tally x4 _ hc_5) nx_FA qV_RX1_87 ⟨rfl, rfl⟩ ⟨Nat.le_of_ble_eq_true rfl, Nat.le_of_ble_eq_true rfl⟩ ⟨Nat.zero_le _, Nat.zero_le _⟩ 21 rfl rfl rfl rfl hl.1 (Nat.le_of_ble_eq_true rfl) dX1_farthestPlace_38) hS nx_FA (fun H locs hP hS => ?_)
        refine lv_istore_n (lv' := [(3, .int r_6), (2, .int x4), (0, .ref (a 21)), (4, .int x4)]) hx hb dX1_farthestPlace_41 rfl hl (by decide) rfl (fun ls hl => ?_)
        refine lv_iinc (v := (x4 + 1)) (lv' := [(4, .int (x4 + 1)), (3, .int r_6), (2, .int x4), (0, .ref (a 21))]) hx hb dX1_farthestPlace_42 hl (k := 3) rfl rfl (by decide) rfl (fun ls hl => ?_)
        refine lv_goto (tgt := 13) hx hb dX1_farthestPlace_45 (by decide) ?_
        exact ih _ _ _ z h H locs ls hP hS (lv_sub hl [3, 2, 1, 0] rfl) kR
  unfold f_X1_farthestPlace at h
  suffices hw : ∀ (H : Heap) (locs : List Loc), va_P E.1 vwCl (cW E a size on kinds marks nb reached dist lastW par ord paths costs wanted tlen onlyF found steps plen rowW rowS tally) H → va_S (nx_A a 24 s.heap.size) s.heap H locs → W p l e (nx_rm 5 123) s m args below meth c H locs 0 0 Q (F0 m 0 ls []) from hw _ _ hP va_S.rf
  intro H locs hP hS
  refine lv_aload_n hx hb dX1_farthestPlace_0 rfl (lv_at hl 0 rfl) ?_
  refine lv_iload_n hx hb dX1_farthestPlace_1 rfl (lv_at hl 1 rfl) ?_
  obtain ⟨⟨k_8, k_9, k_10, k_11, k_12, k_13⟩, hc_7, h⟩ := nx_bd h
  refine nx_kv (nx_runV (As := [.int x1]) (rest := []) X hS hP (c_X1_spreadBack l N E H.size a size on kinds marks nb reached dist lastW par ord paths costs wanted tlen onlyF found steps plen rowW rowS tally x1 hI _ hc_7) (nx_Am hS.1) qV_RX1_83 ⟨rfl, rfl⟩ ⟨Nat.le_of_ble_eq_true rfl, Nat.le_of_ble_eq_true rfl⟩ ⟨Nat.zero_le _, Nat.zero_le _⟩ 21 rfl rfl rfl rfl hl.1 (Nat.le_of_ble_eq_true rfl) dX1_farthestPlace_2) hS (nx_Am hS.1) (fun H locs hP hS => ?_)
  have hP : va_P E.1 vwCl (cW E a size on kinds marks nb k_8 k_9 k_10 k_11 k_12 k_13 costs wanted tlen onlyF found steps plen rowW rowS tally) H := hP
  refine lv_bipush (v := (-9)) hx hb dX1_farthestPlace_5 (by decide) ?_
  refine lv_istore_n (lv' := [(2, .int (-9)), (0, .ref (a 21)), (1, .int x1)]) hx hb dX1_farthestPlace_7 rfl hl (by decide) rfl (fun ls hl => ?_)
  refine lv_iconst (v := (-1)) hx hb dX1_farthestPlace_8 (by decide) ?_
  refine lv_istore_n (lv' := [(3, .int (-1)), (2, .int (-9)), (0, .ref (a 21)), (1, .int x1)]) hx hb dX1_farthestPlace_9 rfl hl (by decide) rfl (fun ls hl => ?_)
  refine lv_iconst (v := 0) hx hb dX1_farthestPlace_10 (by decide) ?_
  refine lv_istore (lv' := [(4, .int 0), (3, .int (-1)), (2, .int (-9)), (0, .ref (a 21)), (1, .int x1)]) hx hb dX1_farthestPlace_11 hl (by decide) rfl (fun ls hl => ?_)
  obtain ⟨z_15, hz_16, h⟩ := nx_bd h
  refine L13 _ _ _ _ _ _ N _ _ _ _ hz_16 H locs ls hP hS (lv_sub hl [3, 2, 1, 0] rfl) (fun H locs ls hP hS hl => ?_)
  refine lv_iload_n hx hb dX1_farthestPlace_48 rfl (lv_at hl 1 rfl) ?_
  exact kr 49 ls z_15 (k_8, k_9, k_10, k_11, k_12, k_13) H locs dX1_farthestPlace_49 (Option.some.inj h) hP hS
def f_X1_placesWhence_j32 (rec : (Int32 × Int32) → Option (Int32)) (x3 : Int32) (s0 : Int32) (s1 : Int32) : Option (Int32) :=
  (f_X10_oneIf s0).bind fun r_2 => rec ((s1 + r_2), (x3 + 1))
def f_X1_placesWhence_b9 (size : Int32) (on : Int32) (dist : Nat → Int32) (rec : (Int32 × Int32) → Option (Int32)) (x2 : Int32) (x3 : Int32) : Option (Int32) :=
  (f_X1_allPlaces size).bind fun r_4 => if r_4 ≤ x3 then (some x2) else ((f_X1_distanceHome x3 on dist).bind fun r_6 => if r_6 = (-1) then (f_X1_placesWhence_j32 rec x3 0 x2) else (f_X1_placesWhence_j32 rec x3 1 x2))
def f_X1_placesWhence_l9 (size : Int32) (on : Int32) (dist : Nat → Int32) : Nat → (Int32 × Int32) → Option (Int32) := nx_lp (fun rec z => f_X1_placesWhence_b9 size on dist rec z.1 z.2)
def f_X1_placesWhence (N : Nat) (x1 : Int32) (size : Int32) (on : Int32) (kinds : Nat → Int32) (nb : Nat → Int32) (reached : Int32) (dist : Nat → Int32) (lastW : Nat → Int32) (par : Nat → Int32) (ord : Nat → Int32) (paths : Nat → Int64) : Option (Int32 × (Int32 × (Nat → Int32) × (Nat → Int32) × (Nat → Int32) × (Nat → Int32) × (Nat → Int64))) :=
  (f_X1_spreadBack N x1 size kinds nb reached dist lastW par ord paths).bind fun t_14 => (f_X1_placesWhence_l9 size on t_14.2.1 N (0, 0)).bind fun z_15 => some (z_15, (t_14.1, t_14.2.1, t_14.2.2.1, t_14.2.2.2.1, t_14.2.2.2.2.1, t_14.2.2.2.2.2))
set_option maxHeartbeats 4000000 in
set_option maxRecDepth 100000 in
theorem c_X1_placesWhence (l : Launch) (N : Nat) (E : nx_E) (sz : Nat) (a : Nat → Nat) (size : Int32) (on : Int32) (kinds : Nat → Int32) (marks : Nat → Int32) (nb : Nat → Int32) (reached : Int32) (dist : Nat → Int32) (lastW : Nat → Int32) (par : Nat → Int32) (ord : Nat → Int32) (paths : Nat → Int64) (costs : Nat → Int32) (wanted : Int32) (tlen : Int32) (onlyF : Int32) (found : Int32) (steps : Nat → Int32) (plen : Int32) (rowW : Nat → Int32) (rowS : Nat → Int32) (tally : Nat → Int32) (x1 : Int32) (hI : nx_inj a 24) (o : Int32 × (Int32 × (Nat → Int32) × (Nat → Int32) × (Nat → Int32) × (Nat → Int32) × (Nat → Int64))) (h : f_X1_placesWhence N x1 size on kinds nb reached dist lastW par ord paths = some o) : Met l yX1_placesWhence (.code yX1_placesWhence cX1_placesWhence 4 (some .int) :: nx_T) (nx_rm 5 123) (va_Pc [.ref (a 21), .int x1] (nx_P E (nx_A a 24 sz) sz (cW E a size on kinds marks nb reached dist lastW par ord paths costs wanted tlen onlyF found steps plen rowW rowS tally))) (va_Qi (fun v u => (v, u) = o) (fun u t => va_P E.1 vwCl (cW E a size on kinds marks nb (u.1) (u.2.1) (u.2.2.1) (u.2.2.2.1) (u.2.2.2.2.1) (u.2.2.2.2.2) costs wanted tlen onlyF found steps plen rowW rowS tally) t.heap) (nx_A a 24 sz)) 0 0 (nx_A a 24 sz) := by
  refine nx_enI (fun v u => (v, u) = o) (fun (u : Int32 × (Nat → Int32) × (Nat → Int32) × (Nat → Int32) × (Nat → Int32) × (Nat → Int64)) => (cW E a size on kinds marks nb (u.1) (u.2.1) (u.2.2.1) (u.2.2.2.1) (u.2.2.2.2.1) (u.2.2.2.2.2) costs wanted tlen onlyF found steps plen rowW rowS tally)) (by decide) (Nat.le_of_ble_eq_true rfl) ?_
  intro p e s m below meth c Q X kr hsz hP ls hl
  subst hsz
  generalize hargs : (List.toArray [.ref (a 21), .int x1] : Array Value) = args at X kr ⊢
  clear hargs
  obtain ⟨⟨hx, hb, hml, hown, hts⟩, hK, hSt, hNz⟩ := id X
  have hS : va_S (nx_A a 24 s.heap.size) s.heap s.heap [] := va_S.rf
  have hl : lv_has ls 4 [(0, .ref (a 21)), (1, .int x1)] := hl
  have L9 : ∀ (dist : Nat → Int32) (reached : Int32) (lastW : Nat → Int32) (par : Nat → Int32) (ord : Nat → Int32) (paths : Nat → Int64) (n : Nat) (x2 : Int32) (x3 : Int32) (z : (Int32)), f_X1_placesWhence_l9 size on dist n (x2, x3) = some z → ∀ (H : Heap) (locs : List Loc) (ls : Array Slot), va_P E.1 vwCl (cW E a size on kinds marks nb reached dist lastW par ord paths costs wanted tlen onlyF found steps plen rowW rowS tally) H → va_S (nx_A a 24 s.heap.size) s.heap H locs → lv_has ls 4 [(0, .ref (a 21)), (2, .int x2), (3, .int x3)] → ∀ (kR : ∀ (H : Heap) (locs : List Loc) (ls : Array Slot), va_P E.1 vwCl (cW E a size on kinds marks nb reached dist lastW par ord paths costs wanted tlen onlyF found steps plen rowW rowS tally) H → va_S (nx_A a 24 s.heap.size) s.heap H locs → lv_has ls 4 [(0, .ref (a 21)), (2, .int z)] → W p l e (nx_rm 5 123) s m args below meth c H locs 0 0 Q (F0 m 43 ls [])), W p l e (nx_rm 5 123) s m args below meth c H locs 0 0 Q (F0 m 9 ls []) := by
   intro dist reached lastW par ord paths n
   induction n with
   | zero => intro x2 x3 z h; exact nomatch (show none = some z from h)
   | succ n ih =>
    intro x2 x3 z h H locs ls hP hS hl kR
    have h : f_X1_placesWhence_b9 size on dist (f_X1_placesWhence_l9 size on dist n) x2 x3 = some z := h
    have J32 : ∀ (x3 : Int32) (s0 : Int32) (s1 : Int32), f_X1_placesWhence_j32 (f_X1_placesWhence_l9 size on dist n) x3 s0 s1 = some z → ∀ (H : Heap) (locs : List Loc) (ls : Array Slot), va_P E.1 vwCl (cW E a size on kinds marks nb reached dist lastW par ord paths costs wanted tlen onlyF found steps plen rowW rowS tally) H → va_S (nx_A a 24 s.heap.size) s.heap H locs → lv_has ls 4 [(0, .ref (a 21)), (3, .int x3)] → W p l e (nx_rm 5 123) s m args below meth c H locs 0 0 Q (F0 m 32 ls [.int s0, .int s1]) := by
      intro x3 s0 s1 h H locs ls hP hS hl
      unfold f_X1_placesWhence_j32 at h
      obtain ⟨r_2, hc_1, h⟩ := nx_bd h
      refine nx_ki (nx_runN (As := [.int s0]) (rest := [.int s1]) X hS hP (c_X10_oneIf l E H.size _ s0 _ hc_1) nx_FA qN_RX1_48 ⟨rfl, rfl⟩ ⟨Nat.le_of_ble_eq_true rfl, Nat.le_of_ble_eq_true rfl⟩ ⟨Nat.zero_le _, Nat.zero_le _⟩ rfl rfl hl.1 (Nat.le_of_ble_eq_true rfl) dX1_placesWhence_32) hS nx_FA (fun H locs hP hS => ?_)
      refine lv_iadd hx hb dX1_placesWhence_35 ?_
      refine lv_istore_n (lv' := [(2, .int (s1 + r_2)), (0, .ref (a 21)), (3, .int x3)]) hx hb dX1_placesWhence_36 rfl hl (by decide) rfl (fun ls hl => ?_)
      refine lv_iinc (v := (x3 + 1)) (lv' := [(3, .int (x3 + 1)), (2, .int (s1 + r_2)), (0, .ref (a 21))]) hx hb dX1_placesWhence_37 hl (k := 2) rfl rfl (by decide) rfl (fun ls hl => ?_)
      refine lv_goto (tgt := 9) hx hb dX1_placesWhence_40 (by decide) ?_
      exact ih _ _ z h H locs ls hP hS (lv_sub hl [2, 1, 0] rfl) kR
    unfold f_X1_placesWhence_b9 at h
    refine lv_iload_n hx hb dX1_placesWhence_9 rfl (lv_at hl 2 rfl) ?_
    refine lv_aload_n hx hb dX1_placesWhence_10 rfl (lv_at hl 0 rfl) ?_
    obtain ⟨r_4, hc_3, h⟩ := nx_bd h
    refine nx_ki (nx_runV (As := []) (rest := [.int x3]) X hS hP (c_X1_allPlaces l E H.size a size on kinds marks nb reached dist lastW par ord paths costs wanted tlen onlyF found steps plen rowW rowS tally _ hc_3) nx_FA qV_RX1_41 ⟨rfl, rfl⟩ ⟨Nat.le_of_ble_eq_true rfl, Nat.le_of_ble_eq_true rfl⟩ ⟨Nat.zero_le _, Nat.zero_le _⟩ 21 rfl rfl rfl rfl hl.1 (Nat.le_of_ble_eq_true rfl) dX1_placesWhence_11) hS nx_FA (fun H locs hP hS => ?_)
    refine lv_icmp_ge (tgt := 43) hx hb dX1_placesWhence_14 (by decide) (fun hc => ?_) (fun hc => ?_)
    · have h := nx_it h hc
      obtain rfl := Option.some.inj h
      exact kR H locs ls hP hS (lv_sub hl [0, 1] rfl)
    · have h := nx_if h hc
      refine lv_iload_n hx hb dX1_placesWhence_17 rfl (lv_at hl 1 rfl) ?_
      refine lv_aload_n hx hb dX1_placesWhence_18 rfl (lv_at hl 0 rfl) ?_
      refine lv_iload_n hx hb dX1_placesWhence_19 rfl (lv_at hl 2 rfl) ?_
      obtain ⟨r_6, hc_5, h⟩ := nx_bd h
      refine nx_ki (nx_runV (As := [.int x3]) (rest := [.int x2]) X hS hP (c_X1_distanceHome l E H.size a size on kinds marks nb reached dist lastW par ord paths costs wanted tlen onlyF found steps plen rowW rowS tally x3 _ hc_5) nx_FA qV_RX1_87 ⟨rfl, rfl⟩ ⟨Nat.le_of_ble_eq_true rfl, Nat.le_of_ble_eq_true rfl⟩ ⟨Nat.zero_le _, Nat.zero_le _⟩ 21 rfl rfl rfl rfl hl.1 (Nat.le_of_ble_eq_true rfl) dX1_placesWhence_20) hS nx_FA (fun H locs hP hS => ?_)
      refine lv_iconst (v := (-1)) hx hb dX1_placesWhence_23 (by decide) ?_
      refine lv_icmp_eq (tgt := 31) hx hb dX1_placesWhence_24 (by decide) (fun hc => ?_) (fun hc => ?_)
      · have h := nx_it h hc
        refine lv_iconst (v := 0) hx hb dX1_placesWhence_31 (by decide) ?_
        exact J32 _ _ _ h H locs ls hP hS (lv_sub hl [0, 2] rfl)
      · have h := nx_if h hc
        refine lv_iconst (v := 1) hx hb dX1_placesWhence_27 (by decide) ?_
        refine lv_goto (tgt := 32) hx hb dX1_placesWhence_28 (by decide) ?_
        exact J32 _ _ _ h H locs ls hP hS (lv_sub hl [0, 2] rfl)
  unfold f_X1_placesWhence at h
  suffices hw : ∀ (H : Heap) (locs : List Loc), va_P E.1 vwCl (cW E a size on kinds marks nb reached dist lastW par ord paths costs wanted tlen onlyF found steps plen rowW rowS tally) H → va_S (nx_A a 24 s.heap.size) s.heap H locs → W p l e (nx_rm 5 123) s m args below meth c H locs 0 0 Q (F0 m 0 ls []) from hw _ _ hP va_S.rf
  intro H locs hP hS
  refine lv_aload_n hx hb dX1_placesWhence_0 rfl (lv_at hl 0 rfl) ?_
  refine lv_iload_n hx hb dX1_placesWhence_1 rfl (lv_at hl 1 rfl) ?_
  obtain ⟨⟨k_8, k_9, k_10, k_11, k_12, k_13⟩, hc_7, h⟩ := nx_bd h
  refine nx_kv (nx_runV (As := [.int x1]) (rest := []) X hS hP (c_X1_spreadBack l N E H.size a size on kinds marks nb reached dist lastW par ord paths costs wanted tlen onlyF found steps plen rowW rowS tally x1 hI _ hc_7) (nx_Am hS.1) qV_RX1_83 ⟨rfl, rfl⟩ ⟨Nat.le_of_ble_eq_true rfl, Nat.le_of_ble_eq_true rfl⟩ ⟨Nat.zero_le _, Nat.zero_le _⟩ 21 rfl rfl rfl rfl hl.1 (Nat.le_of_ble_eq_true rfl) dX1_placesWhence_2) hS (nx_Am hS.1) (fun H locs hP hS => ?_)
  have hP : va_P E.1 vwCl (cW E a size on kinds marks nb k_8 k_9 k_10 k_11 k_12 k_13 costs wanted tlen onlyF found steps plen rowW rowS tally) H := hP
  refine lv_iconst (v := 0) hx hb dX1_placesWhence_5 (by decide) ?_
  refine lv_istore_n (lv' := [(2, .int 0), (0, .ref (a 21)), (1, .int x1)]) hx hb dX1_placesWhence_6 rfl hl (by decide) rfl (fun ls hl => ?_)
  refine lv_iconst (v := 0) hx hb dX1_placesWhence_7 (by decide) ?_
  refine lv_istore_n (lv' := [(3, .int 0), (2, .int 0), (0, .ref (a 21)), (1, .int x1)]) hx hb dX1_placesWhence_8 rfl hl (by decide) rfl (fun ls hl => ?_)
  obtain ⟨z_15, hz_16, h⟩ := nx_bd h
  refine L9 _ _ _ _ _ _ N _ _ _ hz_16 H locs ls hP hS (lv_sub hl [2, 1, 0] rfl) (fun H locs ls hP hS hl => ?_)
  refine lv_iload_n hx hb dX1_placesWhence_43 rfl (lv_at hl 1 rfl) ?_
  exact kr 44 ls z_15 (k_8, k_9, k_10, k_11, k_12, k_13) H locs dX1_placesWhence_44 (Option.some.inj h) hP hS
def f_X10_whence (N : Nat) (x1 : Int32) (x2 : Int32) (size : Int32) (on : Int32) (kinds : Nat → Int32) (nb : Nat → Int32) (reached : Int32) (dist : Nat → Int32) (lastW : Nat → Int32) (par : Nat → Int32) (ord : Nat → Int32) (paths : Nat → Int64) : Option (Int32 × (Int32 × (Nat → Int32) × (Nat → Int32) × (Nat → Int32) × (Nat → Int32) × (Nat → Int64))) :=
  (f_X2_has x1 size).bind fun r_2 => if r_2 = 0 then (some ((-1), (reached, dist, lastW, par, ord, paths))) else (if x2 = 0 then ((f_X1_placesWhence N x1 size on kinds nb reached dist lastW par ord paths).bind fun t_11 => some (t_11.1, (t_11.2.1, t_11.2.2.1, t_11.2.2.2.1, t_11.2.2.2.2.1, t_11.2.2.2.2.2.1, t_11.2.2.2.2.2.2))) else ((f_X1_farthestPlace N x1 size on kinds nb reached dist lastW par ord paths).bind fun t_20 => some (t_20.1, (t_20.2.1, t_20.2.2.1, t_20.2.2.2.1, t_20.2.2.2.2.1, t_20.2.2.2.2.2.1, t_20.2.2.2.2.2.2))))
set_option maxHeartbeats 4000000 in
set_option maxRecDepth 100000 in
theorem c_X10_whence (l : Launch) (N : Nat) (E : nx_E) (sz : Nat) (a : Nat → Nat) (size : Int32) (on : Int32) (kinds : Nat → Int32) (marks : Nat → Int32) (nb : Nat → Int32) (reached : Int32) (dist : Nat → Int32) (lastW : Nat → Int32) (par : Nat → Int32) (ord : Nat → Int32) (paths : Nat → Int64) (costs : Nat → Int32) (wanted : Int32) (tlen : Int32) (onlyF : Int32) (found : Int32) (steps : Nat → Int32) (plen : Int32) (rowW : Nat → Int32) (rowS : Nat → Int32) (tally : Nat → Int32) (x1 : Int32) (x2 : Int32) (hI : nx_inj a 24) (o : Int32 × (Int32 × (Nat → Int32) × (Nat → Int32) × (Nat → Int32) × (Nat → Int32) × (Nat → Int64))) (h : f_X10_whence N x1 x2 size on kinds nb reached dist lastW par ord paths = some o) : Met l yX10_whence (.code yX10_whence cX10_whence 3 (some .int) :: nx_T) (nx_rm 6 147) (va_Pc [.ref (a 0), .int x1, .int x2] (nx_P E (nx_A a 24 sz) sz (cW E a size on kinds marks nb reached dist lastW par ord paths costs wanted tlen onlyF found steps plen rowW rowS tally))) (va_Qi (fun v u => (v, u) = o) (fun u t => va_P E.1 vwCl (cW E a size on kinds marks nb (u.1) (u.2.1) (u.2.2.1) (u.2.2.2.1) (u.2.2.2.2.1) (u.2.2.2.2.2) costs wanted tlen onlyF found steps plen rowW rowS tally) t.heap) (nx_A a 24 sz)) 0 0 (nx_A a 24 sz) := by
  refine nx_enI (fun v u => (v, u) = o) (fun (u : Int32 × (Nat → Int32) × (Nat → Int32) × (Nat → Int32) × (Nat → Int32) × (Nat → Int64)) => (cW E a size on kinds marks nb (u.1) (u.2.1) (u.2.2.1) (u.2.2.2.1) (u.2.2.2.2.1) (u.2.2.2.2.2) costs wanted tlen onlyF found steps plen rowW rowS tally)) (by decide) (Nat.le_of_ble_eq_true rfl) ?_
  intro p e s m below meth c Q X kr hsz hP ls hl
  subst hsz
  generalize hargs : (List.toArray [.ref (a 0), .int x1, .int x2] : Array Value) = args at X kr ⊢
  clear hargs
  obtain ⟨⟨hx, hb, hml, hown, hts⟩, hK, hSt, hNz⟩ := id X
  have hS : va_S (nx_A a 24 s.heap.size) s.heap s.heap [] := va_S.rf
  have hl : lv_has ls 3 [(0, .ref (a 0)), (1, .int x1), (2, .int x2)] := hl
  unfold f_X10_whence at h
  suffices hw : ∀ (H : Heap) (locs : List Loc), va_P E.1 vwCl (cW E a size on kinds marks nb reached dist lastW par ord paths costs wanted tlen onlyF found steps plen rowW rowS tally) H → va_S (nx_A a 24 s.heap.size) s.heap H locs → W p l e (nx_rm 6 147) s m args below meth c H locs 0 0 Q (F0 m 0 ls []) from hw _ _ hP va_S.rf
  intro H locs hP hS
  refine lv_aload_n hx hb dX10_whence_0 rfl (lv_at hl 0 rfl) ?_
  refine nx_gf X hP uw_X10 (ci := 9) rfl 0 rfl 0 (by decide) wf_RX10_12 rfl dX10_whence_1 ?_
  refine lv_iload_n hx hb dX10_whence_4 rfl (lv_at hl 1 rfl) ?_
  obtain ⟨r_2, hc_1, h⟩ := nx_bd h
  refine nx_ki (nx_runV (As := [.int x1]) (rest := []) X hS hP (c_X2_has l E H.size a size on kinds marks nb reached dist lastW par ord paths costs wanted tlen onlyF found steps plen rowW rowS tally x1 _ hc_1) nx_FA qV_RX10_85 ⟨rfl, rfl⟩ ⟨Nat.le_of_ble_eq_true rfl, Nat.le_of_ble_eq_true rfl⟩ ⟨Nat.zero_le _, Nat.zero_le _⟩ 1 rfl rfl rfl rfl hl.1 (Nat.le_of_ble_eq_true rfl) dX10_whence_5) hS nx_FA (fun H locs hP hS => ?_)
  refine lv_if_ne (tgt := 13) hx hb dX10_whence_8 (by decide) (fun hc => ?_) (fun hc => ?_)
  · have h := nx_if h hc
    refine lv_iload_n hx hb dX10_whence_13 rfl (lv_at hl 2 rfl) ?_
    refine lv_if_eq (tgt := 28) hx hb dX10_whence_14 (by decide) (fun hc => ?_) (fun hc => ?_)
    · have h := nx_it h hc
      refine lv_aload_n hx hb dX10_whence_28 rfl (lv_at hl 0 rfl) ?_
      refine nx_gf X hP uw_X10 (ci := 9) rfl 0 rfl 7 (by decide) wf_RX10_69 rfl dX10_whence_29 ?_
      refine lv_iload_n hx hb dX10_whence_32 rfl (lv_at hl 1 rfl) ?_
      obtain ⟨⟨r_4, ⟨k_5, k_6, k_7, k_8, k_9, k_10⟩⟩, hc_3, h⟩ := nx_bd h
      refine nx_kwi (nx_runV (As := [.int x1]) (rest := []) X hS hP (c_X1_placesWhence l N E H.size a size on kinds marks nb reached dist lastW par ord paths costs wanted tlen onlyF found steps plen rowW rowS tally x1 hI _ hc_3) (nx_Am hS.1) qV_RX10_227 ⟨rfl, rfl⟩ ⟨Nat.le_of_ble_eq_true rfl, Nat.le_of_ble_eq_true rfl⟩ ⟨Nat.zero_le _, Nat.zero_le _⟩ 21 rfl rfl rfl rfl hl.1 (Nat.le_of_ble_eq_true rfl) dX10_whence_33) hS (nx_Am hS.1) (fun H locs hP hS => ?_)
      have hP : va_P E.1 vwCl (cW E a size on kinds marks nb k_5 k_6 k_7 k_8 k_9 k_10 costs wanted tlen onlyF found steps plen rowW rowS tally) H := hP
      exact kr 36 ls r_4 (k_5, k_6, k_7, k_8, k_9, k_10) H locs dX10_whence_36 (Option.some.inj h) hP hS
    · have h := nx_if h hc
      refine lv_aload_n hx hb dX10_whence_17 rfl (lv_at hl 0 rfl) ?_
      refine nx_gf X hP uw_X10 (ci := 9) rfl 0 rfl 7 (by decide) wf_RX10_69 rfl dX10_whence_18 ?_
      refine lv_iload_n hx hb dX10_whence_21 rfl (lv_at hl 1 rfl) ?_
      obtain ⟨⟨r_13, ⟨k_14, k_15, k_16, k_17, k_18, k_19⟩⟩, hc_12, h⟩ := nx_bd h
      refine nx_kwi (nx_runV (As := [.int x1]) (rest := []) X hS hP (c_X1_farthestPlace l N E H.size a size on kinds marks nb reached dist lastW par ord paths costs wanted tlen onlyF found steps plen rowW rowS tally x1 hI _ hc_12) (nx_Am hS.1) qV_RX10_224 ⟨rfl, rfl⟩ ⟨Nat.le_of_ble_eq_true rfl, Nat.le_of_ble_eq_true rfl⟩ ⟨Nat.zero_le _, Nat.zero_le _⟩ 21 rfl rfl rfl rfl hl.1 (Nat.le_of_ble_eq_true rfl) dX10_whence_22) hS (nx_Am hS.1) (fun H locs hP hS => ?_)
      have hP : va_P E.1 vwCl (cW E a size on kinds marks nb k_14 k_15 k_16 k_17 k_18 k_19 costs wanted tlen onlyF found steps plen rowW rowS tally) H := hP
      refine lv_goto (tgt := 36) hx hb dX10_whence_25 (by decide) ?_
      exact kr 36 ls r_13 (k_14, k_15, k_16, k_17, k_18, k_19) H locs dX10_whence_36 (Option.some.inj h) hP hS
  · have h := nx_it h hc
    refine lv_iconst (v := (-1)) hx hb dX10_whence_11 (by decide) ?_
    exact kr 12 ls (-1) (reached, dist, lastW, par, ord, paths) H locs dX10_whence_12 (Option.some.inj h) hP hS
def f_X1_needs_j38 (x3 : Int32) (x4 : Int32) (s0 : Int32) (size : Int32) (kinds : Nat → Int32) (reached : Int32) (dist : Nat → Int32) (lastW : Nat → Int32) (par : Nat → Int32) (ord : Nat → Int32) (paths : Nat → Int64) : Option (Int32 × ((Nat → Int32) × Int32 × (Nat → Int32) × (Nat → Int32) × (Nat → Int32) × (Nat → Int32) × (Nat → Int64))) :=
  (f_X2_changeKind x3 x4 size kinds).bind fun t_4 => (nx_b s0).bind fun _ => some (s0, (t_4.2, reached, dist, lastW, par, ord, paths))
def f_X1_needs (N : Nat) (x1 : Int32) (x2 : Int32) (x3 : Int32) (size : Int32) (on : Int32) (kinds : Nat → Int32) (nb : Nat → Int32) (reached : Int32) (dist : Nat → Int32) (lastW : Nat → Int32) (par : Nat → Int32) (ord : Nat → Int32) (paths : Nat → Int64) : Option (Int32 × ((Nat → Int32) × Int32 × (Nat → Int32) × (Nat → Int32) × (Nat → Int32) × (Nat → Int32) × (Nat → Int64))) :=
  (f_X1_endOf N x1 x2 size on kinds nb reached dist lastW par ord paths).bind fun t_13 => if t_13.1 = (-1) then (some (0, (kinds, t_13.2.1, t_13.2.2.1, t_13.2.2.2.1, t_13.2.2.2.2.1, t_13.2.2.2.2.2.1, t_13.2.2.2.2.2.2))) else ((f_X2_changeKind x3 1 size kinds).bind fun t_17 => (f_X1_endOf N x1 x2 size on t_17.2 nb t_13.2.1 t_13.2.2.1 t_13.2.2.2.1 t_13.2.2.2.2.1 t_13.2.2.2.2.2.1 t_13.2.2.2.2.2.2).bind fun t_26 => if t_26.1 = (-1) then (f_X1_needs_j38 x3 t_17.1 1 size t_17.2 t_26.2.1 t_26.2.2.1 t_26.2.2.2.1 t_26.2.2.2.2.1 t_26.2.2.2.2.2.1 t_26.2.2.2.2.2.2) else (f_X1_needs_j38 x3 t_17.1 0 size t_17.2 t_26.2.1 t_26.2.2.1 t_26.2.2.2.1 t_26.2.2.2.2.1 t_26.2.2.2.2.2.1 t_26.2.2.2.2.2.2))
set_option maxHeartbeats 4000000 in
set_option maxRecDepth 100000 in
theorem c_X1_needs (l : Launch) (N : Nat) (E : nx_E) (sz : Nat) (a : Nat → Nat) (size : Int32) (on : Int32) (kinds : Nat → Int32) (marks : Nat → Int32) (nb : Nat → Int32) (reached : Int32) (dist : Nat → Int32) (lastW : Nat → Int32) (par : Nat → Int32) (ord : Nat → Int32) (paths : Nat → Int64) (costs : Nat → Int32) (wanted : Int32) (tlen : Int32) (onlyF : Int32) (found : Int32) (steps : Nat → Int32) (plen : Int32) (rowW : Nat → Int32) (rowS : Nat → Int32) (tally : Nat → Int32) (x1 : Int32) (x2 : Int32) (x3 : Int32) (hI : nx_inj a 24) (o : Int32 × ((Nat → Int32) × Int32 × (Nat → Int32) × (Nat → Int32) × (Nat → Int32) × (Nat → Int32) × (Nat → Int64))) (h : f_X1_needs N x1 x2 x3 size on kinds nb reached dist lastW par ord paths = some o) : Met l yX1_needs (.code yX1_needs cX1_needs 6 (some .boolean) :: nx_T) (nx_rm 5 125) (va_Pc [.ref (a 21), .int x1, .int x2, .int x3] (nx_P E (nx_A a 24 sz) sz (cW E a size on kinds marks nb reached dist lastW par ord paths costs wanted tlen onlyF found steps plen rowW rowS tally))) (va_Qi (fun v u => (v, u) = o) (fun u t => va_P E.1 vwCl (cW E a size on (u.1) marks nb (u.2.1) (u.2.2.1) (u.2.2.2.1) (u.2.2.2.2.1) (u.2.2.2.2.2.1) (u.2.2.2.2.2.2) costs wanted tlen onlyF found steps plen rowW rowS tally) t.heap) (nx_A a 24 sz)) 0 0 (nx_A a 24 sz) := by
  refine nx_enZ (fun v u => (v, u) = o) (fun (u : (Nat → Int32) × Int32 × (Nat → Int32) × (Nat → Int32) × (Nat → Int32) × (Nat → Int32) × (Nat → Int64)) => (cW E a size on (u.1) marks nb (u.2.1) (u.2.2.1) (u.2.2.2.1) (u.2.2.2.2.1) (u.2.2.2.2.2.1) (u.2.2.2.2.2.2) costs wanted tlen onlyF found steps plen rowW rowS tally)) (by decide) (Nat.le_of_ble_eq_true rfl) ?_
  intro p e s m below meth c Q X kr hsz hP ls hl
  subst hsz
  generalize hargs : (List.toArray [.ref (a 21), .int x1, .int x2, .int x3] : Array Value) = args at X kr ⊢
  clear hargs
  obtain ⟨⟨hx, hb, hml, hown, hts⟩, hK, hSt, hNz⟩ := id X
  have hS : va_S (nx_A a 24 s.heap.size) s.heap s.heap [] := va_S.rf
  have hl : lv_has ls 6 [(0, .ref (a 21)), (1, .int x1), (2, .int x2), (3, .int x3)] := hl
  have J38 : ∀ (x3 : Int32) (x4 : Int32) (s0 : Int32) (kinds : Nat → Int32) (reached : Int32) (dist : Nat → Int32) (lastW : Nat → Int32) (par : Nat → Int32) (ord : Nat → Int32) (paths : Nat → Int64), f_X1_needs_j38 x3 x4 s0 size kinds reached dist lastW par ord paths = some o → ∀ (H : Heap) (locs : List Loc) (ls : Array Slot), va_P E.1 vwCl (cW E a size on kinds marks nb reached dist lastW par ord paths costs wanted tlen onlyF found steps plen rowW rowS tally) H → va_S (nx_A a 24 s.heap.size) s.heap H locs → lv_has ls 6 [(0, .ref (a 21)), (3, .int x3), (4, .int x4)] → W p l e (nx_rm 5 125) s m args below meth c H locs 0 0 Q (F0 m 38 ls [.int s0]) := by
    intro x3 x4 s0 kinds reached dist lastW par ord paths h H locs ls hP hS hl
    unfold f_X1_needs_j38 at h
    refine lv_istore (lv' := [(5, .int s0), (0, .ref (a 21)), (3, .int x3), (4, .int x4)]) hx hb dX1_needs_38 hl (by decide) rfl (fun ls hl => ?_)
    refine lv_aload_n hx hb dX1_needs_40 rfl (lv_at hl 1 rfl) ?_
    refine nx_gf X hP uw_X1 (ci := 1) rfl 21 rfl 0 (by decide) wf_RX1_9 rfl dX1_needs_41 ?_
    refine lv_iload_n hx hb dX1_needs_44 rfl (lv_at hl 2 rfl) ?_
    refine lv_iload hx hb dX1_needs_45 (lv_at hl 3 rfl) ?_
    obtain ⟨⟨r_2, k_3⟩, hc_1, h⟩ := nx_bd h
    refine nx_kwi (nx_runV (As := [.int x3, .int x4]) (rest := []) X hS hP (c_X2_changeKind l E H.size a size on kinds marks nb reached dist lastW par ord paths costs wanted tlen onlyF found steps plen rowW rowS tally x3 x4 hI _ hc_1) (nx_Am hS.1) qV_RX1_80 ⟨rfl, rfl⟩ ⟨Nat.le_of_ble_eq_true rfl, Nat.le_of_ble_eq_true rfl⟩ ⟨Nat.zero_le _, Nat.zero_le _⟩ 1 rfl rfl rfl rfl hl.1 (Nat.le_of_ble_eq_true rfl) dX1_needs_47) hS (nx_Am hS.1) (fun H locs hP hS => ?_)
    have hP : va_P E.1 vwCl (cW E a size on k_3 marks nb reached dist lastW par ord paths costs wanted tlen onlyF found steps plen rowW rowS tally) H := hP
    refine lv_pop hx hb dX1_needs_50 rfl ?_
    refine lv_iload hx hb dX1_needs_51 (lv_at hl 0 rfl) ?_
    obtain ⟨hz, h⟩ := nx_bb h
    exact kr 53 ls s0 (k_3, reached, dist, lastW, par, ord, paths) H locs dX1_needs_53 hz (Option.some.inj h) hP hS
  unfold f_X1_needs at h
  suffices hw : ∀ (H : Heap) (locs : List Loc), va_P E.1 vwCl (cW E a size on kinds marks nb reached dist lastW par ord paths costs wanted tlen onlyF found steps plen rowW rowS tally) H → va_S (nx_A a 24 s.heap.size) s.heap H locs → W p l e (nx_rm 5 125) s m args below meth c H locs 0 0 Q (F0 m 0 ls []) from hw _ _ hP va_S.rf
  intro H locs hP hS
  refine lv_aload_n hx hb dX1_needs_0 rfl (lv_at hl 0 rfl) ?_
  refine lv_iload_n hx hb dX1_needs_1 rfl (lv_at hl 1 rfl) ?_
  refine lv_iload_n hx hb dX1_needs_2 rfl (lv_at hl 2 rfl) ?_
  obtain ⟨⟨r_6, ⟨k_7, k_8, k_9, k_10, k_11, k_12⟩⟩, hc_5, h⟩ := nx_bd h
  refine nx_kwi (nx_runV (As := [.int x1, .int x2]) (rest := []) X hS hP (c_X1_endOf l N E H.size a size on kinds marks nb reached dist lastW par ord paths costs wanted tlen onlyF found steps plen rowW rowS tally x1 x2 hI _ hc_5) (nx_Am hS.1) qV_RX1_63 ⟨rfl, rfl⟩ ⟨Nat.le_of_ble_eq_true rfl, Nat.le_of_ble_eq_true rfl⟩ ⟨Nat.zero_le _, Nat.zero_le _⟩ 21 rfl rfl rfl rfl hl.1 (Nat.le_of_ble_eq_true rfl) dX1_needs_3) hS (nx_Am hS.1) (fun H locs hP hS => ?_)
  have hP : va_P E.1 vwCl (cW E a size on kinds marks nb k_7 k_8 k_9 k_10 k_11 k_12 costs wanted tlen onlyF found steps plen rowW rowS tally) H := hP
  refine lv_iconst (v := (-1)) hx hb dX1_needs_6 (by decide) ?_
  refine lv_icmp_ne (tgt := 12) hx hb dX1_needs_7 (by decide) (fun hc => ?_) (fun hc => ?_)
  · have h := nx_if h hc
    refine lv_aload_n hx hb dX1_needs_12 rfl (lv_at hl 0 rfl) ?_
    refine nx_gf X hP uw_X1 (ci := 1) rfl 21 rfl 0 (by decide) wf_RX1_9 rfl dX1_needs_13 ?_
    refine lv_iload_n hx hb dX1_needs_16 rfl (lv_at hl 3 rfl) ?_
    refine lv_iconst (v := 1) hx hb dX1_needs_17 (by decide) ?_
    obtain ⟨⟨r_15, k_16⟩, hc_14, h⟩ := nx_bd h
    refine nx_kwi (nx_runV (As := [.int x3, .int 1]) (rest := []) X hS hP (c_X2_changeKind l E H.size a size on kinds marks nb k_7 k_8 k_9 k_10 k_11 k_12 costs wanted tlen onlyF found steps plen rowW rowS tally x3 1 hI _ hc_14) (nx_Am hS.1) qV_RX1_80 ⟨rfl, rfl⟩ ⟨Nat.le_of_ble_eq_true rfl, Nat.le_of_ble_eq_true rfl⟩ ⟨Nat.zero_le _, Nat.zero_le _⟩ 1 rfl rfl rfl rfl hl.1 (Nat.le_of_ble_eq_true rfl) dX1_needs_18) hS (nx_Am hS.1) (fun H locs hP hS => ?_)
    have hP : va_P E.1 vwCl (cW E a size on k_16 marks nb k_7 k_8 k_9 k_10 k_11 k_12 costs wanted tlen onlyF found steps plen rowW rowS tally) H := hP
    refine lv_istore (lv' := [(4, .int r_15), (0, .ref (a 21)), (1, .int x1), (2, .int x2), (3, .int x3)]) hx hb dX1_needs_21 hl (by decide) rfl (fun ls hl => ?_)
    refine lv_aload_n hx hb dX1_needs_23 rfl (lv_at hl 1 rfl) ?_
    refine lv_iload_n hx hb dX1_needs_24 rfl (lv_at hl 2 rfl) ?_
    refine lv_iload_n hx hb dX1_needs_25 rfl (lv_at hl 3 rfl) ?_
    obtain ⟨⟨r_19, ⟨k_20, k_21, k_22, k_23, k_24, k_25⟩⟩, hc_18, h⟩ := nx_bd h
    refine nx_kwi (nx_runV (As := [.int x1, .int x2]) (rest := []) X hS hP (c_X1_endOf l N E H.size a size on k_16 marks nb k_7 k_8 k_9 k_10 k_11 k_12 costs wanted tlen onlyF found steps plen rowW rowS tally x1 x2 hI _ hc_18) (nx_Am hS.1) qV_RX1_63 ⟨rfl, rfl⟩ ⟨Nat.le_of_ble_eq_true rfl, Nat.le_of_ble_eq_true rfl⟩ ⟨Nat.zero_le _, Nat.zero_le _⟩ 21 rfl rfl rfl rfl hl.1 (Nat.le_of_ble_eq_true rfl) dX1_needs_26) hS (nx_Am hS.1) (fun H locs hP hS => ?_)
    have hP : va_P E.1 vwCl (cW E a size on k_16 marks nb k_20 k_21 k_22 k_23 k_24 k_25 costs wanted tlen onlyF found steps plen rowW rowS tally) H := hP
    refine lv_iconst (v := (-1)) hx hb dX1_needs_29 (by decide) ?_
    refine lv_icmp_ne (tgt := 37) hx hb dX1_needs_30 (by decide) (fun hc => ?_) (fun hc => ?_)
    · have h := nx_if h hc
      refine lv_iconst (v := 0) hx hb dX1_needs_37 (by decide) ?_
      exact J38 _ _ _ _ _ _ _ _ _ _ h H locs ls hP hS (lv_sub hl [1, 4, 0] rfl)
    · have h := nx_it h hc
      refine lv_iconst (v := 1) hx hb dX1_needs_33 (by decide) ?_
      refine lv_goto (tgt := 38) hx hb dX1_needs_34 (by decide) ?_
      exact J38 _ _ _ _ _ _ _ _ _ _ h H locs ls hP hS (lv_sub hl [1, 4, 0] rfl)
  · have h := nx_it h hc
    refine lv_iconst (v := 0) hx hb dX1_needs_10 (by decide) ?_
    exact kr 11 ls 0 (kinds, k_7, k_8, k_9, k_10, k_11, k_12) H locs dX1_needs_11 (Or.inl rfl) (Option.some.inj h) hP hS
def f_X10_must (N : Nat) (x1 : Int32) (x2 : Int32) (x3 : Int32) (size : Int32) (on : Int32) (kinds : Nat → Int32) (nb : Nat → Int32) (reached : Int32) (dist : Nat → Int32) (lastW : Nat → Int32) (par : Nat → Int32) (ord : Nat → Int32) (paths : Nat → Int64) : Option (Int32 × ((Nat → Int32) × Int32 × (Nat → Int32) × (Nat → Int32) × (Nat → Int32) × (Nat → Int32) × (Nat → Int64))) :=
  (f_X10_isPlace x1 size).bind fun r_2 => if r_2 = 0 then (some ((-1), (kinds, reached, dist, lastW, par, ord, paths))) else ((f_X2_has x2 size).bind fun r_4 => if r_4 = 0 then (some ((-1), (kinds, reached, dist, lastW, par, ord, paths))) else ((f_X2_has x3 size).bind fun r_6 => if r_6 = 0 then (some ((-1), (kinds, reached, dist, lastW, par, ord, paths))) else ((f_X1_needs N x1 x2 x3 size on kinds nb reached dist lastW par ord paths).bind fun t_16 => (f_X10_oneIf t_16.1).bind fun r_18 => some (r_18, (t_16.2.1, t_16.2.2.1, t_16.2.2.2.1, t_16.2.2.2.2.1, t_16.2.2.2.2.2.1, t_16.2.2.2.2.2.2.1, t_16.2.2.2.2.2.2.2)))))
set_option maxHeartbeats 4000000 in
set_option maxRecDepth 100000 in
theorem c_X10_must (l : Launch) (N : Nat) (E : nx_E) (sz : Nat) (a : Nat → Nat) (size : Int32) (on : Int32) (kinds : Nat → Int32) (marks : Nat → Int32) (nb : Nat → Int32) (reached : Int32) (dist : Nat → Int32) (lastW : Nat → Int32) (par : Nat → Int32) (ord : Nat → Int32) (paths : Nat → Int64) (costs : Nat → Int32) (wanted : Int32) (tlen : Int32) (onlyF : Int32) (found : Int32) (steps : Nat → Int32) (plen : Int32) (rowW : Nat → Int32) (rowS : Nat → Int32) (tally : Nat → Int32) (x1 : Int32) (x2 : Int32) (x3 : Int32) (hI : nx_inj a 24) (o : Int32 × ((Nat → Int32) × Int32 × (Nat → Int32) × (Nat → Int32) × (Nat → Int32) × (Nat → Int32) × (Nat → Int64))) (h : f_X10_must N x1 x2 x3 size on kinds nb reached dist lastW par ord paths = some o) : Met l yX10_must (.code yX10_must cX10_must 4 (some .int) :: nx_T) (nx_rm 6 150) (va_Pc [.ref (a 0), .int x1, .int x2, .int x3] (nx_P E (nx_A a 24 sz) sz (cW E a size on kinds marks nb reached dist lastW par ord paths costs wanted tlen onlyF found steps plen rowW rowS tally))) (va_Qi (fun v u => (v, u) = o) (fun u t => va_P E.1 vwCl (cW E a size on (u.1) marks nb (u.2.1) (u.2.2.1) (u.2.2.2.1) (u.2.2.2.2.1) (u.2.2.2.2.2.1) (u.2.2.2.2.2.2) costs wanted tlen onlyF found steps plen rowW rowS tally) t.heap) (nx_A a 24 sz)) 0 0 (nx_A a 24 sz) := by
  refine nx_enI (fun v u => (v, u) = o) (fun (u : (Nat → Int32) × Int32 × (Nat → Int32) × (Nat → Int32) × (Nat → Int32) × (Nat → Int32) × (Nat → Int64)) => (cW E a size on (u.1) marks nb (u.2.1) (u.2.2.1) (u.2.2.2.1) (u.2.2.2.2.1) (u.2.2.2.2.2.1) (u.2.2.2.2.2.2) costs wanted tlen onlyF found steps plen rowW rowS tally)) (by decide) (Nat.le_of_ble_eq_true rfl) ?_
  intro p e s m below meth c Q X kr hsz hP ls hl
  subst hsz
  generalize hargs : (List.toArray [.ref (a 0), .int x1, .int x2, .int x3] : Array Value) = args at X kr ⊢
  clear hargs
  obtain ⟨⟨hx, hb, hml, hown, hts⟩, hK, hSt, hNz⟩ := id X
  have hS : va_S (nx_A a 24 s.heap.size) s.heap s.heap [] := va_S.rf
  have hl : lv_has ls 4 [(0, .ref (a 0)), (1, .int x1), (2, .int x2), (3, .int x3)] := hl
  unfold f_X10_must at h
  suffices hw : ∀ (H : Heap) (locs : List Loc), va_P E.1 vwCl (cW E a size on kinds marks nb reached dist lastW par ord paths costs wanted tlen onlyF found steps plen rowW rowS tally) H → va_S (nx_A a 24 s.heap.size) s.heap H locs → W p l e (nx_rm 6 150) s m args below meth c H locs 0 0 Q (F0 m 0 ls []) from hw _ _ hP va_S.rf
  intro H locs hP hS
  refine lv_aload_n hx hb dX10_must_0 rfl (lv_at hl 0 rfl) ?_
  refine lv_iload_n hx hb dX10_must_1 rfl (lv_at hl 1 rfl) ?_
  obtain ⟨r_2, hc_1, h⟩ := nx_bd h
  refine nx_ki (nx_runV (As := [.int x1]) (rest := []) X hS hP (c_X10_isPlace l E H.size a size on kinds marks nb reached dist lastW par ord paths costs wanted tlen onlyF found steps plen rowW rowS tally x1 _ hc_1) nx_FA qV_RX10_209 ⟨rfl, rfl⟩ ⟨Nat.le_of_ble_eq_true rfl, Nat.le_of_ble_eq_true rfl⟩ ⟨Nat.zero_le _, Nat.zero_le _⟩ 0 rfl rfl rfl rfl hl.1 (Nat.le_of_ble_eq_true rfl) dX10_must_2) hS nx_FA (fun H locs hP hS => ?_)
  refine lv_if_eq (tgt := 30) hx hb dX10_must_5 (by decide) (fun hc => ?_) (fun hc => ?_)
  · have h := nx_it h hc
    refine lv_iconst (v := (-1)) hx hb dX10_must_30 (by decide) ?_
    exact kr 31 ls (-1) (kinds, reached, dist, lastW, par, ord, paths) H locs dX10_must_31 (Option.some.inj h) hP hS
  · have h := nx_if h hc
    refine lv_aload_n hx hb dX10_must_8 rfl (lv_at hl 0 rfl) ?_
    refine nx_gf X hP uw_X10 (ci := 9) rfl 0 rfl 0 (by decide) wf_RX10_12 rfl dX10_must_9 ?_
    refine lv_iload_n hx hb dX10_must_12 rfl (lv_at hl 2 rfl) ?_
    obtain ⟨r_4, hc_3, h⟩ := nx_bd h
    refine nx_ki (nx_runV (As := [.int x2]) (rest := []) X hS hP (c_X2_has l E H.size a size on kinds marks nb reached dist lastW par ord paths costs wanted tlen onlyF found steps plen rowW rowS tally x2 _ hc_3) nx_FA qV_RX10_85 ⟨rfl, rfl⟩ ⟨Nat.le_of_ble_eq_true rfl, Nat.le_of_ble_eq_true rfl⟩ ⟨Nat.zero_le _, Nat.zero_le _⟩ 1 rfl rfl rfl rfl hl.1 (Nat.le_of_ble_eq_true rfl) dX10_must_13) hS nx_FA (fun H locs hP hS => ?_)
    refine lv_if_eq (tgt := 30) hx hb dX10_must_16 (by decide) (fun hc => ?_) (fun hc => ?_)
    · have h := nx_it h hc
      refine lv_iconst (v := (-1)) hx hb dX10_must_30 (by decide) ?_
      exact kr 31 ls (-1) (kinds, reached, dist, lastW, par, ord, paths) H locs dX10_must_31 (Option.some.inj h) hP hS
    · have h := nx_if h hc
      refine lv_aload_n hx hb dX10_must_19 rfl (lv_at hl 0 rfl) ?_
      refine nx_gf X hP uw_X10 (ci := 9) rfl 0 rfl 0 (by decide) wf_RX10_12 rfl dX10_must_20 ?_
      refine lv_iload_n hx hb dX10_must_23 rfl (lv_at hl 3 rfl) ?_
      obtain ⟨r_6, hc_5, h⟩ := nx_bd h
      refine nx_ki (nx_runV (As := [.int x3]) (rest := []) X hS hP (c_X2_has l E H.size a size on kinds marks nb reached dist lastW par ord paths costs wanted tlen onlyF found steps plen rowW rowS tally x3 _ hc_5) nx_FA qV_RX10_85 ⟨rfl, rfl⟩ ⟨Nat.le_of_ble_eq_true rfl, Nat.le_of_ble_eq_true rfl⟩ ⟨Nat.zero_le _, Nat.zero_le _⟩ 1 rfl rfl rfl rfl hl.1 (Nat.le_of_ble_eq_true rfl) dX10_must_24) hS nx_FA (fun H locs hP hS => ?_)
      refine lv_if_ne (tgt := 32) hx hb dX10_must_27 (by decide) (fun hc => ?_) (fun hc => ?_)
      · have h := nx_if h hc
        refine lv_aload_n hx hb dX10_must_32 rfl (lv_at hl 0 rfl) ?_
        refine nx_gf X hP uw_X10 (ci := 9) rfl 0 rfl 7 (by decide) wf_RX10_69 rfl dX10_must_33 ?_
        refine lv_iload_n hx hb dX10_must_36 rfl (lv_at hl 1 rfl) ?_
        refine lv_iload_n hx hb dX10_must_37 rfl (lv_at hl 2 rfl) ?_
        refine lv_iload_n hx hb dX10_must_38 rfl (lv_at hl 3 rfl) ?_
        obtain ⟨⟨r_8, ⟨k_9, k_10, k_11, k_12, k_13, k_14, k_15⟩⟩, hc_7, h⟩ := nx_bd h
        refine nx_kwi (nx_runV (As := [.int x1, .int x2, .int x3]) (rest := []) X hS hP (c_X1_needs l N E H.size a size on kinds marks nb reached dist lastW par ord paths costs wanted tlen onlyF found steps plen rowW rowS tally x1 x2 x3 hI _ hc_7) (nx_Am hS.1) qV_RX10_230 ⟨rfl, rfl⟩ ⟨Nat.le_of_ble_eq_true rfl, Nat.le_of_ble_eq_true rfl⟩ ⟨Nat.zero_le _, Nat.zero_le _⟩ 21 rfl rfl rfl rfl hl.1 (Nat.le_of_ble_eq_true rfl) dX10_must_39) hS (nx_Am hS.1) (fun H locs hP hS => ?_)
        have hP : va_P E.1 vwCl (cW E a size on k_9 marks nb k_10 k_11 k_12 k_13 k_14 k_15 costs wanted tlen onlyF found steps plen rowW rowS tally) H := hP
        obtain ⟨r_18, hc_17, h⟩ := nx_bd h
        refine nx_ki (nx_runS (As := [.int r_8]) (rest := []) X hS hP (c_X10_oneIf l E H.size _ r_8 _ hc_17) nx_FA qS_RX10_106 ⟨rfl, rfl⟩ ⟨Nat.le_of_ble_eq_true rfl, Nat.le_of_ble_eq_true rfl⟩ ⟨Nat.zero_le _, Nat.zero_le _⟩ rfl rfl hl.1 (Nat.le_of_ble_eq_true rfl) dX10_must_42) hS nx_FA (fun H locs hP hS => ?_)
        exact kr 45 ls r_18 (k_9, k_10, k_11, k_12, k_13, k_14, k_15) H locs dX10_must_45 (Option.some.inj h) hP hS
      · have h := nx_it h hc
        refine lv_iconst (v := (-1)) hx hb dX10_must_30 (by decide) ?_
        exact kr 31 ls (-1) (kinds, reached, dist, lastW, par, ord, paths) H locs dX10_must_31 (Option.some.inj h) hP hS
