def f_X8_begin (N : Nat) (x1 : Int32) (reached : Int32) (dist : Nat → Int32) (lastW : Nat → Int32) (par : Nat → Int32) (ord : Nat → Int32) (paths : Nat → Int64) : Option (Int32 × (Nat → Int32) × (Nat → Int32) × (Nat → Int32) × (Nat → Int32) × (Nat → Int64)) :=
  (f_X8_forget N reached dist).bind fun t_4 => (f_X8_enter x1 t_4.1 t_4.2 lastW par ord paths).bind fun t_12 => some (t_12.1, t_12.2.1, t_12.2.2.1, t_12.2.2.2.1, t_12.2.2.2.2.1, t_12.2.2.2.2.2)
set_option maxHeartbeats 4000000 in
set_option maxRecDepth 100000 in
theorem c_X8_begin (l : Launch) (N : Nat) (E : nx_E) (sz : Nat) (a : Nat → Nat) (size : Int32) (on : Int32) (kinds : Nat → Int32) (marks : Nat → Int32) (nb : Nat → Int32) (reached : Int32) (dist : Nat → Int32) (lastW : Nat → Int32) (par : Nat → Int32) (ord : Nat → Int32) (paths : Nat → Int64) (costs : Nat → Int32) (wanted : Int32) (tlen : Int32) (onlyF : Int32) (found : Int32) (steps : Nat → Int32) (plen : Int32) (rowW : Nat → Int32) (rowS : Nat → Int32) (tally : Nat → Int32) (x1 : Int32) (hI : nx_inj a 24) (o : Int32 × (Nat → Int32) × (Nat → Int32) × (Nat → Int32) × (Nat → Int32) × (Nat → Int64)) (h : f_X8_begin N x1 reached dist lastW par ord paths = some o) : Met l yX8_begin (.code yX8_begin cX8_begin 2 none :: nx_T) (nx_rm 3 65) (va_Pc [.ref (a 6), .int x1] (nx_P E (nx_A a 24 sz) sz (cW E a size on kinds marks nb reached dist lastW par ord paths costs wanted tlen onlyF found steps plen rowW rowS tally))) (va_Qv (fun u => u = o) (fun u t => va_P E.1 vwCl (cW E a size on kinds marks nb (u.1) (u.2.1) (u.2.2.1) (u.2.2.2.1) (u.2.2.2.2.1) (u.2.2.2.2.2) costs wanted tlen onlyF found steps plen rowW rowS tally) t.heap) (nx_A a 24 sz)) 0 0 (nx_A a 24 sz) := by
  refine nx_enV (fun u => u = o) (fun (u : Int32 × (Nat → Int32) × (Nat → Int32) × (Nat → Int32) × (Nat → Int32) × (Nat → Int64)) => (cW E a size on kinds marks nb (u.1) (u.2.1) (u.2.2.1) (u.2.2.2.1) (u.2.2.2.2.1) (u.2.2.2.2.2) costs wanted tlen onlyF found steps plen rowW rowS tally)) (by decide) (Nat.le_of_ble_eq_true rfl) ?_
  intro p e s m below meth c Q X kr hsz hP ls hl
  subst hsz
  generalize hargs : (List.toArray [.ref (a 6), .int x1] : Array Value) = args at X kr ⊢
  clear hargs
  obtain ⟨⟨hx, hb, hml, hown, hts⟩, hK, hSt, hNz⟩ := id X
  have hS : va_S (nx_A a 24 s.heap.size) s.heap s.heap [] := va_S.rf
  have hl : lv_has ls 2 [(0, .ref (a 6)), (1, .int x1)] := hl
  unfold f_X8_begin at h
  suffices hw : ∀ (H : Heap) (locs : List Loc), va_P E.1 vwCl (cW E a size on kinds marks nb reached dist lastW par ord paths costs wanted tlen onlyF found steps plen rowW rowS tally) H → va_S (nx_A a 24 s.heap.size) s.heap H locs → W p l e (nx_rm 3 65) s m args below meth c H locs 0 0 Q (F0 m 0 ls []) from hw _ _ hP va_S.rf
  intro H locs hP hS
  refine lv_aload_n hx hb dX8_begin_0 rfl (lv_at hl 0 rfl) ?_
  obtain ⟨⟨k_2, k_3⟩, hc_1, h⟩ := nx_bd h
  refine nx_kv (nx_runV (As := []) (rest := []) X hS hP (c_X8_forget l N E H.size a size on kinds marks nb reached dist lastW par ord paths costs wanted tlen onlyF found steps plen rowW rowS tally hI _ hc_1) (nx_Am hS.1) qV_RX8_46 ⟨rfl, rfl⟩ ⟨Nat.le_of_ble_eq_true rfl, Nat.le_of_ble_eq_true rfl⟩ ⟨Nat.zero_le _, Nat.zero_le _⟩ 6 rfl rfl rfl rfl hl.1 (Nat.le_of_ble_eq_true rfl) dX8_begin_1) hS (nx_Am hS.1) (fun H locs hP hS => ?_)
  have hP : va_P E.1 vwCl (cW E a size on kinds marks nb k_2 k_3 lastW par ord paths costs wanted tlen onlyF found steps plen rowW rowS tally) H := hP
  refine lv_aload_n hx hb dX8_begin_4 rfl (lv_at hl 0 rfl) ?_
  refine lv_iload_n hx hb dX8_begin_5 rfl (lv_at hl 1 rfl) ?_
  obtain ⟨⟨k_6, k_7, k_8, k_9, k_10, k_11⟩, hc_5, h⟩ := nx_bd h
  refine nx_kv (nx_runV (As := [.int x1]) (rest := []) X hS hP (c_X8_enter l E H.size a size on kinds marks nb k_2 k_3 lastW par ord paths costs wanted tlen onlyF found steps plen rowW rowS tally x1 hI _ hc_5) (nx_Am hS.1) qV_RX8_49 ⟨rfl, rfl⟩ ⟨Nat.le_of_ble_eq_true rfl, Nat.le_of_ble_eq_true rfl⟩ ⟨Nat.zero_le _, Nat.zero_le _⟩ 6 rfl rfl rfl rfl hl.1 (Nat.le_of_ble_eq_true rfl) dX8_begin_6) hS (nx_Am hS.1) (fun H locs hP hS => ?_)
  have hP : va_P E.1 vwCl (cW E a size on kinds marks nb k_6 k_7 k_8 k_9 k_10 k_11 costs wanted tlen onlyF found steps plen rowW rowS tally) H := hP
  exact kr 9 ls (k_6, k_7, k_8, k_9, k_10, k_11) H locs dX8_begin_9 (Option.some.inj h) hP hS
def f_X3_after (x1 : Int32) (x2 : Int32)  : Option (Int32) :=
  (f_X3_turned x1 x2).bind fun r_2 => some r_2
set_option maxHeartbeats 4000000 in
set_option maxRecDepth 100000 in
theorem c_X3_after (l : Launch) (E : nx_E) (sz : Nat) (a : Nat → Nat) (size : Int32) (on : Int32) (kinds : Nat → Int32) (marks : Nat → Int32) (nb : Nat → Int32) (reached : Int32) (dist : Nat → Int32) (lastW : Nat → Int32) (par : Nat → Int32) (ord : Nat → Int32) (paths : Nat → Int64) (costs : Nat → Int32) (wanted : Int32) (tlen : Int32) (onlyF : Int32) (found : Int32) (steps : Nat → Int32) (plen : Int32) (rowW : Nat → Int32) (rowS : Nat → Int32) (tally : Nat → Int32) (x1 : Int32) (x2 : Int32) (o : Int32) (h : f_X3_after x1 x2 = some o) : Met l yX3_after (.code yX3_after cX3_after 3 (some .int) :: nx_T) (nx_rm 2 46) (va_Pc [.ref (a 5), .int x1, .int x2] (nx_P E (nx_F) sz (cW E a size on kinds marks nb reached dist lastW par ord paths costs wanted tlen onlyF found steps plen rowW rowS tally))) (va_Qi (fun v (_ : Unit) => v = o) (fun _ t => va_P E.1 vwCl (cW E a size on kinds marks nb reached dist lastW par ord paths costs wanted tlen onlyF found steps plen rowW rowS tally) t.heap) (nx_F)) 0 0 (nx_F) := by
  refine nx_enI (fun v (_ : Unit) => v = o) (fun (_ : Unit) => (cW E a size on kinds marks nb reached dist lastW par ord paths costs wanted tlen onlyF found steps plen rowW rowS tally)) (by decide) (Nat.le_of_ble_eq_true rfl) ?_
  intro p e s m below meth c Q X kr hsz hP ls hl
  subst hsz
  generalize hargs : (List.toArray [.ref (a 5), .int x1, .int x2] : Array Value) = args at X kr ⊢
  clear hargs
  obtain ⟨⟨hx, hb, hml, hown, hts⟩, hK, hSt, hNz⟩ := id X
  have hS : va_S (nx_F) s.heap s.heap [] := va_S.rf
  have hl : lv_has ls 3 [(0, .ref (a 5)), (1, .int x1), (2, .int x2)] := hl
  unfold f_X3_after at h
  suffices hw : ∀ (H : Heap) (locs : List Loc), va_P E.1 vwCl (cW E a size on kinds marks nb reached dist lastW par ord paths costs wanted tlen onlyF found steps plen rowW rowS tally) H → va_S (nx_F) s.heap H locs → W p l e (nx_rm 2 46) s m args below meth c H locs 0 0 Q (F0 m 0 ls []) from hw _ _ hP va_S.rf
  intro H locs hP hS
  refine lv_iload_n hx hb dX3_after_0 rfl (lv_at hl 1 rfl) ?_
  refine lv_iload_n hx hb dX3_after_1 rfl (lv_at hl 2 rfl) ?_
  obtain ⟨r_2, hc_1, h⟩ := nx_bd h
  refine nx_ki (nx_runS (As := [.int x1, .int x2]) (rest := []) X hS hP (c_X3_turned l E H.size _ x1 x2 _ hc_1) nx_FA qS_RX3_30 ⟨rfl, rfl⟩ ⟨Nat.le_of_ble_eq_true rfl, Nat.le_of_ble_eq_true rfl⟩ ⟨Nat.zero_le _, Nat.zero_le _⟩ rfl rfl hl.1 (Nat.le_of_ble_eq_true rfl) dX3_after_2) hS nx_FA (fun H locs hP hS => ?_)
  exact kr 5 ls r_2 () H locs dX3_after_5 (Option.some.inj h) hP hS
def f_X8_meet_j40 (x1 : Int32) (x3 : Int32) (reached : Int32) (dist : Nat → Int32) (lastW : Nat → Int32) (par : Nat → Int32) (ord : Nat → Int32) (paths : Nat → Int64) : Option (Int32 × (Nat → Int32) × (Nat → Int32) × (Nat → Int32) × (Nat → Int32) × (Nat → Int64)) :=
  (nx_rd dist 600 x3).bind fun _ => (nx_rd dist 600 x1).bind fun _ => if (dist x3.toNatClampNeg) = ((dist x1.toNatClampNeg) + 1) then ((nx_rd paths 600 x3).bind fun _ => (nx_rd paths 600 x1).bind fun _ => (nx_ck 600 x3).bind fun _ => some (reached, dist, lastW, par, ord, (vp_updL paths x3.toNatClampNeg ((paths x3.toNatClampNeg) + (paths x1.toNatClampNeg))))) else (some (reached, dist, lastW, par, ord, paths))
def f_X8_meet (x1 : Int32) (x2 : Int32) (x3 : Int32) (reached : Int32) (dist : Nat → Int32) (lastW : Nat → Int32) (par : Nat → Int32) (ord : Nat → Int32) (paths : Nat → Int64) : Option (Int32 × (Nat → Int32) × (Nat → Int32) × (Nat → Int32) × (Nat → Int32) × (Nat → Int64)) :=
  (f_X8_isState x1).bind fun r_11 => if r_11 = 0 then (some (reached, dist, lastW, par, ord, paths)) else ((f_X8_isState x3).bind fun r_13 => if r_13 = 0 then (some (reached, dist, lastW, par, ord, paths)) else ((nx_rd dist 600 x3).bind fun _ => if (dist x3.toNatClampNeg) = (-1) then ((nx_rd dist 600 x1).bind fun _ => (f_X8_add x3 ((dist x1.toNatClampNeg) + 1) x1 x2 reached dist lastW par ord paths).bind fun t_25 => f_X8_meet_j40 x1 x3 t_25.1 t_25.2.1 t_25.2.2.1 t_25.2.2.2.1 t_25.2.2.2.2.1 t_25.2.2.2.2.2) else (f_X8_meet_j40 x1 x3 reached dist lastW par ord paths)))
set_option maxHeartbeats 4000000 in
set_option maxRecDepth 100000 in
theorem c_X8_meet (l : Launch) (E : nx_E) (sz : Nat) (a : Nat → Nat) (size : Int32) (on : Int32) (kinds : Nat → Int32) (marks : Nat → Int32) (nb : Nat → Int32) (reached : Int32) (dist : Nat → Int32) (lastW : Nat → Int32) (par : Nat → Int32) (ord : Nat → Int32) (paths : Nat → Int64) (costs : Nat → Int32) (wanted : Int32) (tlen : Int32) (onlyF : Int32) (found : Int32) (steps : Nat → Int32) (plen : Int32) (rowW : Nat → Int32) (rowS : Nat → Int32) (tally : Nat → Int32) (x1 : Int32) (x2 : Int32) (x3 : Int32) (hI : nx_inj a 24) (o : Int32 × (Nat → Int32) × (Nat → Int32) × (Nat → Int32) × (Nat → Int32) × (Nat → Int64)) (h : f_X8_meet x1 x2 x3 reached dist lastW par ord paths = some o) : Met l yX8_meet (.code yX8_meet cX8_meet 4 none :: nx_T) (nx_rm 2 44) (va_Pc [.ref (a 6), .int x1, .int x2, .int x3] (nx_P E (nx_A a 24 sz) sz (cW E a size on kinds marks nb reached dist lastW par ord paths costs wanted tlen onlyF found steps plen rowW rowS tally))) (va_Qv (fun u => u = o) (fun u t => va_P E.1 vwCl (cW E a size on kinds marks nb (u.1) (u.2.1) (u.2.2.1) (u.2.2.2.1) (u.2.2.2.2.1) (u.2.2.2.2.2) costs wanted tlen onlyF found steps plen rowW rowS tally) t.heap) (nx_A a 24 sz)) 0 0 (nx_A a 24 sz) := by
  refine nx_enV (fun u => u = o) (fun (u : Int32 × (Nat → Int32) × (Nat → Int32) × (Nat → Int32) × (Nat → Int32) × (Nat → Int64)) => (cW E a size on kinds marks nb (u.1) (u.2.1) (u.2.2.1) (u.2.2.2.1) (u.2.2.2.2.1) (u.2.2.2.2.2) costs wanted tlen onlyF found steps plen rowW rowS tally)) (by decide) (Nat.le_of_ble_eq_true rfl) ?_
  intro p e s m below meth c Q X kr hsz hP ls hl
  subst hsz
  generalize hargs : (List.toArray [.ref (a 6), .int x1, .int x2, .int x3] : Array Value) = args at X kr ⊢
  clear hargs
  obtain ⟨⟨hx, hb, hml, hown, hts⟩, hK, hSt, hNz⟩ := id X
  have hS : va_S (nx_A a 24 s.heap.size) s.heap s.heap [] := va_S.rf
  have hl : lv_has ls 4 [(0, .ref (a 6)), (1, .int x1), (2, .int x2), (3, .int x3)] := hl
  have J40 : ∀ (x1 : Int32) (x3 : Int32) (reached : Int32) (dist : Nat → Int32) (lastW : Nat → Int32) (par : Nat → Int32) (ord : Nat → Int32) (paths : Nat → Int64), f_X8_meet_j40 x1 x3 reached dist lastW par ord paths = some o → ∀ (H : Heap) (locs : List Loc) (ls : Array Slot), va_P E.1 vwCl (cW E a size on kinds marks nb reached dist lastW par ord paths costs wanted tlen onlyF found steps plen rowW rowS tally) H → va_S (nx_A a 24 s.heap.size) s.heap H locs → lv_has ls 4 [(0, .ref (a 6)), (1, .int x1), (3, .int x3)] → W p l e (nx_rm 2 44) s m args below meth c H locs 0 0 Q (F0 m 40 ls []) := by
    intro x1 x3 reached dist lastW par ord paths h H locs ls hP hS hl
    unfold f_X8_meet_j40 at h
    refine lv_aload_n hx hb dX8_meet_40 rfl (lv_at hl 0 rfl) ?_
    refine nx_gf X hP uw_X8 (ci := 7) rfl 6 rfl 0 (by decide) wf_RX8_9 rfl dX8_meet_41 ?_
    refine lv_iload_n hx hb dX8_meet_44 rfl (lv_at hl 2 rfl) ?_
    obtain ⟨hv_1, h⟩ := nx_rb h
    refine nx_ld X hP 7 rfl hv_1 dX8_meet_45 ?_
    refine lv_aload_n hx hb dX8_meet_46 rfl (lv_at hl 0 rfl) ?_
    refine nx_gf X hP uw_X8 (ci := 7) rfl 6 rfl 0 (by decide) wf_RX8_9 rfl dX8_meet_47 ?_
    refine lv_iload_n hx hb dX8_meet_50 rfl (lv_at hl 1 rfl) ?_
    obtain ⟨hv_3, h⟩ := nx_rb h
    refine nx_ld X hP 7 rfl hv_3 dX8_meet_51 ?_
    refine lv_iconst (v := 1) hx hb dX8_meet_52 (by decide) ?_
    refine lv_iadd hx hb dX8_meet_53 ?_
    refine lv_icmp_ne (tgt := 72) hx hb dX8_meet_54 (by decide) (fun hc => ?_) (fun hc => ?_)
    · have h := nx_if h hc
      exact kr 72 ls (reached, dist, lastW, par, ord, paths) H locs dX8_meet_72 (Option.some.inj h) hP hS
    · have h := nx_it h hc
      refine lv_aload_n hx hb dX8_meet_57 rfl (lv_at hl 0 rfl) ?_
      refine nx_gf X hP uw_X8 (ci := 7) rfl 6 rfl 4 (by decide) wf_RX8_24 rfl dX8_meet_58 ?_
      refine lv_iload_n hx hb dX8_meet_61 rfl (lv_at hl 2 rfl) ?_
      refine lv_dup2_11 hx hb dX8_meet_62 rfl rfl ?_
      obtain ⟨hv_5, h⟩ := nx_rb h
      refine nx_ldl X hP 11 rfl hv_5 dX8_meet_63 ?_
      refine lv_aload_n hx hb dX8_meet_64 rfl (lv_at hl 0 rfl) ?_
      refine nx_gf X hP uw_X8 (ci := 7) rfl 6 rfl 4 (by decide) wf_RX8_24 rfl dX8_meet_65 ?_
      refine lv_iload_n hx hb dX8_meet_68 rfl (lv_at hl 1 rfl) ?_
      obtain ⟨hv_7, h⟩ := nx_rb h
      refine nx_ldl X hP 11 rfl hv_7 dX8_meet_69 ?_
      refine lv_ladd hx hb dX8_meet_70 ?_
      obtain ⟨hv_9, h⟩ := nx_cb h
      refine nx_stl X hI cW_ad hP hS 11 rfl hv_9 dX8_meet_71 (fun H locs hP hS => ?_)
      have hP : va_P E.1 vwCl (cW E a size on kinds marks nb reached dist lastW par ord (vp_updL paths x3.toNatClampNeg ((paths x3.toNatClampNeg) + (paths x1.toNatClampNeg))) costs wanted tlen onlyF found steps plen rowW rowS tally) H := hP
      exact kr 72 ls (reached, dist, lastW, par, ord, (vp_updL paths x3.toNatClampNeg ((paths x3.toNatClampNeg) + (paths x1.toNatClampNeg)))) H locs dX8_meet_72 (Option.some.inj h) hP hS
  unfold f_X8_meet at h
  suffices hw : ∀ (H : Heap) (locs : List Loc), va_P E.1 vwCl (cW E a size on kinds marks nb reached dist lastW par ord paths costs wanted tlen onlyF found steps plen rowW rowS tally) H → va_S (nx_A a 24 s.heap.size) s.heap H locs → W p l e (nx_rm 2 44) s m args below meth c H locs 0 0 Q (F0 m 0 ls []) from hw _ _ hP va_S.rf
  intro H locs hP hS
  refine lv_iload_n hx hb dX8_meet_0 rfl (lv_at hl 1 rfl) ?_
  obtain ⟨r_11, hc_10, h⟩ := nx_bd h
  refine nx_ki (nx_runS (As := [.int x1]) (rest := []) X hS hP (c_X8_isState l E H.size _ x1 _ hc_10) nx_FA qS_RX8_38 ⟨rfl, rfl⟩ ⟨Nat.le_of_ble_eq_true rfl, Nat.le_of_ble_eq_true rfl⟩ ⟨Nat.zero_le _, Nat.zero_le _⟩ rfl rfl hl.1 (Nat.le_of_ble_eq_true rfl) dX8_meet_1) hS nx_FA (fun H locs hP hS => ?_)
  refine lv_if_eq (tgt := 14) hx hb dX8_meet_4 (by decide) (fun hc => ?_) (fun hc => ?_)
  · have h := nx_it h hc
    exact kr 14 ls (reached, dist, lastW, par, ord, paths) H locs dX8_meet_14 (Option.some.inj h) hP hS
  · have h := nx_if h hc
    refine lv_iload_n hx hb dX8_meet_7 rfl (lv_at hl 3 rfl) ?_
    obtain ⟨r_13, hc_12, h⟩ := nx_bd h
    refine nx_ki (nx_runS (As := [.int x3]) (rest := []) X hS hP (c_X8_isState l E H.size _ x3 _ hc_12) nx_FA qS_RX8_38 ⟨rfl, rfl⟩ ⟨Nat.le_of_ble_eq_true rfl, Nat.le_of_ble_eq_true rfl⟩ ⟨Nat.zero_le _, Nat.zero_le _⟩ rfl rfl hl.1 (Nat.le_of_ble_eq_true rfl) dX8_meet_8) hS nx_FA (fun H locs hP hS => ?_)
    refine lv_if_ne (tgt := 15) hx hb dX8_meet_11 (by decide) (fun hc => ?_) (fun hc => ?_)
    · have h := nx_if h hc
      refine lv_aload_n hx hb dX8_meet_15 rfl (lv_at hl 0 rfl) ?_
      refine nx_gf X hP uw_X8 (ci := 7) rfl 6 rfl 0 (by decide) wf_RX8_9 rfl dX8_meet_16 ?_
      refine lv_iload_n hx hb dX8_meet_19 rfl (lv_at hl 3 rfl) ?_
      obtain ⟨hv_14, h⟩ := nx_rb h
      refine nx_ld X hP 7 rfl hv_14 dX8_meet_20 ?_
      refine lv_iconst (v := (-1)) hx hb dX8_meet_21 (by decide) ?_
      refine lv_icmp_ne (tgt := 40) hx hb dX8_meet_22 (by decide) (fun hc => ?_) (fun hc => ?_)
      · have h := nx_if h hc
        exact J40 _ _ _ _ _ _ _ _ h H locs ls hP hS (lv_sub hl [0, 1, 3] rfl)
      · have h := nx_it h hc
        refine lv_aload_n hx hb dX8_meet_25 rfl (lv_at hl 0 rfl) ?_
        refine lv_iload_n hx hb dX8_meet_26 rfl (lv_at hl 3 rfl) ?_
        refine lv_aload_n hx hb dX8_meet_27 rfl (lv_at hl 0 rfl) ?_
        refine nx_gf X hP uw_X8 (ci := 7) rfl 6 rfl 0 (by decide) wf_RX8_9 rfl dX8_meet_28 ?_
        refine lv_iload_n hx hb dX8_meet_31 rfl (lv_at hl 1 rfl) ?_
        obtain ⟨hv_16, h⟩ := nx_rb h
        refine nx_ld X hP 7 rfl hv_16 dX8_meet_32 ?_
        refine lv_iconst (v := 1) hx hb dX8_meet_33 (by decide) ?_
        refine lv_iadd hx hb dX8_meet_34 ?_
        refine lv_iload_n hx hb dX8_meet_35 rfl (lv_at hl 1 rfl) ?_
        refine lv_iload_n hx hb dX8_meet_36 rfl (lv_at hl 2 rfl) ?_
        obtain ⟨⟨k_19, k_20, k_21, k_22, k_23, k_24⟩, hc_18, h⟩ := nx_bd h
        refine nx_kv (nx_runV (As := [.int x3, .int ((dist x1.toNatClampNeg) + 1), .int x1, .int x2]) (rest := []) X hS hP (c_X8_add l E H.size a size on kinds marks nb reached dist lastW par ord paths costs wanted tlen onlyF found steps plen rowW rowS tally x3 ((dist x1.toNatClampNeg) + 1) x1 x2 hI _ hc_18) (nx_Am hS.1) qV_RX8_42 ⟨rfl, rfl⟩ ⟨Nat.le_of_ble_eq_true rfl, Nat.le_of_ble_eq_true rfl⟩ ⟨Nat.zero_le _, Nat.zero_le _⟩ 6 rfl rfl rfl rfl hl.1 (Nat.le_of_ble_eq_true rfl) dX8_meet_37) hS (nx_Am hS.1) (fun H locs hP hS => ?_)
        have hP : va_P E.1 vwCl (cW E a size on kinds marks nb k_19 k_20 k_21 k_22 k_23 k_24 costs wanted tlen onlyF found steps plen rowW rowS tally) H := hP
        exact J40 _ _ _ _ _ _ _ _ h H locs ls hP hS (lv_sub hl [0, 1, 3] rfl)
    · have h := nx_it h hc
      exact kr 14 ls (reached, dist, lastW, par, ord, paths) H locs dX8_meet_14 (Option.some.inj h) hP hS
def f_X8_spread_r5_b27 (x2 : Int32) (x3 : Int32) (rec : (Int32 × Int32 × (Nat → Int32) × (Nat → Int32) × (Nat → Int32) × (Nat → Int32) × (Nat → Int64)) → Option (Int32 × (Nat → Int32) × (Nat → Int32) × (Nat → Int32) × (Nat → Int32) × (Nat → Int64))) (x4 : Int32) (reached : Int32) (dist : Nat → Int32) (lastW : Nat → Int32) (par : Nat → Int32) (ord : Nat → Int32) (paths : Nat → Int64) : Option (Int32 × (Nat → Int32) × (Nat → Int32) × (Nat → Int32) × (Nat → Int32) × (Nat → Int64)) :=
  if 4 ≤ x4 then (some (reached, dist, lastW, par, ord, paths)) else ((f_X3_after x3 x4).bind fun r_2 => (f_X8_meet x3 x4 r_2 reached dist lastW par ord paths).bind fun t_10 => rec ((x4 + 1), t_10.1, t_10.2.1, t_10.2.2.1, t_10.2.2.2.1, t_10.2.2.2.2.1, t_10.2.2.2.2.2))
def f_X8_spread_r5_l27 (x2 : Int32) (x3 : Int32) : Nat → (Int32 × Int32 × (Nat → Int32) × (Nat → Int32) × (Nat → Int32) × (Nat → Int32) × (Nat → Int64)) → Option (Int32 × (Nat → Int32) × (Nat → Int32) × (Nat → Int32) × (Nat → Int32) × (Nat → Int64)) := nx_lp (fun rec z => f_X8_spread_r5_b27 x2 x3 rec z.1 z.2.1 z.2.2.1 z.2.2.2.1 z.2.2.2.2.1 z.2.2.2.2.2.1 z.2.2.2.2.2.2)
def f_X8_spread_r5_b2 (N : Nat) (rec : (Int32 × Int32 × (Nat → Int32) × (Nat → Int32) × (Nat → Int32) × (Nat → Int32) × (Nat → Int64)) → Option (Int32 × (Nat → Int32) × (Nat → Int32) × (Nat → Int32) × (Nat → Int32) × (Nat → Int64))) (x2 : Int32) (reached : Int32) (dist : Nat → Int32) (lastW : Nat → Int32) (par : Nat → Int32) (ord : Nat → Int32) (paths : Nat → Int64) : Option (Int32 × (Nat → Int32) × (Nat → Int32) × (Nat → Int32) × (Nat → Int32) × (Nat → Int64)) :=
  if reached ≤ x2 then (some (reached, dist, lastW, par, ord, paths)) else (if 600 ≤ x2 then (some (reached, dist, lastW, par, ord, paths)) else ((nx_rd ord 600 x2).bind fun _ => (f_X8_spread_r5_l27 x2 (ord x2.toNatClampNeg) N (0, reached, dist, lastW, par, ord, paths)).bind fun z_13 => rec ((x2 + 1), z_13.1, z_13.2.1, z_13.2.2.1, z_13.2.2.2.1, z_13.2.2.2.2.1, z_13.2.2.2.2.2)))
def f_X8_spread_r5_l2 (N : Nat) : Nat → (Int32 × Int32 × (Nat → Int32) × (Nat → Int32) × (Nat → Int32) × (Nat → Int32) × (Nat → Int64)) → Option (Int32 × (Nat → Int32) × (Nat → Int32) × (Nat → Int32) × (Nat → Int32) × (Nat → Int64)) := nx_lp (fun rec z => f_X8_spread_r5_b2 N rec z.1 z.2.1 z.2.2.1 z.2.2.2.1 z.2.2.2.2.1 z.2.2.2.2.2.1 z.2.2.2.2.2.2)
def f_X8_spread_r5 (N : Nat)  (reached : Int32) (dist : Nat → Int32) (lastW : Nat → Int32) (par : Nat → Int32) (ord : Nat → Int32) (paths : Nat → Int64) : Option (Int32 × (Nat → Int32) × (Nat → Int32) × (Nat → Int32) × (Nat → Int32) × (Nat → Int64)) :=
  (f_X8_spread_r5_l2 N N (0, reached, dist, lastW, par, ord, paths)).bind fun z_15 => some (z_15.1, z_15.2.1, z_15.2.2.1, z_15.2.2.2.1, z_15.2.2.2.2.1, z_15.2.2.2.2.2)
set_option maxHeartbeats 4000000 in
set_option maxRecDepth 100000 in
theorem c_X8_spread_r5 (l : Launch) (N : Nat) (E : nx_E) (sz : Nat) (a : Nat → Nat) (size : Int32) (on : Int32) (kinds : Nat → Int32) (marks : Nat → Int32) (nb : Nat → Int32) (reached : Int32) (dist : Nat → Int32) (lastW : Nat → Int32) (par : Nat → Int32) (ord : Nat → Int32) (paths : Nat → Int64) (costs : Nat → Int32) (wanted : Int32) (tlen : Int32) (onlyF : Int32) (found : Int32) (steps : Nat → Int32) (plen : Int32) (rowW : Nat → Int32) (rowS : Nat → Int32) (tally : Nat → Int32)  (hI : nx_inj a 24) (o : Int32 × (Nat → Int32) × (Nat → Int32) × (Nat → Int32) × (Nat → Int32) × (Nat → Int64)) (h : f_X8_spread_r5 N reached dist lastW par ord paths = some o) : Met l yX8_spread (.code yX8_spread cX8_spread 5 none :: nx_T) (nx_rm 3 68) (va_Pc [.ref (a 6), .ref (a 5)] (nx_P E (nx_A a 24 sz) sz (cW E a size on kinds marks nb reached dist lastW par ord paths costs wanted tlen onlyF found steps plen rowW rowS tally))) (va_Qv (fun u => u = o) (fun u t => va_P E.1 vwCl (cW E a size on kinds marks nb (u.1) (u.2.1) (u.2.2.1) (u.2.2.2.1) (u.2.2.2.2.1) (u.2.2.2.2.2) costs wanted tlen onlyF found steps plen rowW rowS tally) t.heap) (nx_A a 24 sz)) 0 0 (nx_A a 24 sz) := by
  refine nx_enV (fun u => u = o) (fun (u : Int32 × (Nat → Int32) × (Nat → Int32) × (Nat → Int32) × (Nat → Int32) × (Nat → Int64)) => (cW E a size on kinds marks nb (u.1) (u.2.1) (u.2.2.1) (u.2.2.2.1) (u.2.2.2.2.1) (u.2.2.2.2.2) costs wanted tlen onlyF found steps plen rowW rowS tally)) (by decide) (Nat.le_of_ble_eq_true rfl) ?_
  intro p e s m below meth c Q X kr hsz hP ls hl
  subst hsz
  generalize hargs : (List.toArray [.ref (a 6), .ref (a 5)] : Array Value) = args at X kr ⊢
  clear hargs
  obtain ⟨⟨hx, hb, hml, hown, hts⟩, hK, hSt, hNz⟩ := id X
  have hS : va_S (nx_A a 24 s.heap.size) s.heap s.heap [] := va_S.rf
  have hl : lv_has ls 5 [(0, .ref (a 6)), (1, .ref (a 5))] := hl
  have L27 : ∀ (x2 : Int32) (x3 : Int32) (n : Nat) (x4 : Int32) (reached : Int32) (dist : Nat → Int32) (lastW : Nat → Int32) (par : Nat → Int32) (ord : Nat → Int32) (paths : Nat → Int64) (z : (Int32 × (Nat → Int32) × (Nat → Int32) × (Nat → Int32) × (Nat → Int32) × (Nat → Int64))), f_X8_spread_r5_l27 x2 x3 n (x4, reached, dist, lastW, par, ord, paths) = some z → ∀ (H : Heap) (locs : List Loc) (ls : Array Slot), va_P E.1 vwCl (cW E a size on kinds marks nb reached dist lastW par ord paths costs wanted tlen onlyF found steps plen rowW rowS tally) H → va_S (nx_A a 24 s.heap.size) s.heap H locs → lv_has ls 5 [(0, .ref (a 6)), (1, .ref (a 5)), (2, .int x2), (3, .int x3), (4, .int x4)] → ∀ (kR : ∀ (H : Heap) (locs : List Loc) (ls : Array Slot), va_P E.1 vwCl (cW E a size on kinds marks nb (z.1) (z.2.1) (z.2.2.1) (z.2.2.2.1) (z.2.2.2.2.1) (z.2.2.2.2.2) costs wanted tlen onlyF found steps plen rowW rowS tally) H → va_S (nx_A a 24 s.heap.size) s.heap H locs → lv_has ls 5 [(0, .ref (a 6)), (1, .ref (a 5)), (2, .int x2)] → W p l e (nx_rm 3 68) s m args below meth c H locs 0 0 Q (F0 m 53 ls [])), W p l e (nx_rm 3 68) s m args below meth c H locs 0 0 Q (F0 m 27 ls []) := by
   intro x2 x3 n
   induction n with
   | zero => intro x4 reached dist lastW par ord paths z h; exact nomatch (show none = some z from h)
   | succ n ih =>
    intro x4 reached dist lastW par ord paths z h H locs ls hP hS hl kR
    have h : f_X8_spread_r5_b27 x2 x3 (f_X8_spread_r5_l27 x2 x3 n) x4 reached dist lastW par ord paths = some z := h
    unfold f_X8_spread_r5_b27 at h
    refine lv_iload hx hb dX8_spread_27 (lv_at hl 4 rfl) ?_
    refine lv_iconst (v := 4) hx hb dX8_spread_29 (by decide) ?_
    refine lv_icmp_ge (tgt := 53) hx hb dX8_spread_30 (by decide) (fun hc => ?_) (fun hc => ?_)
    · have h := nx_it h hc
      obtain rfl := Option.some.inj h
      exact kR H locs ls hP hS (lv_sub hl [0, 1, 2] rfl)
    · have h := nx_if h hc
      refine lv_aload_n hx hb dX8_spread_33 rfl (lv_at hl 0 rfl) ?_
      refine lv_iload_n hx hb dX8_spread_34 rfl (lv_at hl 3 rfl) ?_
      refine lv_iload hx hb dX8_spread_35 (lv_at hl 4 rfl) ?_
      refine lv_aload_n hx hb dX8_spread_37 rfl (lv_at hl 1 rfl) ?_
      refine lv_iload_n hx hb dX8_spread_38 rfl (lv_at hl 3 rfl) ?_
      refine lv_iload hx hb dX8_spread_39 (lv_at hl 4 rfl) ?_
      obtain ⟨r_2, hc_1, h⟩ := nx_bd h
      refine nx_ki (nx_runU (As := [.int x3, .int x4]) (rest := [.int x4, .int x3, .ref (a 6)]) X hS hP (c_X3_after l E H.size a size on kinds marks nb reached dist lastW par ord paths costs wanted tlen onlyF found steps plen rowW rowS tally x3 x4 _ hc_1) nx_FA qU_RX8_53_X3 ⟨rfl, rfl⟩ ⟨Nat.le_of_ble_eq_true rfl, Nat.le_of_ble_eq_true rfl⟩ ⟨Nat.zero_le _, Nat.zero_le _⟩ 5 rfl rfl rfl rfl hl.1 (Nat.le_of_ble_eq_true rfl) dX8_spread_41) hS nx_FA (fun H locs hP hS => ?_)
      obtain ⟨⟨k_4, k_5, k_6, k_7, k_8, k_9⟩, hc_3, h⟩ := nx_bd h
      refine nx_kv (nx_runV (As := [.int x3, .int x4, .int r_2]) (rest := []) X hS hP (c_X8_meet l E H.size a size on kinds marks nb reached dist lastW par ord paths costs wanted tlen onlyF found steps plen rowW rowS tally x3 x4 r_2 hI _ hc_3) (nx_Am hS.1) qV_RX8_59 ⟨rfl, rfl⟩ ⟨Nat.le_of_ble_eq_true rfl, Nat.le_of_ble_eq_true rfl⟩ ⟨Nat.zero_le _, Nat.zero_le _⟩ 6 rfl rfl rfl rfl hl.1 (Nat.le_of_ble_eq_true rfl) dX8_spread_44) hS (nx_Am hS.1) (fun H locs hP hS => ?_)
      have hP : va_P E.1 vwCl (cW E a size on kinds marks nb k_4 k_5 k_6 k_7 k_8 k_9 costs wanted tlen onlyF found steps plen rowW rowS tally) H := hP
      refine lv_iinc (v := (x4 + 1)) (lv' := [(4, .int (x4 + 1)), (0, .ref (a 6)), (1, .ref (a 5)), (2, .int x2), (3, .int x3)]) hx hb dX8_spread_47 hl (k := 4) rfl rfl (by decide) rfl (fun ls hl => ?_)
      refine lv_goto (tgt := 27) hx hb dX8_spread_50 (by decide) ?_
      exact ih _ _ _ _ _ _ _ z h H locs ls hP hS (lv_sub hl [1, 2, 3, 4, 0] rfl) kR
  have L2 : ∀ (n : Nat) (x2 : Int32) (reached : Int32) (dist : Nat → Int32) (lastW : Nat → Int32) (par : Nat → Int32) (ord : Nat → Int32) (paths : Nat → Int64) (z : (Int32 × (Nat → Int32) × (Nat → Int32) × (Nat → Int32) × (Nat → Int32) × (Nat → Int64))), f_X8_spread_r5_l2 N n (x2, reached, dist, lastW, par, ord, paths) = some z → ∀ (H : Heap) (locs : List Loc) (ls : Array Slot), va_P E.1 vwCl (cW E a size on kinds marks nb reached dist lastW par ord paths costs wanted tlen onlyF found steps plen rowW rowS tally) H → va_S (nx_A a 24 s.heap.size) s.heap H locs → lv_has ls 5 [(0, .ref (a 6)), (1, .ref (a 5)), (2, .int x2)] → ∀ (kR : ∀ (H : Heap) (locs : List Loc) (ls : Array Slot), va_P E.1 vwCl (cW E a size on kinds marks nb (z.1) (z.2.1) (z.2.2.1) (z.2.2.2.1) (z.2.2.2.2.1) (z.2.2.2.2.2) costs wanted tlen onlyF found steps plen rowW rowS tally) H → va_S (nx_A a 24 s.heap.size) s.heap H locs → lv_has ls 5 [(0, .ref (a 6)), (1, .ref (a 5))] → W p l e (nx_rm 3 68) s m args below meth c H locs 0 0 Q (F0 m 59 ls [])), W p l e (nx_rm 3 68) s m args below meth c H locs 0 0 Q (F0 m 2 ls []) := by
   intro  n
   induction n with
   | zero => intro x2 reached dist lastW par ord paths z h; exact nomatch (show none = some z from h)
   | succ n ih =>
    intro x2 reached dist lastW par ord paths z h H locs ls hP hS hl kR
    have h : f_X8_spread_r5_b2 N (f_X8_spread_r5_l2 N n) x2 reached dist lastW par ord paths = some z := h
    unfold f_X8_spread_r5_b2 at h
    refine lv_iload_n hx hb dX8_spread_2 rfl (lv_at hl 2 rfl) ?_
    refine lv_aload_n hx hb dX8_spread_3 rfl (lv_at hl 0 rfl) ?_
    refine nx_gf X hP uw_X8 (ci := 7) rfl 6 rfl 5 (by decide) wf_RX8_34 rfl dX8_spread_4 ?_
    refine lv_icmp_ge (tgt := 59) hx hb dX8_spread_7 (by decide) (fun hc => ?_) (fun hc => ?_)
    · have h := nx_it h hc
      obtain rfl := Option.some.inj h
      exact kR H locs ls hP hS (lv_sub hl [0, 1] rfl)
    · have h := nx_if h hc
      refine lv_iload_n hx hb dX8_spread_10 rfl (lv_at hl 2 rfl) ?_
      refine lv_sipush (v := 600) hx hb dX8_spread_11 (by decide) ?_
      refine lv_icmp_ge (tgt := 59) hx hb dX8_spread_14 (by decide) (fun hc => ?_) (fun hc => ?_)
      · have h := nx_it h hc
        obtain rfl := Option.some.inj h
        exact kR H locs ls hP hS (lv_sub hl [0, 1] rfl)
      · have h := nx_if h hc
        refine lv_aload_n hx hb dX8_spread_17 rfl (lv_at hl 0 rfl) ?_
        refine nx_gf X hP uw_X8 (ci := 7) rfl 6 rfl 3 (by decide) wf_RX8_21 rfl dX8_spread_18 ?_
        refine lv_iload_n hx hb dX8_spread_21 rfl (lv_at hl 2 rfl) ?_
        obtain ⟨hv_11, h⟩ := nx_rb h
        refine nx_ld X hP 10 rfl hv_11 dX8_spread_22 ?_
        refine lv_istore_n (lv' := [(3, .int (ord x2.toNatClampNeg)), (0, .ref (a 6)), (1, .ref (a 5)), (2, .int x2)]) hx hb dX8_spread_23 rfl hl (by decide) rfl (fun ls hl => ?_)
        refine lv_iconst (v := 0) hx hb dX8_spread_24 (by decide) ?_
        refine lv_istore (lv' := [(4, .int 0), (3, .int (ord x2.toNatClampNeg)), (0, .ref (a 6)), (1, .ref (a 5)), (2, .int x2)]) hx hb dX8_spread_25 hl (by decide) rfl (fun ls hl => ?_)
        obtain ⟨z_13, hz_14, h⟩ := nx_bd h
        refine L27 _ _ N _ _ _ _ _ _ _ _ hz_14 H locs ls hP hS (lv_sub hl [2, 3, 4, 1, 0] rfl) (fun H locs ls hP hS hl => ?_)
        refine lv_iinc (v := (x2 + 1)) (lv' := [(2, .int (x2 + 1)), (0, .ref (a 6)), (1, .ref (a 5))]) hx hb dX8_spread_53 hl (k := 2) rfl rfl (by decide) rfl (fun ls hl => ?_)
        refine lv_goto (tgt := 2) hx hb dX8_spread_56 (by decide) ?_
        exact ih _ _ _ _ _ _ _ z h H locs ls hP hS (lv_sub hl [1, 2, 0] rfl) kR
  unfold f_X8_spread_r5 at h
  suffices hw : ∀ (H : Heap) (locs : List Loc), va_P E.1 vwCl (cW E a size on kinds marks nb reached dist lastW par ord paths costs wanted tlen onlyF found steps plen rowW rowS tally) H → va_S (nx_A a 24 s.heap.size) s.heap H locs → W p l e (nx_rm 3 68) s m args below meth c H locs 0 0 Q (F0 m 0 ls []) from hw _ _ hP va_S.rf
  intro H locs hP hS
  refine lv_iconst (v := 0) hx hb dX8_spread_0 (by decide) ?_
  refine lv_istore_n (lv' := [(2, .int 0), (0, .ref (a 6)), (1, .ref (a 5))]) hx hb dX8_spread_1 rfl hl (by decide) rfl (fun ls hl => ?_)
  obtain ⟨z_15, hz_16, h⟩ := nx_bd h
  refine L2  N _ _ _ _ _ _ _ _ hz_16 H locs ls hP hS (lv_sub hl [1, 2, 0] rfl) (fun H locs ls hP hS hl => ?_)
  exact kr 59 ls (z_15.1, z_15.2.1, z_15.2.2.1, z_15.2.2.2.1, z_15.2.2.2.2.1, z_15.2.2.2.2.2) H locs dX8_spread_59 (Option.some.inj h) hP hS
def f_X8_distanceTo (x1 : Int32) (dist : Nat → Int32) : Option (Int32) :=
  (f_X8_isState x1).bind fun r_2 => if r_2 = 0 then (some (-1)) else ((nx_rd dist 600 x1).bind fun _ => some (dist x1.toNatClampNeg))
set_option maxHeartbeats 4000000 in
set_option maxRecDepth 100000 in
theorem c_X8_distanceTo (l : Launch) (E : nx_E) (sz : Nat) (a : Nat → Nat) (size : Int32) (on : Int32) (kinds : Nat → Int32) (marks : Nat → Int32) (nb : Nat → Int32) (reached : Int32) (dist : Nat → Int32) (lastW : Nat → Int32) (par : Nat → Int32) (ord : Nat → Int32) (paths : Nat → Int64) (costs : Nat → Int32) (wanted : Int32) (tlen : Int32) (onlyF : Int32) (found : Int32) (steps : Nat → Int32) (plen : Int32) (rowW : Nat → Int32) (rowS : Nat → Int32) (tally : Nat → Int32) (x1 : Int32) (o : Int32) (h : f_X8_distanceTo x1 dist = some o) : Met l yX8_distanceTo (.code yX8_distanceTo cX8_distanceTo 2 (some .int) :: nx_T) (nx_rm 1 20) (va_Pc [.ref (a 6), .int x1] (nx_P E (nx_F) sz (cW E a size on kinds marks nb reached dist lastW par ord paths costs wanted tlen onlyF found steps plen rowW rowS tally))) (va_Qi (fun v (_ : Unit) => v = o) (fun _ t => va_P E.1 vwCl (cW E a size on kinds marks nb reached dist lastW par ord paths costs wanted tlen onlyF found steps plen rowW rowS tally) t.heap) (nx_F)) 0 0 (nx_F) := by
  refine nx_enI (fun v (_ : Unit) => v = o) (fun (_ : Unit) => (cW E a size on kinds marks nb reached dist lastW par ord paths costs wanted tlen onlyF found steps plen rowW rowS tally)) (by decide) (Nat.le_of_ble_eq_true rfl) ?_
  intro p e s m below meth c Q X kr hsz hP ls hl
  subst hsz
  generalize hargs : (List.toArray [.ref (a 6), .int x1] : Array Value) = args at X kr ⊢
  clear hargs
  obtain ⟨⟨hx, hb, hml, hown, hts⟩, hK, hSt, hNz⟩ := id X
  have hS : va_S (nx_F) s.heap s.heap [] := va_S.rf
  have hl : lv_has ls 2 [(0, .ref (a 6)), (1, .int x1)] := hl
  unfold f_X8_distanceTo at h
  suffices hw : ∀ (H : Heap) (locs : List Loc), va_P E.1 vwCl (cW E a size on kinds marks nb reached dist lastW par ord paths costs wanted tlen onlyF found steps plen rowW rowS tally) H → va_S (nx_F) s.heap H locs → W p l e (nx_rm 1 20) s m args below meth c H locs 0 0 Q (F0 m 0 ls []) from hw _ _ hP va_S.rf
  intro H locs hP hS
  refine lv_iload_n hx hb dX8_distanceTo_0 rfl (lv_at hl 1 rfl) ?_
  obtain ⟨r_2, hc_1, h⟩ := nx_bd h
  refine nx_ki (nx_runS (As := [.int x1]) (rest := []) X hS hP (c_X8_isState l E H.size _ x1 _ hc_1) nx_FA qS_RX8_38 ⟨rfl, rfl⟩ ⟨Nat.le_of_ble_eq_true rfl, Nat.le_of_ble_eq_true rfl⟩ ⟨Nat.zero_le _, Nat.zero_le _⟩ rfl rfl hl.1 (Nat.le_of_ble_eq_true rfl) dX8_distanceTo_1) hS nx_FA (fun H locs hP hS => ?_)
  refine lv_if_eq (tgt := 16) hx hb dX8_distanceTo_4 (by decide) (fun hc => ?_) (fun hc => ?_)
  · have h := nx_it h hc
    refine lv_iconst (v := (-1)) hx hb dX8_distanceTo_16 (by decide) ?_
    exact kr 17 ls (-1) () H locs dX8_distanceTo_17 (Option.some.inj h) hP hS
  · have h := nx_if h hc
    refine lv_aload_n hx hb dX8_distanceTo_7 rfl (lv_at hl 0 rfl) ?_
    refine nx_gf X hP uw_X8 (ci := 7) rfl 6 rfl 0 (by decide) wf_RX8_9 rfl dX8_distanceTo_8 ?_
    refine lv_iload_n hx hb dX8_distanceTo_11 rfl (lv_at hl 1 rfl) ?_
    obtain ⟨hv_3, h⟩ := nx_rb h
    refine nx_ld X hP 7 rfl hv_3 dX8_distanceTo_12 ?_
    refine lv_goto (tgt := 17) hx hb dX8_distanceTo_13 (by decide) ?_
    exact kr 17 ls (dist x1.toNatClampNeg) () H locs dX8_distanceTo_17 (Option.some.inj h) hP hS
def f_X10_apart (N : Nat) (x1 : Int32) (x2 : Int32) (reached : Int32) (dist : Nat → Int32) (lastW : Nat → Int32) (par : Nat → Int32) (ord : Nat → Int32) (paths : Nat → Int64) : Option (Int32 × (Int32 × (Nat → Int32) × (Nat → Int32) × (Nat → Int32) × (Nat → Int32) × (Nat → Int64))) :=
  (f_X10_isStance x1).bind fun r_2 => if r_2 = 0 then (some ((-1), (reached, dist, lastW, par, ord, paths))) else ((f_X10_isStance x2).bind fun r_4 => if r_4 = 0 then (some ((-1), (reached, dist, lastW, par, ord, paths))) else ((f_X8_begin N x1 reached dist lastW par ord paths).bind fun t_12 => (f_X8_spread_r5 N t_12.1 t_12.2.1 t_12.2.2.1 t_12.2.2.2.1 t_12.2.2.2.2.1 t_12.2.2.2.2.2).bind fun t_20 => (f_X8_distanceTo x2 t_20.2.1).bind fun r_22 => (f_X10_noneIfNowhere r_22).bind fun r_24 => some (r_24, (t_20.1, t_20.2.1, t_20.2.2.1, t_20.2.2.2.1, t_20.2.2.2.2.1, t_20.2.2.2.2.2))))
set_option maxHeartbeats 4000000 in
set_option maxRecDepth 100000 in
theorem c_X10_apart (l : Launch) (N : Nat) (E : nx_E) (sz : Nat) (a : Nat → Nat) (size : Int32) (on : Int32) (kinds : Nat → Int32) (marks : Nat → Int32) (nb : Nat → Int32) (reached : Int32) (dist : Nat → Int32) (lastW : Nat → Int32) (par : Nat → Int32) (ord : Nat → Int32) (paths : Nat → Int64) (costs : Nat → Int32) (wanted : Int32) (tlen : Int32) (onlyF : Int32) (found : Int32) (steps : Nat → Int32) (plen : Int32) (rowW : Nat → Int32) (rowS : Nat → Int32) (tally : Nat → Int32) (x1 : Int32) (x2 : Int32) (hI : nx_inj a 24) (o : Int32 × (Int32 × (Nat → Int32) × (Nat → Int32) × (Nat → Int32) × (Nat → Int32) × (Nat → Int64))) (h : f_X10_apart N x1 x2 reached dist lastW par ord paths = some o) : Met l yX10_apart (.code yX10_apart cX10_apart 3 (some .int) :: nx_T) (nx_rm 4 92) (va_Pc [.ref (a 0), .int x1, .int x2] (nx_P E (nx_A a 24 sz) sz (cW E a size on kinds marks nb reached dist lastW par ord paths costs wanted tlen onlyF found steps plen rowW rowS tally))) (va_Qi (fun v u => (v, u) = o) (fun u t => va_P E.1 vwCl (cW E a size on kinds marks nb (u.1) (u.2.1) (u.2.2.1) (u.2.2.2.1) (u.2.2.2.2.1) (u.2.2.2.2.2) costs wanted tlen onlyF found steps plen rowW rowS tally) t.heap) (nx_A a 24 sz)) 0 0 (nx_A a 24 sz) := by
  refine nx_enI (fun v u => (v, u) = o) (fun (u : Int32 × (Nat → Int32) × (Nat → Int32) × (Nat → Int32) × (Nat → Int32) × (Nat → Int64)) => (cW E a size on kinds marks nb (u.1) (u.2.1) (u.2.2.1) (u.2.2.2.1) (u.2.2.2.2.1) (u.2.2.2.2.2) costs wanted tlen onlyF found steps plen rowW rowS tally)) (by decide) (Nat.le_of_ble_eq_true rfl) ?_
  intro p e s m below meth c Q X kr hsz hP ls hl
  subst hsz
  generalize hargs : (List.toArray [.ref (a 0), .int x1, .int x2] : Array Value) = args at X kr ⊢
  clear hargs
  obtain ⟨⟨hx, hb, hml, hown, hts⟩, hK, hSt, hNz⟩ := id X
  have hS : va_S (nx_A a 24 s.heap.size) s.heap s.heap [] := va_S.rf
  have hl : lv_has ls 3 [(0, .ref (a 0)), (1, .int x1), (2, .int x2)] := hl
  unfold f_X10_apart at h
  suffices hw : ∀ (H : Heap) (locs : List Loc), va_P E.1 vwCl (cW E a size on kinds marks nb reached dist lastW par ord paths costs wanted tlen onlyF found steps plen rowW rowS tally) H → va_S (nx_A a 24 s.heap.size) s.heap H locs → W p l e (nx_rm 4 92) s m args below meth c H locs 0 0 Q (F0 m 0 ls []) from hw _ _ hP va_S.rf
  intro H locs hP hS
  refine lv_iload_n hx hb dX10_apart_0 rfl (lv_at hl 1 rfl) ?_
  obtain ⟨r_2, hc_1, h⟩ := nx_bd h
  refine nx_ki (nx_runS (As := [.int x1]) (rest := []) X hS hP (c_X10_isStance l E H.size _ x1 _ hc_1) nx_FA qS_RX10_110 ⟨rfl, rfl⟩ ⟨Nat.le_of_ble_eq_true rfl, Nat.le_of_ble_eq_true rfl⟩ ⟨Nat.zero_le _, Nat.zero_le _⟩ rfl rfl hl.1 (Nat.le_of_ble_eq_true rfl) dX10_apart_1) hS nx_FA (fun H locs hP hS => ?_)
  refine lv_if_eq (tgt := 14) hx hb dX10_apart_4 (by decide) (fun hc => ?_) (fun hc => ?_)
  · have h := nx_it h hc
    refine lv_iconst (v := (-1)) hx hb dX10_apart_14 (by decide) ?_
    exact kr 15 ls (-1) (reached, dist, lastW, par, ord, paths) H locs dX10_apart_15 (Option.some.inj h) hP hS
  · have h := nx_if h hc
    refine lv_iload_n hx hb dX10_apart_7 rfl (lv_at hl 2 rfl) ?_
    obtain ⟨r_4, hc_3, h⟩ := nx_bd h
    refine nx_ki (nx_runS (As := [.int x2]) (rest := []) X hS hP (c_X10_isStance l E H.size _ x2 _ hc_3) nx_FA qS_RX10_110 ⟨rfl, rfl⟩ ⟨Nat.le_of_ble_eq_true rfl, Nat.le_of_ble_eq_true rfl⟩ ⟨Nat.zero_le _, Nat.zero_le _⟩ rfl rfl hl.1 (Nat.le_of_ble_eq_true rfl) dX10_apart_8) hS nx_FA (fun H locs hP hS => ?_)
    refine lv_if_ne (tgt := 16) hx hb dX10_apart_11 (by decide) (fun hc => ?_) (fun hc => ?_)
    · have h := nx_if h hc
      refine lv_aload_n hx hb dX10_apart_16 rfl (lv_at hl 0 rfl) ?_
      refine nx_gf X hP uw_X10 (ci := 9) rfl 0 rfl 2 (by decide) wf_RX10_26 rfl dX10_apart_17 ?_
      refine lv_iload_n hx hb dX10_apart_20 rfl (lv_at hl 1 rfl) ?_
      obtain ⟨⟨k_6, k_7, k_8, k_9, k_10, k_11⟩, hc_5, h⟩ := nx_bd h
      refine nx_kv (nx_runV (As := [.int x1]) (rest := []) X hS hP (c_X8_begin l N E H.size a size on kinds marks nb reached dist lastW par ord paths costs wanted tlen onlyF found steps plen rowW rowS tally x1 hI _ hc_5) (nx_Am hS.1) qV_RX10_135 ⟨rfl, rfl⟩ ⟨Nat.le_of_ble_eq_true rfl, Nat.le_of_ble_eq_true rfl⟩ ⟨Nat.zero_le _, Nat.zero_le _⟩ 6 rfl rfl rfl rfl hl.1 (Nat.le_of_ble_eq_true rfl) dX10_apart_21) hS (nx_Am hS.1) (fun H locs hP hS => ?_)
      have hP : va_P E.1 vwCl (cW E a size on kinds marks nb k_6 k_7 k_8 k_9 k_10 k_11 costs wanted tlen onlyF found steps plen rowW rowS tally) H := hP
      refine lv_aload_n hx hb dX10_apart_24 rfl (lv_at hl 0 rfl) ?_
      refine nx_gf X hP uw_X10 (ci := 9) rfl 0 rfl 2 (by decide) wf_RX10_26 rfl dX10_apart_25 ?_
      refine lv_aload_n hx hb dX10_apart_28 rfl (lv_at hl 0 rfl) ?_
      refine nx_gf X hP uw_X10 (ci := 9) rfl 0 rfl 1 (by decide) wf_RX10_19 rfl dX10_apart_29 ?_
      obtain ⟨⟨k_14, k_15, k_16, k_17, k_18, k_19⟩, hc_13, h⟩ := nx_bd h
      refine nx_kv (nx_runV (As := [.ref (a 5)]) (rest := []) X hS hP (c_X8_spread_r5 l N E H.size a size on kinds marks nb k_6 k_7 k_8 k_9 k_10 k_11 costs wanted tlen onlyF found steps plen rowW rowS tally hI _ hc_13) (nx_Am hS.1) qV_RX10_139 ⟨rfl, rfl⟩ ⟨Nat.le_of_ble_eq_true rfl, Nat.le_of_ble_eq_true rfl⟩ ⟨Nat.zero_le _, Nat.zero_le _⟩ 6 rfl rfl rfl rfl hl.1 (Nat.le_of_ble_eq_true rfl) dX10_apart_32) hS (nx_Am hS.1) (fun H locs hP hS => ?_)
      have hP : va_P E.1 vwCl (cW E a size on kinds marks nb k_14 k_15 k_16 k_17 k_18 k_19 costs wanted tlen onlyF found steps plen rowW rowS tally) H := hP
      refine lv_aload_n hx hb dX10_apart_35 rfl (lv_at hl 0 rfl) ?_
      refine nx_gf X hP uw_X10 (ci := 9) rfl 0 rfl 2 (by decide) wf_RX10_26 rfl dX10_apart_36 ?_
      refine lv_iload_n hx hb dX10_apart_39 rfl (lv_at hl 2 rfl) ?_
      obtain ⟨r_22, hc_21, h⟩ := nx_bd h
      refine nx_ki (nx_runV (As := [.int x2]) (rest := []) X hS hP (c_X8_distanceTo l E H.size a size on kinds marks nb k_14 k_15 k_16 k_17 k_18 k_19 costs wanted tlen onlyF found steps plen rowW rowS tally x2 _ hc_21) nx_FA qV_RX10_143 ⟨rfl, rfl⟩ ⟨Nat.le_of_ble_eq_true rfl, Nat.le_of_ble_eq_true rfl⟩ ⟨Nat.zero_le _, Nat.zero_le _⟩ 6 rfl rfl rfl rfl hl.1 (Nat.le_of_ble_eq_true rfl) dX10_apart_40) hS nx_FA (fun H locs hP hS => ?_)
      obtain ⟨r_24, hc_23, h⟩ := nx_bd h
      refine nx_ki (nx_runS (As := [.int r_22]) (rest := []) X hS hP (c_X10_noneIfNowhere l E H.size _ r_22 _ hc_23) nx_FA qS_RX10_146 ⟨rfl, rfl⟩ ⟨Nat.le_of_ble_eq_true rfl, Nat.le_of_ble_eq_true rfl⟩ ⟨Nat.zero_le _, Nat.zero_le _⟩ rfl rfl hl.1 (Nat.le_of_ble_eq_true rfl) dX10_apart_43) hS nx_FA (fun H locs hP hS => ?_)
      exact kr 46 ls r_24 (k_14, k_15, k_16, k_17, k_18, k_19) H locs dX10_apart_46 (Option.some.inj h) hP hS
    · have h := nx_it h hc
      refine lv_iconst (v := (-1)) hx hb dX10_apart_14 (by decide) ?_
      exact kr 15 ls (-1) (reached, dist, lastW, par, ord, paths) H locs dX10_apart_15 (Option.some.inj h) hP hS
def f_X10_isStart (x1 : Int32) (x2 : Int32) (size : Int32) : Option (Int32) :=
  (f_X2_has x1 size).bind fun r_2 => if r_2 = 0 then (some 0) else ((f_X10_isStance x2).bind fun r_4 => if r_4 = 0 then (some 0) else (some 1))
set_option maxHeartbeats 4000000 in
set_option maxRecDepth 100000 in
theorem c_X10_isStart (l : Launch) (E : nx_E) (sz : Nat) (a : Nat → Nat) (size : Int32) (on : Int32) (kinds : Nat → Int32) (marks : Nat → Int32) (nb : Nat → Int32) (reached : Int32) (dist : Nat → Int32) (lastW : Nat → Int32) (par : Nat → Int32) (ord : Nat → Int32) (paths : Nat → Int64) (costs : Nat → Int32) (wanted : Int32) (tlen : Int32) (onlyF : Int32) (found : Int32) (steps : Nat → Int32) (plen : Int32) (rowW : Nat → Int32) (rowS : Nat → Int32) (tally : Nat → Int32) (x1 : Int32) (x2 : Int32) (o : Int32) (h : f_X10_isStart x1 x2 size = some o) : Met l yX10_isStart (.code yX10_isStart cX10_isStart 3 (some .boolean) :: nx_T) (nx_rm 1 21) (va_Pc [.ref (a 0), .int x1, .int x2] (nx_P E (nx_F) sz (cW E a size on kinds marks nb reached dist lastW par ord paths costs wanted tlen onlyF found steps plen rowW rowS tally))) (va_Qi (fun v (_ : Unit) => v = o) (fun _ t => va_P E.1 vwCl (cW E a size on kinds marks nb reached dist lastW par ord paths costs wanted tlen onlyF found steps plen rowW rowS tally) t.heap) (nx_F)) 0 0 (nx_F) := by
  refine nx_enZ (fun v (_ : Unit) => v = o) (fun (_ : Unit) => (cW E a size on kinds marks nb reached dist lastW par ord paths costs wanted tlen onlyF found steps plen rowW rowS tally)) (by decide) (Nat.le_of_ble_eq_true rfl) ?_
  intro p e s m below meth c Q X kr hsz hP ls hl
  subst hsz
  generalize hargs : (List.toArray [.ref (a 0), .int x1, .int x2] : Array Value) = args at X kr ⊢
  clear hargs
  obtain ⟨⟨hx, hb, hml, hown, hts⟩, hK, hSt, hNz⟩ := id X
  have hS : va_S (nx_F) s.heap s.heap [] := va_S.rf
  have hl : lv_has ls 3 [(0, .ref (a 0)), (1, .int x1), (2, .int x2)] := hl
  unfold f_X10_isStart at h
  suffices hw : ∀ (H : Heap) (locs : List Loc), va_P E.1 vwCl (cW E a size on kinds marks nb reached dist lastW par ord paths costs wanted tlen onlyF found steps plen rowW rowS tally) H → va_S (nx_F) s.heap H locs → W p l e (nx_rm 1 21) s m args below meth c H locs 0 0 Q (F0 m 0 ls []) from hw _ _ hP va_S.rf
  intro H locs hP hS
  refine lv_aload_n hx hb dX10_isStart_0 rfl (lv_at hl 0 rfl) ?_
  refine nx_gf X hP uw_X10 (ci := 9) rfl 0 rfl 0 (by decide) wf_RX10_12 rfl dX10_isStart_1 ?_
  refine lv_iload_n hx hb dX10_isStart_4 rfl (lv_at hl 1 rfl) ?_
  obtain ⟨r_2, hc_1, h⟩ := nx_bd h
  refine nx_ki (nx_runV (As := [.int x1]) (rest := []) X hS hP (c_X2_has l E H.size a size on kinds marks nb reached dist lastW par ord paths costs wanted tlen onlyF found steps plen rowW rowS tally x1 _ hc_1) nx_FA qV_RX10_85 ⟨rfl, rfl⟩ ⟨Nat.le_of_ble_eq_true rfl, Nat.le_of_ble_eq_true rfl⟩ ⟨Nat.zero_le _, Nat.zero_le _⟩ 1 rfl rfl rfl rfl hl.1 (Nat.le_of_ble_eq_true rfl) dX10_isStart_5) hS nx_FA (fun H locs hP hS => ?_)
  refine lv_if_eq (tgt := 22) hx hb dX10_isStart_8 (by decide) (fun hc => ?_) (fun hc => ?_)
  · have h := nx_it h hc
    refine lv_iconst (v := 0) hx hb dX10_isStart_22 (by decide) ?_
    exact kr 23 ls 0 () H locs dX10_isStart_23 (Or.inl rfl) (Option.some.inj h) hP hS
  · have h := nx_if h hc
    refine lv_iload_n hx hb dX10_isStart_11 rfl (lv_at hl 2 rfl) ?_
    obtain ⟨r_4, hc_3, h⟩ := nx_bd h
    refine nx_ki (nx_runS (As := [.int x2]) (rest := []) X hS hP (c_X10_isStance l E H.size _ x2 _ hc_3) nx_FA qS_RX10_110 ⟨rfl, rfl⟩ ⟨Nat.le_of_ble_eq_true rfl, Nat.le_of_ble_eq_true rfl⟩ ⟨Nat.zero_le _, Nat.zero_le _⟩ rfl rfl hl.1 (Nat.le_of_ble_eq_true rfl) dX10_isStart_12) hS nx_FA (fun H locs hP hS => ?_)
    refine lv_if_eq (tgt := 22) hx hb dX10_isStart_15 (by decide) (fun hc => ?_) (fun hc => ?_)
    · have h := nx_it h hc
      refine lv_iconst (v := 0) hx hb dX10_isStart_22 (by decide) ?_
      exact kr 23 ls 0 () H locs dX10_isStart_23 (Or.inl rfl) (Option.some.inj h) hP hS
    · have h := nx_if h hc
      refine lv_iconst (v := 1) hx hb dX10_isStart_18 (by decide) ?_
      refine lv_goto (tgt := 23) hx hb dX10_isStart_19 (by decide) ?_
      exact kr 23 ls 1 () H locs dX10_isStart_23 (Or.inr rfl) (Option.some.inj h) hP hS
def f_X4_at (x0 : Int32) (x1 : Int32)  : Option (Int32) :=
  some ((24 * x0) + x1)
set_option maxHeartbeats 4000000 in
set_option maxRecDepth 100000 in
theorem c_X4_at (l : Launch) (E : nx_E) (sz : Nat) (ws : va_W) (x0 : Int32) (x1 : Int32) (o : Int32) (h : f_X4_at x0 x1 = some o) : Met l yX4_at (.code yX4_at cX4_at 2 (some .int) :: nx_T) (nx_rm 0 0) (va_Pc [.int x0, .int x1] (nx_P E (nx_F) sz ws)) (va_Qi (fun v (_ : Unit) => v = o) (fun _ t => va_P E.1 vwCl ws t.heap) (nx_F)) 0 0 (nx_F) := by
  refine nx_enI (fun v (_ : Unit) => v = o) (fun (_ : Unit) => ws) (by decide) (Nat.le_of_ble_eq_true rfl) ?_
  intro p e s m below meth c Q X kr hsz hP ls hl
  subst hsz
  generalize hargs : (List.toArray [.int x0, .int x1] : Array Value) = args at X kr ⊢
  clear hargs
  obtain ⟨⟨hx, hb, hml, hown, hts⟩, hK, hSt, hNz⟩ := id X
  have hS : va_S (nx_F) s.heap s.heap [] := va_S.rf
  have hl : lv_has ls 2 [(0, .int x0), (1, .int x1)] := hl
  unfold f_X4_at at h
  suffices hw : ∀ (H : Heap) (locs : List Loc), va_P E.1 vwCl ws H → va_S (nx_F) s.heap H locs → W p l e (nx_rm 0 0) s m args below meth c H locs 0 0 Q (F0 m 0 ls []) from hw _ _ hP va_S.rf
  intro H locs hP hS
  refine lv_bipush (v := 24) hx hb dX4_at_0 (by decide) ?_
  refine lv_iload_n hx hb dX4_at_2 rfl (lv_at hl 0 rfl) ?_
  refine lv_imul hx hb dX4_at_3 ?_
  refine lv_iload_n hx hb dX4_at_4 rfl (lv_at hl 1 rfl) ?_
  refine lv_iadd hx hb dX4_at_5 ?_
  exact kr 6 ls ((24 * x0) + x1) () H locs dX4_at_6 (Option.some.inj h) hP hS
def f_X4_cellOf (x0 : Int32)  : Option (Int32) :=
  some (x0 / 24)
set_option maxHeartbeats 4000000 in
set_option maxRecDepth 100000 in
theorem c_X4_cellOf (l : Launch) (E : nx_E) (sz : Nat) (ws : va_W) (x0 : Int32) (o : Int32) (h : f_X4_cellOf x0 = some o) : Met l yX4_cellOf (.code yX4_cellOf cX4_cellOf 1 (some .int) :: nx_T) (nx_rm 0 0) (va_Pc [.int x0] (nx_P E (nx_F) sz ws)) (va_Qi (fun v (_ : Unit) => v = o) (fun _ t => va_P E.1 vwCl ws t.heap) (nx_F)) 0 0 (nx_F) := by
  refine nx_enI (fun v (_ : Unit) => v = o) (fun (_ : Unit) => ws) (by decide) (Nat.le_of_ble_eq_true rfl) ?_
  intro p e s m below meth c Q X kr hsz hP ls hl
  subst hsz
  generalize hargs : (List.toArray [.int x0] : Array Value) = args at X kr ⊢
  clear hargs
  obtain ⟨⟨hx, hb, hml, hown, hts⟩, hK, hSt, hNz⟩ := id X
  have hS : va_S (nx_F) s.heap s.heap [] := va_S.rf
  have hl : lv_has ls 1 [(0, .int x0)] := hl
  unfold f_X4_cellOf at h
  suffices hw : ∀ (H : Heap) (locs : List Loc), va_P E.1 vwCl ws H → va_S (nx_F) s.heap H locs → W p l e (nx_rm 0 0) s m args below meth c H locs 0 0 Q (F0 m 0 ls []) from hw _ _ hP va_S.rf
  intro H locs hP hS
  refine lv_iload_n hx hb dX4_cellOf_0 rfl (lv_at hl 0 rfl) ?_
  refine lv_bipush (v := 24) hx hb dX4_cellOf_1 (by decide) ?_
  refine lv_idiv hx hb dX4_cellOf_3 (by decide) ?_
  exact kr 4 ls (x0 / 24) () H locs dX4_cellOf_4 (Option.some.inj h) hP hS
def f_X4_stanceOf (x0 : Int32)  : Option (Int32) :=
  some (x0 - x0 / 24 * 24)
set_option maxHeartbeats 4000000 in
set_option maxRecDepth 100000 in
theorem c_X4_stanceOf (l : Launch) (E : nx_E) (sz : Nat) (ws : va_W) (x0 : Int32) (o : Int32) (h : f_X4_stanceOf x0 = some o) : Met l yX4_stanceOf (.code yX4_stanceOf cX4_stanceOf 1 (some .int) :: nx_T) (nx_rm 0 0) (va_Pc [.int x0] (nx_P E (nx_F) sz ws)) (va_Qi (fun v (_ : Unit) => v = o) (fun _ t => va_P E.1 vwCl ws t.heap) (nx_F)) 0 0 (nx_F) := by
  refine nx_enI (fun v (_ : Unit) => v = o) (fun (_ : Unit) => ws) (by decide) (Nat.le_of_ble_eq_true rfl) ?_
  intro p e s m below meth c Q X kr hsz hP ls hl
  subst hsz
  generalize hargs : (List.toArray [.int x0] : Array Value) = args at X kr ⊢
  clear hargs
  obtain ⟨⟨hx, hb, hml, hown, hts⟩, hK, hSt, hNz⟩ := id X
  have hS : va_S (nx_F) s.heap s.heap [] := va_S.rf
  have hl : lv_has ls 1 [(0, .int x0)] := hl
  unfold f_X4_stanceOf at h
  suffices hw : ∀ (H : Heap) (locs : List Loc), va_P E.1 vwCl ws H → va_S (nx_F) s.heap H locs → W p l e (nx_rm 0 0) s m args below meth c H locs 0 0 Q (F0 m 0 ls []) from hw _ _ hP va_S.rf
  intro H locs hP hS
  refine lv_iload_n hx hb dX4_stanceOf_0 rfl (lv_at hl 0 rfl) ?_
  refine lv_bipush (v := 24) hx hb dX4_stanceOf_1 (by decide) ?_
  refine lv_irem hx hb dX4_stanceOf_3 (by decide) ?_
  exact kr 4 ls (x0 - x0 / 24 * 24) () H locs dX4_stanceOf_4 (Option.some.inj h) hP hS
def f_X4_after_j68 (x3 : Int32) (x4 : Int32) : Option (Int32) :=
  (f_X4_at x3 x4).bind fun r_2 => some r_2
def f_X4_after (x1 : Int32) (x2 : Int32) (size : Int32) (on : Int32) (kinds : Nat → Int32) (marks : Nat → Int32) (nb : Nat → Int32) : Option (Int32) :=
  (f_X4_cellOf x1).bind fun r_4 => (f_X2_beside r_4 x2 size nb).bind fun r_6 => (f_X2_groupsOn on).bind fun r_8 => (f_X2_isOpen r_6 r_8 size kinds).bind fun r_10 => if r_10 = 0 then (some (-1)) else ((f_X4_stanceOf x1).bind fun r_12 => (f_X3_turned r_12 x2).bind fun r_14 => (f_X2_markOf r_6 size marks).bind fun r_16 => if r_16 = 0 then (f_X4_after_j68 r_6 r_14) else ((f_X3_topOf r_14).bind fun r_18 => if r_16 = r_18 then (f_X4_after_j68 r_6 r_14) else (some (-1))))
set_option maxHeartbeats 4000000 in
set_option maxRecDepth 100000 in
theorem c_X4_after (l : Launch) (E : nx_E) (sz : Nat) (a : Nat → Nat) (size : Int32) (on : Int32) (kinds : Nat → Int32) (marks : Nat → Int32) (nb : Nat → Int32) (reached : Int32) (dist : Nat → Int32) (lastW : Nat → Int32) (par : Nat → Int32) (ord : Nat → Int32) (paths : Nat → Int64) (costs : Nat → Int32) (wanted : Int32) (tlen : Int32) (onlyF : Int32) (found : Int32) (steps : Nat → Int32) (plen : Int32) (rowW : Nat → Int32) (rowS : Nat → Int32) (tally : Nat → Int32) (x1 : Int32) (x2 : Int32) (o : Int32) (h : f_X4_after x1 x2 size on kinds marks nb = some o) : Met l yX4_after (.code yX4_after cX4_after 6 (some .int) :: nx_T) (nx_rm 2 46) (va_Pc [.ref (a 12), .int x1, .int x2] (nx_P E (nx_F) sz (cW E a size on kinds marks nb reached dist lastW par ord paths costs wanted tlen onlyF found steps plen rowW rowS tally))) (va_Qi (fun v (_ : Unit) => v = o) (fun _ t => va_P E.1 vwCl (cW E a size on kinds marks nb reached dist lastW par ord paths costs wanted tlen onlyF found steps plen rowW rowS tally) t.heap) (nx_F)) 0 0 (nx_F) := by
  refine nx_enI (fun v (_ : Unit) => v = o) (fun (_ : Unit) => (cW E a size on kinds marks nb reached dist lastW par ord paths costs wanted tlen onlyF found steps plen rowW rowS tally)) (by decide) (Nat.le_of_ble_eq_true rfl) ?_
  intro p e s m below meth c Q X kr hsz hP ls hl
  subst hsz
  generalize hargs : (List.toArray [.ref (a 12), .int x1, .int x2] : Array Value) = args at X kr ⊢
  clear hargs
  obtain ⟨⟨hx, hb, hml, hown, hts⟩, hK, hSt, hNz⟩ := id X
  have hS : va_S (nx_F) s.heap s.heap [] := va_S.rf
  have hl : lv_has ls 6 [(0, .ref (a 12)), (1, .int x1), (2, .int x2)] := hl
  have J68 : ∀ (x3 : Int32) (x4 : Int32), f_X4_after_j68 x3 x4 = some o → ∀ (H : Heap) (locs : List Loc) (ls : Array Slot), va_P E.1 vwCl (cW E a size on kinds marks nb reached dist lastW par ord paths costs wanted tlen onlyF found steps plen rowW rowS tally) H → va_S (nx_F) s.heap H locs → lv_has ls 6 [(0, .ref (a 12)), (3, .int x3), (4, .int x4)] → W p l e (nx_rm 2 46) s m args below meth c H locs 0 0 Q (F0 m 68 ls []) := by
    intro x3 x4 h H locs ls hP hS hl
    unfold f_X4_after_j68 at h
    refine lv_iload_n hx hb dX4_after_68 rfl (lv_at hl 1 rfl) ?_
    refine lv_iload hx hb dX4_after_69 (lv_at hl 2 rfl) ?_
    obtain ⟨r_2, hc_1, h⟩ := nx_bd h
    refine nx_ki (nx_runS (As := [.int x3, .int x4]) (rest := []) X hS hP (c_X4_at l E H.size _ x3 x4 _ hc_1) nx_FA qS_RX4_50 ⟨rfl, rfl⟩ ⟨Nat.le_of_ble_eq_true rfl, Nat.le_of_ble_eq_true rfl⟩ ⟨Nat.zero_le _, Nat.zero_le _⟩ rfl rfl hl.1 (Nat.le_of_ble_eq_true rfl) dX4_after_71) hS nx_FA (fun H locs hP hS => ?_)
    refine lv_goto (tgt := 78) hx hb dX4_after_74 (by decide) ?_
    exact kr 78 ls r_2 () H locs dX4_after_78 (Option.some.inj h) hP hS
  unfold f_X4_after at h
  suffices hw : ∀ (H : Heap) (locs : List Loc), va_P E.1 vwCl (cW E a size on kinds marks nb reached dist lastW par ord paths costs wanted tlen onlyF found steps plen rowW rowS tally) H → va_S (nx_F) s.heap H locs → W p l e (nx_rm 2 46) s m args below meth c H locs 0 0 Q (F0 m 0 ls []) from hw _ _ hP va_S.rf
  intro H locs hP hS
  refine lv_aload_n hx hb dX4_after_0 rfl (lv_at hl 0 rfl) ?_
  refine nx_gf X hP uw_X4 (ci := 4) rfl 12 rfl 0 (by decide) wf_RX4_9 rfl dX4_after_1 ?_
  refine lv_iload_n hx hb dX4_after_4 rfl (lv_at hl 1 rfl) ?_
  obtain ⟨r_4, hc_3, h⟩ := nx_bd h
  refine nx_ki (nx_runS (As := [.int x1]) (rest := [.ref (a 1)]) X hS hP (c_X4_cellOf l E H.size _ x1 _ hc_3) nx_FA qS_RX4_24 ⟨rfl, rfl⟩ ⟨Nat.le_of_ble_eq_true rfl, Nat.le_of_ble_eq_true rfl⟩ ⟨Nat.zero_le _, Nat.zero_le _⟩ rfl rfl hl.1 (Nat.le_of_ble_eq_true rfl) dX4_after_5) hS nx_FA (fun H locs hP hS => ?_)
  refine lv_iload_n hx hb dX4_after_8 rfl (lv_at hl 2 rfl) ?_
  obtain ⟨r_6, hc_5, h⟩ := nx_bd h
  refine nx_ki (nx_runV (As := [.int r_4, .int x2]) (rest := []) X hS hP (c_X2_beside l E H.size a size on kinds marks nb reached dist lastW par ord paths costs wanted tlen onlyF found steps plen rowW rowS tally r_4 x2 _ hc_5) nx_FA qV_RX4_27 ⟨rfl, rfl⟩ ⟨Nat.le_of_ble_eq_true rfl, Nat.le_of_ble_eq_true rfl⟩ ⟨Nat.zero_le _, Nat.zero_le _⟩ 1 rfl rfl rfl rfl hl.1 (Nat.le_of_ble_eq_true rfl) dX4_after_9) hS nx_FA (fun H locs hP hS => ?_)
  refine lv_istore_n (lv' := [(3, .int r_6), (0, .ref (a 12)), (1, .int x1), (2, .int x2)]) hx hb dX4_after_12 rfl hl (by decide) rfl (fun ls hl => ?_)
  refine lv_aload_n hx hb dX4_after_13 rfl (lv_at hl 1 rfl) ?_
  refine nx_gf X hP uw_X4 (ci := 4) rfl 12 rfl 0 (by decide) wf_RX4_9 rfl dX4_after_14 ?_
  refine lv_iload_n hx hb dX4_after_17 rfl (lv_at hl 0 rfl) ?_
  refine lv_aload_n hx hb dX4_after_18 rfl (lv_at hl 1 rfl) ?_
  refine nx_gf X hP uw_X4 (ci := 4) rfl 12 rfl 0 (by decide) wf_RX4_9 rfl dX4_after_19 ?_
  obtain ⟨r_8, hc_7, h⟩ := nx_bd h
  refine nx_ki (nx_runV (As := []) (rest := [.int r_6, .ref (a 1)]) X hS hP (c_X2_groupsOn l E H.size a size on kinds marks nb reached dist lastW par ord paths costs wanted tlen onlyF found steps plen rowW rowS tally _ hc_7) nx_FA qV_RX4_33 ⟨rfl, rfl⟩ ⟨Nat.le_of_ble_eq_true rfl, Nat.le_of_ble_eq_true rfl⟩ ⟨Nat.zero_le _, Nat.zero_le _⟩ 1 rfl rfl rfl rfl hl.1 (Nat.le_of_ble_eq_true rfl) dX4_after_22) hS nx_FA (fun H locs hP hS => ?_)
  obtain ⟨r_10, hc_9, h⟩ := nx_bd h
  refine nx_ki (nx_runV (As := [.int r_6, .int r_8]) (rest := []) X hS hP (c_X2_isOpen l E H.size a size on kinds marks nb reached dist lastW par ord paths costs wanted tlen onlyF found steps plen rowW rowS tally r_6 r_8 _ hc_9) nx_FA qV_RX4_37 ⟨rfl, rfl⟩ ⟨Nat.le_of_ble_eq_true rfl, Nat.le_of_ble_eq_true rfl⟩ ⟨Nat.zero_le _, Nat.zero_le _⟩ 1 rfl rfl rfl rfl hl.1 (Nat.le_of_ble_eq_true rfl) dX4_after_25) hS nx_FA (fun H locs hP hS => ?_)
  refine lv_if_ne (tgt := 33) hx hb dX4_after_28 (by decide) (fun hc => ?_) (fun hc => ?_)
  · have h := nx_if h hc
    refine lv_iload_n hx hb dX4_after_33 rfl (lv_at hl 2 rfl) ?_
    obtain ⟨r_12, hc_11, h⟩ := nx_bd h
    refine nx_ki (nx_runS (As := [.int x1]) (rest := []) X hS hP (c_X4_stanceOf l E H.size _ x1 _ hc_11) nx_FA qS_RX4_15 ⟨rfl, rfl⟩ ⟨Nat.le_of_ble_eq_true rfl, Nat.le_of_ble_eq_true rfl⟩ ⟨Nat.zero_le _, Nat.zero_le _⟩ rfl rfl hl.1 (Nat.le_of_ble_eq_true rfl) dX4_after_34) hS nx_FA (fun H locs hP hS => ?_)
    refine lv_iload_n hx hb dX4_after_37 rfl (lv_at hl 3 rfl) ?_
    obtain ⟨r_14, hc_13, h⟩ := nx_bd h
    refine nx_ki (nx_runS (As := [.int r_12, .int x2]) (rest := []) X hS hP (c_X3_turned l E H.size _ r_12 x2 _ hc_13) nx_FA qS_RX4_41 ⟨rfl, rfl⟩ ⟨Nat.le_of_ble_eq_true rfl, Nat.le_of_ble_eq_true rfl⟩ ⟨Nat.zero_le _, Nat.zero_le _⟩ rfl rfl hl.1 (Nat.le_of_ble_eq_true rfl) dX4_after_38) hS nx_FA (fun H locs hP hS => ?_)
    refine lv_istore (lv' := [(4, .int r_14), (3, .int r_6), (0, .ref (a 12)), (1, .int x1), (2, .int x2)]) hx hb dX4_after_41 hl (by decide) rfl (fun ls hl => ?_)
    refine lv_aload_n hx hb dX4_after_43 rfl (lv_at hl 2 rfl) ?_
    refine nx_gf X hP uw_X4 (ci := 4) rfl 12 rfl 0 (by decide) wf_RX4_9 rfl dX4_after_44 ?_
    refine lv_iload_n hx hb dX4_after_47 rfl (lv_at hl 1 rfl) ?_
    obtain ⟨r_16, hc_15, h⟩ := nx_bd h
    refine nx_ki (nx_runV (As := [.int r_6]) (rest := []) X hS hP (c_X2_markOf l E H.size a size on kinds marks nb reached dist lastW par ord paths costs wanted tlen onlyF found steps plen rowW rowS tally r_6 _ hc_15) nx_FA qV_RX4_44 ⟨rfl, rfl⟩ ⟨Nat.le_of_ble_eq_true rfl, Nat.le_of_ble_eq_true rfl⟩ ⟨Nat.zero_le _, Nat.zero_le _⟩ 1 rfl rfl rfl rfl hl.1 (Nat.le_of_ble_eq_true rfl) dX4_after_48) hS nx_FA (fun H locs hP hS => ?_)
    refine lv_istore (lv' := [(5, .int r_16), (4, .int r_14), (3, .int r_6), (0, .ref (a 12)), (1, .int x1), (2, .int x2)]) hx hb dX4_after_51 hl (by decide) rfl (fun ls hl => ?_)
    refine lv_iload hx hb dX4_after_53 (lv_at hl 0 rfl) ?_
    refine lv_if_eq (tgt := 68) hx hb dX4_after_55 (by decide) (fun hc => ?_) (fun hc => ?_)
    · have h := nx_it h hc
      exact J68 _ _ h H locs ls hP hS (lv_sub hl [3, 2, 1] rfl)
    · have h := nx_if h hc
      refine lv_iload hx hb dX4_after_58 (lv_at hl 0 rfl) ?_
      refine lv_iload hx hb dX4_after_60 (lv_at hl 1 rfl) ?_
      obtain ⟨r_18, hc_17, h⟩ := nx_bd h
      refine nx_ki (nx_runS (As := [.int r_14]) (rest := [.int r_16]) X hS hP (c_X3_topOf l E H.size _ r_14 _ hc_17) nx_FA qS_RX4_47 ⟨rfl, rfl⟩ ⟨Nat.le_of_ble_eq_true rfl, Nat.le_of_ble_eq_true rfl⟩ ⟨Nat.zero_le _, Nat.zero_le _⟩ rfl rfl hl.1 (Nat.le_of_ble_eq_true rfl) dX4_after_62) hS nx_FA (fun H locs hP hS => ?_)
      refine lv_icmp_ne (tgt := 77) hx hb dX4_after_65 (by decide) (fun hc => ?_) (fun hc => ?_)
      · have h := nx_if h hc
        refine lv_iconst (v := (-1)) hx hb dX4_after_77 (by decide) ?_
        exact kr 78 ls (-1) () H locs dX4_after_78 (Option.some.inj h) hP hS
      · have h := nx_it h hc
        exact J68 _ _ h H locs ls hP hS (lv_sub hl [3, 2, 1] rfl)
  · have h := nx_it h hc
    refine lv_iconst (v := (-1)) hx hb dX4_after_31 (by decide) ?_
    exact kr 32 ls (-1) () H locs dX4_after_32 (Option.some.inj h) hP hS
def f_X10_roll (x1 : Int32) (x2 : Int32) (x3 : Int32) (size : Int32) (on : Int32) (kinds : Nat → Int32) (marks : Nat → Int32) (nb : Nat → Int32) : Option (Int32) :=
  (f_X10_isStart x1 x2 size).bind fun r_2 => if r_2 = 0 then (some (-1)) else ((f_X10_isWay x3).bind fun r_4 => if r_4 = 0 then (some (-2)) else ((f_X4_at x1 x2).bind fun r_6 => (f_X4_after r_6 x3 size on kinds marks nb).bind fun r_8 => (f_X10_noneIfNowhere r_8).bind fun r_10 => some r_10))
set_option maxHeartbeats 4000000 in
set_option maxRecDepth 100000 in
theorem c_X10_roll (l : Launch) (E : nx_E) (sz : Nat) (a : Nat → Nat) (size : Int32) (on : Int32) (kinds : Nat → Int32) (marks : Nat → Int32) (nb : Nat → Int32) (reached : Int32) (dist : Nat → Int32) (lastW : Nat → Int32) (par : Nat → Int32) (ord : Nat → Int32) (paths : Nat → Int64) (costs : Nat → Int32) (wanted : Int32) (tlen : Int32) (onlyF : Int32) (found : Int32) (steps : Nat → Int32) (plen : Int32) (rowW : Nat → Int32) (rowS : Nat → Int32) (tally : Nat → Int32) (x1 : Int32) (x2 : Int32) (x3 : Int32) (o : Int32) (h : f_X10_roll x1 x2 x3 size on kinds marks nb = some o) : Met l yX10_roll (.code yX10_roll cX10_roll 4 (some .int) :: nx_T) (nx_rm 3 71) (va_Pc [.ref (a 0), .int x1, .int x2, .int x3] (nx_P E (nx_F) sz (cW E a size on kinds marks nb reached dist lastW par ord paths costs wanted tlen onlyF found steps plen rowW rowS tally))) (va_Qi (fun v (_ : Unit) => v = o) (fun _ t => va_P E.1 vwCl (cW E a size on kinds marks nb reached dist lastW par ord paths costs wanted tlen onlyF found steps plen rowW rowS tally) t.heap) (nx_F)) 0 0 (nx_F) := by
  refine nx_enI (fun v (_ : Unit) => v = o) (fun (_ : Unit) => (cW E a size on kinds marks nb reached dist lastW par ord paths costs wanted tlen onlyF found steps plen rowW rowS tally)) (by decide) (Nat.le_of_ble_eq_true rfl) ?_
  intro p e s m below meth c Q X kr hsz hP ls hl
  subst hsz
  generalize hargs : (List.toArray [.ref (a 0), .int x1, .int x2, .int x3] : Array Value) = args at X kr ⊢
  clear hargs
  obtain ⟨⟨hx, hb, hml, hown, hts⟩, hK, hSt, hNz⟩ := id X
  have hS : va_S (nx_F) s.heap s.heap [] := va_S.rf
  have hl : lv_has ls 4 [(0, .ref (a 0)), (1, .int x1), (2, .int x2), (3, .int x3)] := hl
  unfold f_X10_roll at h
  suffices hw : ∀ (H : Heap) (locs : List Loc), va_P E.1 vwCl (cW E a size on kinds marks nb reached dist lastW par ord paths costs wanted tlen onlyF found steps plen rowW rowS tally) H → va_S (nx_F) s.heap H locs → W p l e (nx_rm 3 71) s m args below meth c H locs 0 0 Q (F0 m 0 ls []) from hw _ _ hP va_S.rf
  intro H locs hP hS
  refine lv_aload_n hx hb dX10_roll_0 rfl (lv_at hl 0 rfl) ?_
  refine lv_iload_n hx hb dX10_roll_1 rfl (lv_at hl 1 rfl) ?_
  refine lv_iload_n hx hb dX10_roll_2 rfl (lv_at hl 2 rfl) ?_
  obtain ⟨r_2, hc_1, h⟩ := nx_bd h
  refine nx_ki (nx_runV (As := [.int x1, .int x2]) (rest := []) X hS hP (c_X10_isStart l E H.size a size on kinds marks nb reached dist lastW par ord paths costs wanted tlen onlyF found steps plen rowW rowS tally x1 x2 _ hc_1) nx_FA qV_RX10_149 ⟨rfl, rfl⟩ ⟨Nat.le_of_ble_eq_true rfl, Nat.le_of_ble_eq_true rfl⟩ ⟨Nat.zero_le _, Nat.zero_le _⟩ 0 rfl rfl rfl rfl hl.1 (Nat.le_of_ble_eq_true rfl) dX10_roll_3) hS nx_FA (fun H locs hP hS => ?_)
  refine lv_if_ne (tgt := 11) hx hb dX10_roll_6 (by decide) (fun hc => ?_) (fun hc => ?_)
  · have h := nx_if h hc
    refine lv_iload_n hx hb dX10_roll_11 rfl (lv_at hl 3 rfl) ?_
    obtain ⟨r_4, hc_3, h⟩ := nx_bd h
    refine nx_ki (nx_runS (As := [.int x3]) (rest := []) X hS hP (c_X10_isWay l E H.size _ x3 _ hc_3) nx_FA qS_RX10_123 ⟨rfl, rfl⟩ ⟨Nat.le_of_ble_eq_true rfl, Nat.le_of_ble_eq_true rfl⟩ ⟨Nat.zero_le _, Nat.zero_le _⟩ rfl rfl hl.1 (Nat.le_of_ble_eq_true rfl) dX10_roll_12) hS nx_FA (fun H locs hP hS => ?_)
    refine lv_if_ne (tgt := 21) hx hb dX10_roll_15 (by decide) (fun hc => ?_) (fun hc => ?_)
    · have h := nx_if h hc
      refine lv_aload_n hx hb dX10_roll_21 rfl (lv_at hl 0 rfl) ?_
      refine nx_gf X hP uw_X10 (ci := 9) rfl 0 rfl 3 (by decide) wf_RX10_35 rfl dX10_roll_22 ?_
      refine lv_iload_n hx hb dX10_roll_25 rfl (lv_at hl 1 rfl) ?_
      refine lv_iload_n hx hb dX10_roll_26 rfl (lv_at hl 2 rfl) ?_
      obtain ⟨r_6, hc_5, h⟩ := nx_bd h
      refine nx_ki (nx_runS (As := [.int x1, .int x2]) (rest := [.ref (a 12)]) X hS hP (c_X4_at l E H.size _ x1 x2 _ hc_5) nx_FA qS_RX10_152 ⟨rfl, rfl⟩ ⟨Nat.le_of_ble_eq_true rfl, Nat.le_of_ble_eq_true rfl⟩ ⟨Nat.zero_le _, Nat.zero_le _⟩ rfl rfl hl.1 (Nat.le_of_ble_eq_true rfl) dX10_roll_27) hS nx_FA (fun H locs hP hS => ?_)
      refine lv_iload_n hx hb dX10_roll_30 rfl (lv_at hl 3 rfl) ?_
      obtain ⟨r_8, hc_7, h⟩ := nx_bd h
      refine nx_ki (nx_runV (As := [.int r_6, .int x3]) (rest := []) X hS hP (c_X4_after l E H.size a size on kinds marks nb reached dist lastW par ord paths costs wanted tlen onlyF found steps plen rowW rowS tally r_6 x3 _ hc_7) nx_FA qV_RX10_155 ⟨rfl, rfl⟩ ⟨Nat.le_of_ble_eq_true rfl, Nat.le_of_ble_eq_true rfl⟩ ⟨Nat.zero_le _, Nat.zero_le _⟩ 12 rfl rfl rfl rfl hl.1 (Nat.le_of_ble_eq_true rfl) dX10_roll_31) hS nx_FA (fun H locs hP hS => ?_)
      obtain ⟨r_10, hc_9, h⟩ := nx_bd h
      refine nx_ki (nx_runS (As := [.int r_8]) (rest := []) X hS hP (c_X10_noneIfNowhere l E H.size _ r_8 _ hc_9) nx_FA qS_RX10_146 ⟨rfl, rfl⟩ ⟨Nat.le_of_ble_eq_true rfl, Nat.le_of_ble_eq_true rfl⟩ ⟨Nat.zero_le _, Nat.zero_le _⟩ rfl rfl hl.1 (Nat.le_of_ble_eq_true rfl) dX10_roll_34) hS nx_FA (fun H locs hP hS => ?_)
      exact kr 37 ls r_10 () H locs dX10_roll_37 (Option.some.inj h) hP hS
    · have h := nx_it h hc
      refine lv_bipush (v := (-2)) hx hb dX10_roll_18 (by decide) ?_
      exact kr 20 ls (-2) () H locs dX10_roll_20 (Option.some.inj h) hP hS
  · have h := nx_it h hc
    refine lv_iconst (v := (-1)) hx hb dX10_roll_9 (by decide) ?_
    exact kr 10 ls (-1) () H locs dX10_roll_10 (Option.some.inj h) hP hS
