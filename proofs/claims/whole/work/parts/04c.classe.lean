def f_X10_refusalOfGoal_j41 (x4 : Int32) (s0 : Int32) : Option (Int32) :=
  if x4 = 0 then (some 0) else ((f_X10_isFace x4).bind fun r_2 => if r_2 = 0 then (if s0 = 0 then (some (-2)) else (some 0)) else (some 0))
def f_X10_refusalOfGoal (x1 : Int32) (x2 : Int32) (x3 : Int32) (x4 : Int32) (size : Int32) : Option (Int32) :=
  (f_X10_isStart x1 x2 size).bind fun r_4 => if r_4 = 0 then (some (-1)) else ((f_X2_has x3 size).bind fun r_6 => if r_6 = 0 then (some (-1)) else (if x4 < 10 then (f_X10_refusalOfGoal_j41 x4 0) else (if 34 ≤ x4 then (f_X10_refusalOfGoal_j41 x4 0) else (f_X10_refusalOfGoal_j41 x4 1))))
set_option maxHeartbeats 4000000 in
set_option maxRecDepth 100000 in
theorem c_X10_refusalOfGoal (l : Launch) (E : nx_E) (sz : Nat) (a : Nat → Nat) (size : Int32) (on : Int32) (kinds : Nat → Int32) (marks : Nat → Int32) (nb : Nat → Int32) (reached : Int32) (dist : Nat → Int32) (lastW : Nat → Int32) (par : Nat → Int32) (ord : Nat → Int32) (paths : Nat → Int64) (costs : Nat → Int32) (wanted : Int32) (tlen : Int32) (onlyF : Int32) (found : Int32) (steps : Nat → Int32) (plen : Int32) (rowW : Nat → Int32) (rowS : Nat → Int32) (tally : Nat → Int32) (x1 : Int32) (x2 : Int32) (x3 : Int32) (x4 : Int32) (o : Int32) (h : f_X10_refusalOfGoal x1 x2 x3 x4 size = some o) : Met l yX10_refusalOfGoal (.code yX10_refusalOfGoal cX10_refusalOfGoal 6 (some .int) :: nx_T) (nx_rm 2 43) (va_Pc [.ref (a 0), .int x1, .int x2, .int x3, .int x4] (nx_P E (nx_F) sz (cW E a size on kinds marks nb reached dist lastW par ord paths costs wanted tlen onlyF found steps plen rowW rowS tally))) (va_Qi (fun v (_ : Unit) => v = o) (fun _ t => va_P E.1 vwCl (cW E a size on kinds marks nb reached dist lastW par ord paths costs wanted tlen onlyF found steps plen rowW rowS tally) t.heap) (nx_F)) 0 0 (nx_F) := by
  refine nx_enI (fun v (_ : Unit) => v = o) (fun (_ : Unit) => (cW E a size on kinds marks nb reached dist lastW par ord paths costs wanted tlen onlyF found steps plen rowW rowS tally)) (by decide) (Nat.le_of_ble_eq_true rfl) ?_
  intro p e s m below meth c Q X kr hsz hP ls hl
  subst hsz
  generalize hargs : (List.toArray [.ref (a 0), .int x1, .int x2, .int x3, .int x4] : Array Value) = args at X kr ⊢
  clear hargs
  obtain ⟨⟨hx, hb, hml, hown, hts⟩, hK, hSt, hNz⟩ := id X
  have hS : va_S (nx_F) s.heap s.heap [] := va_S.rf
  have hl : lv_has ls 6 [(0, .ref (a 0)), (1, .int x1), (2, .int x2), (3, .int x3), (4, .int x4)] := hl
  have J41 : ∀ (x4 : Int32) (s0 : Int32), f_X10_refusalOfGoal_j41 x4 s0 = some o → ∀ (H : Heap) (locs : List Loc) (ls : Array Slot), va_P E.1 vwCl (cW E a size on kinds marks nb reached dist lastW par ord paths costs wanted tlen onlyF found steps plen rowW rowS tally) H → va_S (nx_F) s.heap H locs → lv_has ls 6 [(0, .ref (a 0)), (4, .int x4)] → W p l e (nx_rm 2 43) s m args below meth c H locs 0 0 Q (F0 m 41 ls [.int s0]) := by
    intro x4 s0 h H locs ls hP hS hl
    unfold f_X10_refusalOfGoal_j41 at h
    refine lv_istore (lv' := [(5, .int s0), (0, .ref (a 0)), (4, .int x4)]) hx hb dX10_refusalOfGoal_41 hl (by decide) rfl (fun ls hl => ?_)
    refine lv_iload hx hb dX10_refusalOfGoal_43 (lv_at hl 2 rfl) ?_
    refine lv_if_eq (tgt := 61) hx hb dX10_refusalOfGoal_45 (by decide) (fun hc => ?_) (fun hc => ?_)
    · have h := nx_it h hc
      refine lv_iconst (v := 0) hx hb dX10_refusalOfGoal_61 (by decide) ?_
      refine lv_goto (tgt := 67) hx hb dX10_refusalOfGoal_62 (by decide) ?_
      exact kr 67 ls 0 () H locs dX10_refusalOfGoal_67 (Option.some.inj h) hP hS
    · have h := nx_if h hc
      refine lv_iload hx hb dX10_refusalOfGoal_48 (lv_at hl 2 rfl) ?_
      obtain ⟨r_2, hc_1, h⟩ := nx_bd h
      refine nx_ki (nx_runS (As := [.int x4]) (rest := []) X hS hP (c_X10_isFace l E H.size _ x4 _ hc_1) nx_FA qS_RX10_129 ⟨rfl, rfl⟩ ⟨Nat.le_of_ble_eq_true rfl, Nat.le_of_ble_eq_true rfl⟩ ⟨Nat.zero_le _, Nat.zero_le _⟩ rfl rfl hl.1 (Nat.le_of_ble_eq_true rfl) dX10_refusalOfGoal_50) hS nx_FA (fun H locs hP hS => ?_)
      refine lv_if_ne (tgt := 61) hx hb dX10_refusalOfGoal_53 (by decide) (fun hc => ?_) (fun hc => ?_)
      · have h := nx_if h hc
        refine lv_iconst (v := 0) hx hb dX10_refusalOfGoal_61 (by decide) ?_
        refine lv_goto (tgt := 67) hx hb dX10_refusalOfGoal_62 (by decide) ?_
        exact kr 67 ls 0 () H locs dX10_refusalOfGoal_67 (Option.some.inj h) hP hS
      · have h := nx_it h hc
        refine lv_iload hx hb dX10_refusalOfGoal_56 (lv_at hl 0 rfl) ?_
        refine lv_if_eq (tgt := 65) hx hb dX10_refusalOfGoal_58 (by decide) (fun hc => ?_) (fun hc => ?_)
        · have h := nx_it h hc
          refine lv_bipush (v := (-2)) hx hb dX10_refusalOfGoal_65 (by decide) ?_
          exact kr 67 ls (-2) () H locs dX10_refusalOfGoal_67 (Option.some.inj h) hP hS
        · have h := nx_if h hc
          refine lv_iconst (v := 0) hx hb dX10_refusalOfGoal_61 (by decide) ?_
          refine lv_goto (tgt := 67) hx hb dX10_refusalOfGoal_62 (by decide) ?_
          exact kr 67 ls 0 () H locs dX10_refusalOfGoal_67 (Option.some.inj h) hP hS
  unfold f_X10_refusalOfGoal at h
  suffices hw : ∀ (H : Heap) (locs : List Loc), va_P E.1 vwCl (cW E a size on kinds marks nb reached dist lastW par ord paths costs wanted tlen onlyF found steps plen rowW rowS tally) H → va_S (nx_F) s.heap H locs → W p l e (nx_rm 2 43) s m args below meth c H locs 0 0 Q (F0 m 0 ls []) from hw _ _ hP va_S.rf
  intro H locs hP hS
  refine lv_aload_n hx hb dX10_refusalOfGoal_0 rfl (lv_at hl 0 rfl) ?_
  refine lv_iload_n hx hb dX10_refusalOfGoal_1 rfl (lv_at hl 1 rfl) ?_
  refine lv_iload_n hx hb dX10_refusalOfGoal_2 rfl (lv_at hl 2 rfl) ?_
  obtain ⟨r_4, hc_3, h⟩ := nx_bd h
  refine nx_ki (nx_runV (As := [.int x1, .int x2]) (rest := []) X hS hP (c_X10_isStart l E H.size a size on kinds marks nb reached dist lastW par ord paths costs wanted tlen onlyF found steps plen rowW rowS tally x1 x2 _ hc_3) nx_FA qV_RX10_149 ⟨rfl, rfl⟩ ⟨Nat.le_of_ble_eq_true rfl, Nat.le_of_ble_eq_true rfl⟩ ⟨Nat.zero_le _, Nat.zero_le _⟩ 0 rfl rfl rfl rfl hl.1 (Nat.le_of_ble_eq_true rfl) dX10_refusalOfGoal_3) hS nx_FA (fun H locs hP hS => ?_)
  refine lv_if_eq (tgt := 20) hx hb dX10_refusalOfGoal_6 (by decide) (fun hc => ?_) (fun hc => ?_)
  · have h := nx_it h hc
    refine lv_iconst (v := (-1)) hx hb dX10_refusalOfGoal_20 (by decide) ?_
    exact kr 21 ls (-1) () H locs dX10_refusalOfGoal_21 (Option.some.inj h) hP hS
  · have h := nx_if h hc
    refine lv_aload_n hx hb dX10_refusalOfGoal_9 rfl (lv_at hl 0 rfl) ?_
    refine nx_gf X hP uw_X10 (ci := 9) rfl 0 rfl 0 (by decide) wf_RX10_12 rfl dX10_refusalOfGoal_10 ?_
    refine lv_iload_n hx hb dX10_refusalOfGoal_13 rfl (lv_at hl 3 rfl) ?_
    obtain ⟨r_6, hc_5, h⟩ := nx_bd h
    refine nx_ki (nx_runV (As := [.int x3]) (rest := []) X hS hP (c_X2_has l E H.size a size on kinds marks nb reached dist lastW par ord paths costs wanted tlen onlyF found steps plen rowW rowS tally x3 _ hc_5) nx_FA qV_RX10_85 ⟨rfl, rfl⟩ ⟨Nat.le_of_ble_eq_true rfl, Nat.le_of_ble_eq_true rfl⟩ ⟨Nat.zero_le _, Nat.zero_le _⟩ 1 rfl rfl rfl rfl hl.1 (Nat.le_of_ble_eq_true rfl) dX10_refusalOfGoal_14) hS nx_FA (fun H locs hP hS => ?_)
    refine lv_if_ne (tgt := 22) hx hb dX10_refusalOfGoal_17 (by decide) (fun hc => ?_) (fun hc => ?_)
    · have h := nx_if h hc
      refine lv_iload hx hb dX10_refusalOfGoal_22 (lv_at hl 4 rfl) ?_
      refine lv_bipush (v := 10) hx hb dX10_refusalOfGoal_24 (by decide) ?_
      refine lv_icmp_lt (tgt := 40) hx hb dX10_refusalOfGoal_26 (by decide) (fun hc => ?_) (fun hc => ?_)
      · have h := nx_it h hc
        refine lv_iconst (v := 0) hx hb dX10_refusalOfGoal_40 (by decide) ?_
        exact J41 _ _ h H locs ls hP hS (lv_sub hl [0, 4] rfl)
      · have h := nx_if h hc
        refine lv_iload hx hb dX10_refusalOfGoal_29 (lv_at hl 4 rfl) ?_
        refine lv_bipush (v := 34) hx hb dX10_refusalOfGoal_31 (by decide) ?_
        refine lv_icmp_ge (tgt := 40) hx hb dX10_refusalOfGoal_33 (by decide) (fun hc => ?_) (fun hc => ?_)
        · have h := nx_it h hc
          refine lv_iconst (v := 0) hx hb dX10_refusalOfGoal_40 (by decide) ?_
          exact J41 _ _ h H locs ls hP hS (lv_sub hl [0, 4] rfl)
        · have h := nx_if h hc
          refine lv_iconst (v := 1) hx hb dX10_refusalOfGoal_36 (by decide) ?_
          refine lv_goto (tgt := 41) hx hb dX10_refusalOfGoal_37 (by decide) ?_
          exact J41 _ _ h H locs ls hP hS (lv_sub hl [0, 4] rfl)
    · have h := nx_it h hc
      refine lv_iconst (v := (-1)) hx hb dX10_refusalOfGoal_20 (by decide) ?_
      exact kr 21 ls (-1) () H locs dX10_refusalOfGoal_21 (Option.some.inj h) hP hS
def f_X8_spread_r12_b27 (x2 : Int32) (x3 : Int32) (size : Int32) (on : Int32) (kinds : Nat → Int32) (marks : Nat → Int32) (nb : Nat → Int32) (rec : (Int32 × Int32 × (Nat → Int32) × (Nat → Int32) × (Nat → Int32) × (Nat → Int32) × (Nat → Int64)) → Option (Int32 × (Nat → Int32) × (Nat → Int32) × (Nat → Int32) × (Nat → Int32) × (Nat → Int64))) (x4 : Int32) (reached : Int32) (dist : Nat → Int32) (lastW : Nat → Int32) (par : Nat → Int32) (ord : Nat → Int32) (paths : Nat → Int64) : Option (Int32 × (Nat → Int32) × (Nat → Int32) × (Nat → Int32) × (Nat → Int32) × (Nat → Int64)) :=
  if 4 ≤ x4 then (some (reached, dist, lastW, par, ord, paths)) else ((f_X4_after x3 x4 size on kinds marks nb).bind fun r_2 => (f_X8_meet x3 x4 r_2 reached dist lastW par ord paths).bind fun t_10 => rec ((x4 + 1), t_10.1, t_10.2.1, t_10.2.2.1, t_10.2.2.2.1, t_10.2.2.2.2.1, t_10.2.2.2.2.2))
def f_X8_spread_r12_l27 (x2 : Int32) (x3 : Int32) (size : Int32) (on : Int32) (kinds : Nat → Int32) (marks : Nat → Int32) (nb : Nat → Int32) : Nat → (Int32 × Int32 × (Nat → Int32) × (Nat → Int32) × (Nat → Int32) × (Nat → Int32) × (Nat → Int64)) → Option (Int32 × (Nat → Int32) × (Nat → Int32) × (Nat → Int32) × (Nat → Int32) × (Nat → Int64)) := nx_lp (fun rec z => f_X8_spread_r12_b27 x2 x3 size on kinds marks nb rec z.1 z.2.1 z.2.2.1 z.2.2.2.1 z.2.2.2.2.1 z.2.2.2.2.2.1 z.2.2.2.2.2.2)
def f_X8_spread_r12_b2 (N : Nat) (size : Int32) (on : Int32) (kinds : Nat → Int32) (marks : Nat → Int32) (nb : Nat → Int32) (rec : (Int32 × Int32 × (Nat → Int32) × (Nat → Int32) × (Nat → Int32) × (Nat → Int32) × (Nat → Int64)) → Option (Int32 × (Nat → Int32) × (Nat → Int32) × (Nat → Int32) × (Nat → Int32) × (Nat → Int64))) (x2 : Int32) (reached : Int32) (dist : Nat → Int32) (lastW : Nat → Int32) (par : Nat → Int32) (ord : Nat → Int32) (paths : Nat → Int64) : Option (Int32 × (Nat → Int32) × (Nat → Int32) × (Nat → Int32) × (Nat → Int32) × (Nat → Int64)) :=
  if reached ≤ x2 then (some (reached, dist, lastW, par, ord, paths)) else (if 600 ≤ x2 then (some (reached, dist, lastW, par, ord, paths)) else ((nx_rd ord 600 x2).bind fun _ => (f_X8_spread_r12_l27 x2 (ord x2.toNatClampNeg) size on kinds marks nb N (0, reached, dist, lastW, par, ord, paths)).bind fun z_13 => rec ((x2 + 1), z_13.1, z_13.2.1, z_13.2.2.1, z_13.2.2.2.1, z_13.2.2.2.2.1, z_13.2.2.2.2.2)))
def f_X8_spread_r12_l2 (N : Nat) (size : Int32) (on : Int32) (kinds : Nat → Int32) (marks : Nat → Int32) (nb : Nat → Int32) : Nat → (Int32 × Int32 × (Nat → Int32) × (Nat → Int32) × (Nat → Int32) × (Nat → Int32) × (Nat → Int64)) → Option (Int32 × (Nat → Int32) × (Nat → Int32) × (Nat → Int32) × (Nat → Int32) × (Nat → Int64)) := nx_lp (fun rec z => f_X8_spread_r12_b2 N size on kinds marks nb rec z.1 z.2.1 z.2.2.1 z.2.2.2.1 z.2.2.2.2.1 z.2.2.2.2.2.1 z.2.2.2.2.2.2)
def f_X8_spread_r12 (N : Nat)  (size : Int32) (on : Int32) (kinds : Nat → Int32) (marks : Nat → Int32) (nb : Nat → Int32) (reached : Int32) (dist : Nat → Int32) (lastW : Nat → Int32) (par : Nat → Int32) (ord : Nat → Int32) (paths : Nat → Int64) : Option (Int32 × (Nat → Int32) × (Nat → Int32) × (Nat → Int32) × (Nat → Int32) × (Nat → Int64)) :=
  (f_X8_spread_r12_l2 N size on kinds marks nb N (0, reached, dist, lastW, par, ord, paths)).bind fun z_15 => some (z_15.1, z_15.2.1, z_15.2.2.1, z_15.2.2.2.1, z_15.2.2.2.2.1, z_15.2.2.2.2.2)
set_option maxHeartbeats 4000000 in
set_option maxRecDepth 100000 in
theorem c_X8_spread_r12 (l : Launch) (N : Nat) (E : nx_E) (sz : Nat) (a : Nat → Nat) (size : Int32) (on : Int32) (kinds : Nat → Int32) (marks : Nat → Int32) (nb : Nat → Int32) (reached : Int32) (dist : Nat → Int32) (lastW : Nat → Int32) (par : Nat → Int32) (ord : Nat → Int32) (paths : Nat → Int64) (costs : Nat → Int32) (wanted : Int32) (tlen : Int32) (onlyF : Int32) (found : Int32) (steps : Nat → Int32) (plen : Int32) (rowW : Nat → Int32) (rowS : Nat → Int32) (tally : Nat → Int32)  (hI : nx_inj a 24) (o : Int32 × (Nat → Int32) × (Nat → Int32) × (Nat → Int32) × (Nat → Int32) × (Nat → Int64)) (h : f_X8_spread_r12 N size on kinds marks nb reached dist lastW par ord paths = some o) : Met l yX8_spread (.code yX8_spread cX8_spread 5 none :: nx_T) (nx_rm 3 71) (va_Pc [.ref (a 6), .ref (a 12)] (nx_P E (nx_A a 24 sz) sz (cW E a size on kinds marks nb reached dist lastW par ord paths costs wanted tlen onlyF found steps plen rowW rowS tally))) (va_Qv (fun u => u = o) (fun u t => va_P E.1 vwCl (cW E a size on kinds marks nb (u.1) (u.2.1) (u.2.2.1) (u.2.2.2.1) (u.2.2.2.2.1) (u.2.2.2.2.2) costs wanted tlen onlyF found steps plen rowW rowS tally) t.heap) (nx_A a 24 sz)) 0 0 (nx_A a 24 sz) := by
  refine nx_enV (fun u => u = o) (fun (u : Int32 × (Nat → Int32) × (Nat → Int32) × (Nat → Int32) × (Nat → Int32) × (Nat → Int64)) => (cW E a size on kinds marks nb (u.1) (u.2.1) (u.2.2.1) (u.2.2.2.1) (u.2.2.2.2.1) (u.2.2.2.2.2) costs wanted tlen onlyF found steps plen rowW rowS tally)) (by decide) (Nat.le_of_ble_eq_true rfl) ?_
  intro p e s m below meth c Q X kr hsz hP ls hl
  subst hsz
  generalize hargs : (List.toArray [.ref (a 6), .ref (a 12)] : Array Value) = args at X kr ⊢
  clear hargs
  obtain ⟨⟨hx, hb, hml, hown, hts⟩, hK, hSt, hNz⟩ := id X
  have hS : va_S (nx_A a 24 s.heap.size) s.heap s.heap [] := va_S.rf
  have hl : lv_has ls 5 [(0, .ref (a 6)), (1, .ref (a 12))] := hl
  have L27 : ∀ (x2 : Int32) (x3 : Int32) (n : Nat) (x4 : Int32) (reached : Int32) (dist : Nat → Int32) (lastW : Nat → Int32) (par : Nat → Int32) (ord : Nat → Int32) (paths : Nat → Int64) (z : (Int32 × (Nat → Int32) × (Nat → Int32) × (Nat → Int32) × (Nat → Int32) × (Nat → Int64))), f_X8_spread_r12_l27 x2 x3 size on kinds marks nb n (x4, reached, dist, lastW, par, ord, paths) = some z → ∀ (H : Heap) (locs : List Loc) (ls : Array Slot), va_P E.1 vwCl (cW E a size on kinds marks nb reached dist lastW par ord paths costs wanted tlen onlyF found steps plen rowW rowS tally) H → va_S (nx_A a 24 s.heap.size) s.heap H locs → lv_has ls 5 [(0, .ref (a 6)), (1, .ref (a 12)), (2, .int x2), (3, .int x3), (4, .int x4)] → ∀ (kR : ∀ (H : Heap) (locs : List Loc) (ls : Array Slot), va_P E.1 vwCl (cW E a size on kinds marks nb (z.1) (z.2.1) (z.2.2.1) (z.2.2.2.1) (z.2.2.2.2.1) (z.2.2.2.2.2) costs wanted tlen onlyF found steps plen rowW rowS tally) H → va_S (nx_A a 24 s.heap.size) s.heap H locs → lv_has ls 5 [(0, .ref (a 6)), (1, .ref (a 12)), (2, .int x2)] → W p l e (nx_rm 3 71) s m args below meth c H locs 0 0 Q (F0 m 53 ls [])), W p l e (nx_rm 3 71) s m args below meth c H locs 0 0 Q (F0 m 27 ls []) := by
   intro x2 x3 n
   induction n with
   | zero => intro x4 reached dist lastW par ord paths z h; exact nomatch (show none = some z from h)
   | succ n ih =>
    intro x4 reached dist lastW par ord paths z h H locs ls hP hS hl kR
    have h : f_X8_spread_r12_b27 x2 x3 size on kinds marks nb (f_X8_spread_r12_l27 x2 x3 size on kinds marks nb n) x4 reached dist lastW par ord paths = some z := h
    unfold f_X8_spread_r12_b27 at h
    refine lv_iload hx hb dX8_spread_27 (lv_at hl 4 rfl) ?_
    refine lv_iconst (v := 4) hx hb dX8_spread_29 (by decide) ?_
    refine lv_icmp_ge (tgt := 53) hx hb dX8_spread_30 (by decide) (fun hc => ?_) (fun hc => ?_)
    · have h := nx_it h hc
      obtain rfl := Option.some.inj h
      exact kR H locs ls hP hS (lv_sub hl [0, 1, 2] rfl)
    · have h := nx_if h hc
      refine lv_aload_n hx hb dX8_spread_33 rfl (lv_at hl 0 rfl) ?_
      refine lv_iload_n hx hb dX8_spread_34 rfl (lv_at hl 3 rfl) ?_
      refine lv_iload hx hb dX8_spread_35 (lv_at hl 4 rfl) ?_
      refine lv_aload_n hx hb dX8_spread_37 rfl (lv_at hl 1 rfl) ?_
      refine lv_iload_n hx hb dX8_spread_38 rfl (lv_at hl 3 rfl) ?_
      refine lv_iload hx hb dX8_spread_39 (lv_at hl 4 rfl) ?_
      obtain ⟨r_2, hc_1, h⟩ := nx_bd h
      refine nx_ki (nx_runU (As := [.int x3, .int x4]) (rest := [.int x4, .int x3, .ref (a 6)]) X hS hP (c_X4_after l E H.size a size on kinds marks nb reached dist lastW par ord paths costs wanted tlen onlyF found steps plen rowW rowS tally x3 x4 _ hc_1) nx_FA qU_RX8_53_X4 ⟨rfl, rfl⟩ ⟨Nat.le_of_ble_eq_true rfl, Nat.le_of_ble_eq_true rfl⟩ ⟨Nat.zero_le _, Nat.zero_le _⟩ 12 rfl rfl rfl rfl hl.1 (Nat.le_of_ble_eq_true rfl) dX8_spread_41) hS nx_FA (fun H locs hP hS => ?_)
      obtain ⟨⟨k_4, k_5, k_6, k_7, k_8, k_9⟩, hc_3, h⟩ := nx_bd h
      refine nx_kv (nx_runV (As := [.int x3, .int x4, .int r_2]) (rest := []) X hS hP (c_X8_meet l E H.size a size on kinds marks nb reached dist lastW par ord paths costs wanted tlen onlyF found steps plen rowW rowS tally x3 x4 r_2 hI _ hc_3) (nx_Am hS.1) qV_RX8_59 ⟨rfl, rfl⟩ ⟨Nat.le_of_ble_eq_true rfl, Nat.le_of_ble_eq_true rfl⟩ ⟨Nat.zero_le _, Nat.zero_le _⟩ 6 rfl rfl rfl rfl hl.1 (Nat.le_of_ble_eq_true rfl) dX8_spread_44) hS (nx_Am hS.1) (fun H locs hP hS => ?_)
      have hP : va_P E.1 vwCl (cW E a size on kinds marks nb k_4 k_5 k_6 k_7 k_8 k_9 costs wanted tlen onlyF found steps plen rowW rowS tally) H := hP
      refine lv_iinc (v := (x4 + 1)) (lv' := [(4, .int (x4 + 1)), (0, .ref (a 6)), (1, .ref (a 12)), (2, .int x2), (3, .int x3)]) hx hb dX8_spread_47 hl (k := 4) rfl rfl (by decide) rfl (fun ls hl => ?_)
      refine lv_goto (tgt := 27) hx hb dX8_spread_50 (by decide) ?_
      exact ih _ _ _ _ _ _ _ z h H locs ls hP hS (lv_sub hl [1, 2, 3, 4, 0] rfl) kR
  have L2 : ∀ (n : Nat) (x2 : Int32) (reached : Int32) (dist : Nat → Int32) (lastW : Nat → Int32) (par : Nat → Int32) (ord : Nat → Int32) (paths : Nat → Int64) (z : (Int32 × (Nat → Int32) × (Nat → Int32) × (Nat → Int32) × (Nat → Int32) × (Nat → Int64))), f_X8_spread_r12_l2 N size on kinds marks nb n (x2, reached, dist, lastW, par, ord, paths) = some z → ∀ (H : Heap) (locs : List Loc) (ls : Array Slot), va_P E.1 vwCl (cW E a size on kinds marks nb reached dist lastW par ord paths costs wanted tlen onlyF found steps plen rowW rowS tally) H → va_S (nx_A a 24 s.heap.size) s.heap H locs → lv_has ls 5 [(0, .ref (a 6)), (1, .ref (a 12)), (2, .int x2)] → ∀ (kR : ∀ (H : Heap) (locs : List Loc) (ls : Array Slot), va_P E.1 vwCl (cW E a size on kinds marks nb (z.1) (z.2.1) (z.2.2.1) (z.2.2.2.1) (z.2.2.2.2.1) (z.2.2.2.2.2) costs wanted tlen onlyF found steps plen rowW rowS tally) H → va_S (nx_A a 24 s.heap.size) s.heap H locs → lv_has ls 5 [(0, .ref (a 6)), (1, .ref (a 12))] → W p l e (nx_rm 3 71) s m args below meth c H locs 0 0 Q (F0 m 59 ls [])), W p l e (nx_rm 3 71) s m args below meth c H locs 0 0 Q (F0 m 2 ls []) := by
   intro  n
   induction n with
   | zero => intro x2 reached dist lastW par ord paths z h; exact nomatch (show none = some z from h)
   | succ n ih =>
    intro x2 reached dist lastW par ord paths z h H locs ls hP hS hl kR
    have h : f_X8_spread_r12_b2 N size on kinds marks nb (f_X8_spread_r12_l2 N size on kinds marks nb n) x2 reached dist lastW par ord paths = some z := h
    unfold f_X8_spread_r12_b2 at h
    refine lv_iload_n hx hb dX8_spread_2 rfl (lv_at hl 2 rfl) ?_
    refine lv_aload_n hx hb dX8_spread_3 rfl (lv_at hl 0 rfl) ?_
    refine nx_gf X hP uw_X8 (ci := 7) rfl 6 rfl 5 (by decide) wf_RX8_34 rfl dX8_spread_4 ?_
    refine lv_icmp_ge (tgt := 59) hx hb dX8_spread_7 (by decide) (fun hc => ?_) (fun hc => ?_)
    · have h := nx_it h hc
      obtain rfl := Option.some.inj h
      exact kR H locs ls hP hS (lv_sub hl [0, 1] rfl)
    · have h := nx_if h hc
      refine lv_iload_n hx hb dX8_spread_10 rfl (lv_at hl 2 rfl) ?_
      refine lv_sipush (v := 600) hx hb dX8_spread_11 (by decide) ?_
      refine lv_icmp_ge (tgt := 59) hx hb dX8_spread_14 (by decide) (fun hc => ?_) (fun hc => ?_)
      · have h := nx_it h hc
        obtain rfl := Option.some.inj h
        exact kR H locs ls hP hS (lv_sub hl [0, 1] rfl)
      · have h := nx_if h hc
        refine lv_aload_n hx hb dX8_spread_17 rfl (lv_at hl 0 rfl) ?_
        refine nx_gf X hP uw_X8 (ci := 7) rfl 6 rfl 3 (by decide) wf_RX8_21 rfl dX8_spread_18 ?_
        refine lv_iload_n hx hb dX8_spread_21 rfl (lv_at hl 2 rfl) ?_
        obtain ⟨hv_11, h⟩ := nx_rb h
        refine nx_ld X hP 10 rfl hv_11 dX8_spread_22 ?_
        refine lv_istore_n (lv' := [(3, .int (ord x2.toNatClampNeg)), (0, .ref (a 6)), (1, .ref (a 12)), (2, .int x2)]) hx hb dX8_spread_23 rfl hl (by decide) rfl (fun ls hl => ?_)
        refine lv_iconst (v := 0) hx hb dX8_spread_24 (by decide) ?_
        refine lv_istore (lv' := [(4, .int 0), (3, .int (ord x2.toNatClampNeg)), (0, .ref (a 6)), (1, .ref (a 12)), (2, .int x2)]) hx hb dX8_spread_25 hl (by decide) rfl (fun ls hl => ?_)
        obtain ⟨z_13, hz_14, h⟩ := nx_bd h
        refine L27 _ _ N _ _ _ _ _ _ _ _ hz_14 H locs ls hP hS (lv_sub hl [2, 3, 4, 1, 0] rfl) (fun H locs ls hP hS hl => ?_)
        refine lv_iinc (v := (x2 + 1)) (lv' := [(2, .int (x2 + 1)), (0, .ref (a 6)), (1, .ref (a 12))]) hx hb dX8_spread_53 hl (k := 2) rfl rfl (by decide) rfl (fun ls hl => ?_)
        refine lv_goto (tgt := 2) hx hb dX8_spread_56 (by decide) ?_
        exact ih _ _ _ _ _ _ _ z h H locs ls hP hS (lv_sub hl [1, 2, 0] rfl) kR
  unfold f_X8_spread_r12 at h
  suffices hw : ∀ (H : Heap) (locs : List Loc), va_P E.1 vwCl (cW E a size on kinds marks nb reached dist lastW par ord paths costs wanted tlen onlyF found steps plen rowW rowS tally) H → va_S (nx_A a 24 s.heap.size) s.heap H locs → W p l e (nx_rm 3 71) s m args below meth c H locs 0 0 Q (F0 m 0 ls []) from hw _ _ hP va_S.rf
  intro H locs hP hS
  refine lv_iconst (v := 0) hx hb dX8_spread_0 (by decide) ?_
  refine lv_istore_n (lv' := [(2, .int 0), (0, .ref (a 6)), (1, .ref (a 12))]) hx hb dX8_spread_1 rfl hl (by decide) rfl (fun ls hl => ?_)
  obtain ⟨z_15, hz_16, h⟩ := nx_bd h
  refine L2  N _ _ _ _ _ _ _ _ hz_16 H locs ls hP hS (lv_sub hl [1, 2, 0] rfl) (fun H locs ls hP hS hl => ?_)
  exact kr 59 ls (z_15.1, z_15.2.1, z_15.2.2.1, z_15.2.2.2.1, z_15.2.2.2.2.1, z_15.2.2.2.2.2) H locs dX8_spread_59 (Option.some.inj h) hP hS
def f_X8_reached  (reached : Int32) : Option (Int32) :=
  some reached
set_option maxHeartbeats 4000000 in
set_option maxRecDepth 100000 in
theorem c_X8_reached (l : Launch) (E : nx_E) (sz : Nat) (a : Nat → Nat) (size : Int32) (on : Int32) (kinds : Nat → Int32) (marks : Nat → Int32) (nb : Nat → Int32) (reached : Int32) (dist : Nat → Int32) (lastW : Nat → Int32) (par : Nat → Int32) (ord : Nat → Int32) (paths : Nat → Int64) (costs : Nat → Int32) (wanted : Int32) (tlen : Int32) (onlyF : Int32) (found : Int32) (steps : Nat → Int32) (plen : Int32) (rowW : Nat → Int32) (rowS : Nat → Int32) (tally : Nat → Int32)  (o : Int32) (h : f_X8_reached reached = some o) : Met l yX8_reached (.code yX8_reached cX8_reached 1 (some .int) :: nx_T) (nx_rm 0 0) (va_Pc [.ref (a 6)] (nx_P E (nx_F) sz (cW E a size on kinds marks nb reached dist lastW par ord paths costs wanted tlen onlyF found steps plen rowW rowS tally))) (va_Qi (fun v (_ : Unit) => v = o) (fun _ t => va_P E.1 vwCl (cW E a size on kinds marks nb reached dist lastW par ord paths costs wanted tlen onlyF found steps plen rowW rowS tally) t.heap) (nx_F)) 0 0 (nx_F) := by
  refine nx_enI (fun v (_ : Unit) => v = o) (fun (_ : Unit) => (cW E a size on kinds marks nb reached dist lastW par ord paths costs wanted tlen onlyF found steps plen rowW rowS tally)) (by decide) (Nat.le_of_ble_eq_true rfl) ?_
  intro p e s m below meth c Q X kr hsz hP ls hl
  subst hsz
  generalize hargs : (List.toArray [.ref (a 6)] : Array Value) = args at X kr ⊢
  clear hargs
  obtain ⟨⟨hx, hb, hml, hown, hts⟩, hK, hSt, hNz⟩ := id X
  have hS : va_S (nx_F) s.heap s.heap [] := va_S.rf
  have hl : lv_has ls 1 [(0, .ref (a 6))] := hl
  unfold f_X8_reached at h
  suffices hw : ∀ (H : Heap) (locs : List Loc), va_P E.1 vwCl (cW E a size on kinds marks nb reached dist lastW par ord paths costs wanted tlen onlyF found steps plen rowW rowS tally) H → va_S (nx_F) s.heap H locs → W p l e (nx_rm 0 0) s m args below meth c H locs 0 0 Q (F0 m 0 ls []) from hw _ _ hP va_S.rf
  intro H locs hP hS
  refine lv_aload_n hx hb dX8_reached_0 rfl (lv_at hl 0 rfl) ?_
  refine nx_gf X hP uw_X8 (ci := 7) rfl 6 rfl 5 (by decide) wf_RX8_34 rfl dX8_reached_1 ?_
  exact kr 4 ls reached () H locs dX8_reached_4 (Option.some.inj h) hP hS
def f_X8_reachedAt (x1 : Int32) (reached : Int32) (ord : Nat → Int32) : Option (Int32) :=
  if x1 < 0 then (some (-1)) else (if reached ≤ x1 then (some (-1)) else (if 600 ≤ x1 then (some (-1)) else ((nx_rd ord 600 x1).bind fun _ => some (ord x1.toNatClampNeg))))
set_option maxHeartbeats 4000000 in
set_option maxRecDepth 100000 in
theorem c_X8_reachedAt (l : Launch) (E : nx_E) (sz : Nat) (a : Nat → Nat) (size : Int32) (on : Int32) (kinds : Nat → Int32) (marks : Nat → Int32) (nb : Nat → Int32) (reached : Int32) (dist : Nat → Int32) (lastW : Nat → Int32) (par : Nat → Int32) (ord : Nat → Int32) (paths : Nat → Int64) (costs : Nat → Int32) (wanted : Int32) (tlen : Int32) (onlyF : Int32) (found : Int32) (steps : Nat → Int32) (plen : Int32) (rowW : Nat → Int32) (rowS : Nat → Int32) (tally : Nat → Int32) (x1 : Int32) (o : Int32) (h : f_X8_reachedAt x1 reached ord = some o) : Met l yX8_reachedAt (.code yX8_reachedAt cX8_reachedAt 2 (some .int) :: nx_T) (nx_rm 0 0) (va_Pc [.ref (a 6), .int x1] (nx_P E (nx_F) sz (cW E a size on kinds marks nb reached dist lastW par ord paths costs wanted tlen onlyF found steps plen rowW rowS tally))) (va_Qi (fun v (_ : Unit) => v = o) (fun _ t => va_P E.1 vwCl (cW E a size on kinds marks nb reached dist lastW par ord paths costs wanted tlen onlyF found steps plen rowW rowS tally) t.heap) (nx_F)) 0 0 (nx_F) := by
  refine nx_enI (fun v (_ : Unit) => v = o) (fun (_ : Unit) => (cW E a size on kinds marks nb reached dist lastW par ord paths costs wanted tlen onlyF found steps plen rowW rowS tally)) (by decide) (Nat.le_of_ble_eq_true rfl) ?_
  intro p e s m below meth c Q X kr hsz hP ls hl
  subst hsz
  generalize hargs : (List.toArray [.ref (a 6), .int x1] : Array Value) = args at X kr ⊢
  clear hargs
  obtain ⟨⟨hx, hb, hml, hown, hts⟩, hK, hSt, hNz⟩ := id X
  have hS : va_S (nx_F) s.heap s.heap [] := va_S.rf
  have hl : lv_has ls 2 [(0, .ref (a 6)), (1, .int x1)] := hl
  unfold f_X8_reachedAt at h
  suffices hw : ∀ (H : Heap) (locs : List Loc), va_P E.1 vwCl (cW E a size on kinds marks nb reached dist lastW par ord paths costs wanted tlen onlyF found steps plen rowW rowS tally) H → va_S (nx_F) s.heap H locs → W p l e (nx_rm 0 0) s m args below meth c H locs 0 0 Q (F0 m 0 ls []) from hw _ _ hP va_S.rf
  intro H locs hP hS
  refine lv_iload_n hx hb dX8_reachedAt_0 rfl (lv_at hl 1 rfl) ?_
  refine lv_if_lt (tgt := 28) hx hb dX8_reachedAt_1 (by decide) (fun hc => ?_) (fun hc => ?_)
  · have h := nx_it h hc
    refine lv_iconst (v := (-1)) hx hb dX8_reachedAt_28 (by decide) ?_
    exact kr 29 ls (-1) () H locs dX8_reachedAt_29 (Option.some.inj h) hP hS
  · have h := nx_if h hc
    refine lv_iload_n hx hb dX8_reachedAt_4 rfl (lv_at hl 1 rfl) ?_
    refine lv_aload_n hx hb dX8_reachedAt_5 rfl (lv_at hl 0 rfl) ?_
    refine nx_gf X hP uw_X8 (ci := 7) rfl 6 rfl 5 (by decide) wf_RX8_34 rfl dX8_reachedAt_6 ?_
    refine lv_icmp_ge (tgt := 28) hx hb dX8_reachedAt_9 (by decide) (fun hc => ?_) (fun hc => ?_)
    · have h := nx_it h hc
      refine lv_iconst (v := (-1)) hx hb dX8_reachedAt_28 (by decide) ?_
      exact kr 29 ls (-1) () H locs dX8_reachedAt_29 (Option.some.inj h) hP hS
    · have h := nx_if h hc
      refine lv_iload_n hx hb dX8_reachedAt_12 rfl (lv_at hl 1 rfl) ?_
      refine lv_sipush (v := 600) hx hb dX8_reachedAt_13 (by decide) ?_
      refine lv_icmp_ge (tgt := 28) hx hb dX8_reachedAt_16 (by decide) (fun hc => ?_) (fun hc => ?_)
      · have h := nx_it h hc
        refine lv_iconst (v := (-1)) hx hb dX8_reachedAt_28 (by decide) ?_
        exact kr 29 ls (-1) () H locs dX8_reachedAt_29 (Option.some.inj h) hP hS
      · have h := nx_if h hc
        refine lv_aload_n hx hb dX8_reachedAt_19 rfl (lv_at hl 0 rfl) ?_
        refine nx_gf X hP uw_X8 (ci := 7) rfl 6 rfl 3 (by decide) wf_RX8_21 rfl dX8_reachedAt_20 ?_
        refine lv_iload_n hx hb dX8_reachedAt_23 rfl (lv_at hl 1 rfl) ?_
        obtain ⟨hv_1, h⟩ := nx_rb h
        refine nx_ld X hP 10 rfl hv_1 dX8_reachedAt_24 ?_
        refine lv_goto (tgt := 29) hx hb dX8_reachedAt_25 (by decide) ?_
        exact kr 29 ls (ord x1.toNatClampNeg) () H locs dX8_reachedAt_29 (Option.some.inj h) hP hS
def f_X3_meets (x0 : Int32) (x1 : Int32)  : Option (Int32) :=
  if x1 < 10 then (if x1 = 0 then (some 1) else ((f_X3_topOf x0).bind fun r_2 => if r_2 = x1 then (some 1) else (some 0))) else (if x0 = (x1 - 10) then (some 1) else (some 0))
set_option maxHeartbeats 4000000 in
set_option maxRecDepth 100000 in
theorem c_X3_meets (l : Launch) (E : nx_E) (sz : Nat) (ws : va_W) (x0 : Int32) (x1 : Int32) (o : Int32) (h : f_X3_meets x0 x1 = some o) : Met l yX3_meets (.code yX3_meets cX3_meets 2 (some .boolean) :: nx_T) (nx_rm 1 20) (va_Pc [.int x0, .int x1] (nx_P E (nx_F) sz ws)) (va_Qi (fun v (_ : Unit) => v = o) (fun _ t => va_P E.1 vwCl ws t.heap) (nx_F)) 0 0 (nx_F) := by
  refine nx_enZ (fun v (_ : Unit) => v = o) (fun (_ : Unit) => ws) (by decide) (Nat.le_of_ble_eq_true rfl) ?_
  intro p e s m below meth c Q X kr hsz hP ls hl
  subst hsz
  generalize hargs : (List.toArray [.int x0, .int x1] : Array Value) = args at X kr ⊢
  clear hargs
  obtain ⟨⟨hx, hb, hml, hown, hts⟩, hK, hSt, hNz⟩ := id X
  have hS : va_S (nx_F) s.heap s.heap [] := va_S.rf
  have hl : lv_has ls 2 [(0, .int x0), (1, .int x1)] := hl
  unfold f_X3_meets at h
  suffices hw : ∀ (H : Heap) (locs : List Loc), va_P E.1 vwCl ws H → va_S (nx_F) s.heap H locs → W p l e (nx_rm 1 20) s m args below meth c H locs 0 0 Q (F0 m 0 ls []) from hw _ _ hP va_S.rf
  intro H locs hP hS
  refine lv_iload_n hx hb dX3_meets_0 rfl (lv_at hl 1 rfl) ?_
  refine lv_bipush (v := 10) hx hb dX3_meets_1 (by decide) ?_
  refine lv_icmp_lt (tgt := 20) hx hb dX3_meets_3 (by decide) (fun hc => ?_) (fun hc => ?_)
  · have h := nx_it h hc
    refine lv_iload_n hx hb dX3_meets_20 rfl (lv_at hl 1 rfl) ?_
    refine lv_if_eq (tgt := 32) hx hb dX3_meets_21 (by decide) (fun hc => ?_) (fun hc => ?_)
    · have h := nx_it h hc
      refine lv_iconst (v := 1) hx hb dX3_meets_32 (by decide) ?_
      refine lv_goto (tgt := 37) hx hb dX3_meets_33 (by decide) ?_
      exact kr 37 ls 1 () H locs dX3_meets_37 (Or.inr rfl) (Option.some.inj h) hP hS
    · have h := nx_if h hc
      refine lv_iload_n hx hb dX3_meets_24 rfl (lv_at hl 0 rfl) ?_
      obtain ⟨r_2, hc_1, h⟩ := nx_bd h
      refine nx_ki (nx_runS (As := [.int x0]) (rest := []) X hS hP (c_X3_topOf l E H.size _ x0 _ hc_1) nx_FA qS_RX3_9 ⟨rfl, rfl⟩ ⟨Nat.le_of_ble_eq_true rfl, Nat.le_of_ble_eq_true rfl⟩ ⟨Nat.zero_le _, Nat.zero_le _⟩ rfl rfl hl.1 (Nat.le_of_ble_eq_true rfl) dX3_meets_25) hS nx_FA (fun H locs hP hS => ?_)
      refine lv_iload_n hx hb dX3_meets_28 rfl (lv_at hl 1 rfl) ?_
      refine lv_icmp_ne (tgt := 36) hx hb dX3_meets_29 (by decide) (fun hc => ?_) (fun hc => ?_)
      · have h := nx_if h hc
        refine lv_iconst (v := 0) hx hb dX3_meets_36 (by decide) ?_
        exact kr 37 ls 0 () H locs dX3_meets_37 (Or.inl rfl) (Option.some.inj h) hP hS
      · have h := nx_it h hc
        refine lv_iconst (v := 1) hx hb dX3_meets_32 (by decide) ?_
        refine lv_goto (tgt := 37) hx hb dX3_meets_33 (by decide) ?_
        exact kr 37 ls 1 () H locs dX3_meets_37 (Or.inr rfl) (Option.some.inj h) hP hS
  · have h := nx_if h hc
    refine lv_iload_n hx hb dX3_meets_6 rfl (lv_at hl 0 rfl) ?_
    refine lv_iload_n hx hb dX3_meets_7 rfl (lv_at hl 1 rfl) ?_
    refine lv_bipush (v := 10) hx hb dX3_meets_8 (by decide) ?_
    refine lv_isub hx hb dX3_meets_10 ?_
    refine lv_icmp_ne (tgt := 18) hx hb dX3_meets_11 (by decide) (fun hc => ?_) (fun hc => ?_)
    · have h := nx_if h hc
      refine lv_iconst (v := 0) hx hb dX3_meets_18 (by decide) ?_
      exact kr 19 ls 0 () H locs dX3_meets_19 (Or.inl rfl) (Option.some.inj h) hP hS
    · have h := nx_it h hc
      refine lv_iconst (v := 1) hx hb dX3_meets_14 (by decide) ?_
      refine lv_goto (tgt := 19) hx hb dX3_meets_15 (by decide) ?_
      exact kr 19 ls 1 () H locs dX3_meets_19 (Or.inr rfl) (Option.some.inj h) hP hS
def f_X5_meets (x0 : Int32) (x1 : Int32) (x2 : Int32)  : Option (Int32) :=
  (f_X4_cellOf x0).bind fun r_2 => if r_2 = x1 then ((f_X4_stanceOf x0).bind fun r_4 => (f_X3_meets r_4 x2).bind fun r_6 => if r_6 = 0 then (some 0) else (some 1)) else (some 0)
set_option maxHeartbeats 4000000 in
set_option maxRecDepth 100000 in
theorem c_X5_meets (l : Launch) (E : nx_E) (sz : Nat) (ws : va_W) (x0 : Int32) (x1 : Int32) (x2 : Int32) (o : Int32) (h : f_X5_meets x0 x1 x2 = some o) : Met l yX5_meets (.code yX5_meets cX5_meets 3 (some .boolean) :: nx_T) (nx_rm 2 41) (va_Pc [.int x0, .int x1, .int x2] (nx_P E (nx_F) sz ws)) (va_Qi (fun v (_ : Unit) => v = o) (fun _ t => va_P E.1 vwCl ws t.heap) (nx_F)) 0 0 (nx_F) := by
  refine nx_enZ (fun v (_ : Unit) => v = o) (fun (_ : Unit) => ws) (by decide) (Nat.le_of_ble_eq_true rfl) ?_
  intro p e s m below meth c Q X kr hsz hP ls hl
  subst hsz
  generalize hargs : (List.toArray [.int x0, .int x1, .int x2] : Array Value) = args at X kr ⊢
  clear hargs
  obtain ⟨⟨hx, hb, hml, hown, hts⟩, hK, hSt, hNz⟩ := id X
  have hS : va_S (nx_F) s.heap s.heap [] := va_S.rf
  have hl : lv_has ls 3 [(0, .int x0), (1, .int x1), (2, .int x2)] := hl
  unfold f_X5_meets at h
  suffices hw : ∀ (H : Heap) (locs : List Loc), va_P E.1 vwCl ws H → va_S (nx_F) s.heap H locs → W p l e (nx_rm 2 41) s m args below meth c H locs 0 0 Q (F0 m 0 ls []) from hw _ _ hP va_S.rf
  intro H locs hP hS
  refine lv_iload_n hx hb dX5_meets_0 rfl (lv_at hl 0 rfl) ?_
  obtain ⟨r_2, hc_1, h⟩ := nx_bd h
  refine nx_ki (nx_runS (As := [.int x0]) (rest := []) X hS hP (c_X4_cellOf l E H.size _ x0 _ hc_1) nx_FA qS_RX5_91 ⟨rfl, rfl⟩ ⟨Nat.le_of_ble_eq_true rfl, Nat.le_of_ble_eq_true rfl⟩ ⟨Nat.zero_le _, Nat.zero_le _⟩ rfl rfl hl.1 (Nat.le_of_ble_eq_true rfl) dX5_meets_1) hS nx_FA (fun H locs hP hS => ?_)
  refine lv_iload_n hx hb dX5_meets_4 rfl (lv_at hl 1 rfl) ?_
  refine lv_icmp_ne (tgt := 23) hx hb dX5_meets_5 (by decide) (fun hc => ?_) (fun hc => ?_)
  · have h := nx_if h hc
    refine lv_iconst (v := 0) hx hb dX5_meets_23 (by decide) ?_
    exact kr 24 ls 0 () H locs dX5_meets_24 (Or.inl rfl) (Option.some.inj h) hP hS
  · have h := nx_it h hc
    refine lv_iload_n hx hb dX5_meets_8 rfl (lv_at hl 0 rfl) ?_
    obtain ⟨r_4, hc_3, h⟩ := nx_bd h
    refine nx_ki (nx_runS (As := [.int x0]) (rest := []) X hS hP (c_X4_stanceOf l E H.size _ x0 _ hc_3) nx_FA qS_RX5_103 ⟨rfl, rfl⟩ ⟨Nat.le_of_ble_eq_true rfl, Nat.le_of_ble_eq_true rfl⟩ ⟨Nat.zero_le _, Nat.zero_le _⟩ rfl rfl hl.1 (Nat.le_of_ble_eq_true rfl) dX5_meets_9) hS nx_FA (fun H locs hP hS => ?_)
    refine lv_iload_n hx hb dX5_meets_12 rfl (lv_at hl 2 rfl) ?_
    obtain ⟨r_6, hc_5, h⟩ := nx_bd h
    refine nx_ki (nx_runS (As := [.int r_4, .int x2]) (rest := []) X hS hP (c_X3_meets l E H.size _ r_4 x2 _ hc_5) nx_FA qS_RX5_106 ⟨rfl, rfl⟩ ⟨Nat.le_of_ble_eq_true rfl, Nat.le_of_ble_eq_true rfl⟩ ⟨Nat.zero_le _, Nat.zero_le _⟩ rfl rfl hl.1 (Nat.le_of_ble_eq_true rfl) dX5_meets_13) hS nx_FA (fun H locs hP hS => ?_)
    refine lv_if_eq (tgt := 23) hx hb dX5_meets_16 (by decide) (fun hc => ?_) (fun hc => ?_)
    · have h := nx_it h hc
      refine lv_iconst (v := 0) hx hb dX5_meets_23 (by decide) ?_
      exact kr 24 ls 0 () H locs dX5_meets_24 (Or.inl rfl) (Option.some.inj h) hP hS
    · have h := nx_if h hc
      refine lv_iconst (v := 1) hx hb dX5_meets_19 (by decide) ?_
      refine lv_goto (tgt := 24) hx hb dX5_meets_20 (by decide) ?_
      exact kr 24 ls 1 () H locs dX5_meets_24 (Or.inr rfl) (Option.some.inj h) hP hS
def f_X5_endOf_b22 (x2 : Int32) (x3 : Int32) (reached : Int32) (dist : Nat → Int32) (lastW : Nat → Int32) (par : Nat → Int32) (ord : Nat → Int32) (paths : Nat → Int64) (rec : (Int32) → Option ((Int32 × (Int32 × (Nat → Int32) × (Nat → Int32) × (Nat → Int32) × (Nat → Int32) × (Nat → Int64))) ⊕ (Unit))) (x4 : Int32) : Option ((Int32 × (Int32 × (Nat → Int32) × (Nat → Int32) × (Nat → Int32) × (Nat → Int32) × (Nat → Int64))) ⊕ (Unit)) :=
  (f_X8_reached reached).bind fun r_2 => if r_2 ≤ x4 then (some (.inr ())) else ((f_X8_reachedAt x4 reached ord).bind fun r_4 => (f_X5_meets r_4 x2 x3).bind fun r_6 => if r_6 = 0 then (rec (x4 + 1)) else (some (.inl (r_4, (reached, dist, lastW, par, ord, paths)))))
def f_X5_endOf_l22 (x2 : Int32) (x3 : Int32) (reached : Int32) (dist : Nat → Int32) (lastW : Nat → Int32) (par : Nat → Int32) (ord : Nat → Int32) (paths : Nat → Int64) : Nat → (Int32) → Option ((Int32 × (Int32 × (Nat → Int32) × (Nat → Int32) × (Nat → Int32) × (Nat → Int32) × (Nat → Int64))) ⊕ (Unit)) := nx_lp (fun rec z => f_X5_endOf_b22 x2 x3 reached dist lastW par ord paths rec z)
def f_X5_endOf (N : Nat) (x1 : Int32) (x2 : Int32) (x3 : Int32) (size : Int32) (on : Int32) (kinds : Nat → Int32) (marks : Nat → Int32) (nb : Nat → Int32) (reached : Int32) (dist : Nat → Int32) (lastW : Nat → Int32) (par : Nat → Int32) (ord : Nat → Int32) (paths : Nat → Int64) : Option (Int32 × (Int32 × (Nat → Int32) × (Nat → Int32) × (Nat → Int32) × (Nat → Int32) × (Nat → Int64))) :=
  (f_X8_begin N x1 reached dist lastW par ord paths).bind fun t_14 => (f_X8_spread_r12 N size on kinds marks nb t_14.1 t_14.2.1 t_14.2.2.1 t_14.2.2.2.1 t_14.2.2.2.2.1 t_14.2.2.2.2.2).bind fun t_22 => (f_X5_endOf_l22 x2 x3 t_22.1 t_22.2.1 t_22.2.2.1 t_22.2.2.2.1 t_22.2.2.2.2.1 t_22.2.2.2.2.2 N 0).bind fun z_23 => Sum.elim (fun rr => some rr) (fun y_25 => some ((-1), (t_22.1, t_22.2.1, t_22.2.2.1, t_22.2.2.2.1, t_22.2.2.2.2.1, t_22.2.2.2.2.2))) z_23
set_option maxHeartbeats 4000000 in
set_option maxRecDepth 100000 in
theorem c_X5_endOf (l : Launch) (N : Nat) (E : nx_E) (sz : Nat) (a : Nat → Nat) (size : Int32) (on : Int32) (kinds : Nat → Int32) (marks : Nat → Int32) (nb : Nat → Int32) (reached : Int32) (dist : Nat → Int32) (lastW : Nat → Int32) (par : Nat → Int32) (ord : Nat → Int32) (paths : Nat → Int64) (costs : Nat → Int32) (wanted : Int32) (tlen : Int32) (onlyF : Int32) (found : Int32) (steps : Nat → Int32) (plen : Int32) (rowW : Nat → Int32) (rowS : Nat → Int32) (tally : Nat → Int32) (x1 : Int32) (x2 : Int32) (x3 : Int32) (hI : nx_inj a 24) (o : Int32 × (Int32 × (Nat → Int32) × (Nat → Int32) × (Nat → Int32) × (Nat → Int32) × (Nat → Int64))) (h : f_X5_endOf N x1 x2 x3 size on kinds marks nb reached dist lastW par ord paths = some o) : Met l yX5_endOf (.code yX5_endOf cX5_endOf 6 (some .int) :: nx_T) (nx_rm 4 95) (va_Pc [.ref (a 13), .int x1, .int x2, .int x3] (nx_P E (nx_A a 24 sz) sz (cW E a size on kinds marks nb reached dist lastW par ord paths costs wanted tlen onlyF found steps plen rowW rowS tally))) (va_Qi (fun v u => (v, u) = o) (fun u t => va_P E.1 vwCl (cW E a size on kinds marks nb (u.1) (u.2.1) (u.2.2.1) (u.2.2.2.1) (u.2.2.2.2.1) (u.2.2.2.2.2) costs wanted tlen onlyF found steps plen rowW rowS tally) t.heap) (nx_A a 24 sz)) 0 0 (nx_A a 24 sz) := by
  refine nx_enI (fun v u => (v, u) = o) (fun (u : Int32 × (Nat → Int32) × (Nat → Int32) × (Nat → Int32) × (Nat → Int32) × (Nat → Int64)) => (cW E a size on kinds marks nb (u.1) (u.2.1) (u.2.2.1) (u.2.2.2.1) (u.2.2.2.2.1) (u.2.2.2.2.2) costs wanted tlen onlyF found steps plen rowW rowS tally)) (by decide) (Nat.le_of_ble_eq_true rfl) ?_
  intro p e s m below meth c Q X kr hsz hP ls hl
  subst hsz
  generalize hargs : (List.toArray [.ref (a 13), .int x1, .int x2, .int x3] : Array Value) = args at X kr ⊢
  clear hargs
  obtain ⟨⟨hx, hb, hml, hown, hts⟩, hK, hSt, hNz⟩ := id X
  have hS : va_S (nx_A a 24 s.heap.size) s.heap s.heap [] := va_S.rf
  have hl : lv_has ls 6 [(0, .ref (a 13)), (1, .int x1), (2, .int x2), (3, .int x3)] := hl
  have L22 : ∀ (x2 : Int32) (x3 : Int32) (reached : Int32) (dist : Nat → Int32) (lastW : Nat → Int32) (par : Nat → Int32) (ord : Nat → Int32) (paths : Nat → Int64) (n : Nat) (x4 : Int32) (z : ((Int32 × (Int32 × (Nat → Int32) × (Nat → Int32) × (Nat → Int32) × (Nat → Int32) × (Nat → Int64))) ⊕ (Unit))), f_X5_endOf_l22 x2 x3 reached dist lastW par ord paths n x4 = some z → ∀ (H : Heap) (locs : List Loc) (ls : Array Slot), va_P E.1 vwCl (cW E a size on kinds marks nb reached dist lastW par ord paths costs wanted tlen onlyF found steps plen rowW rowS tally) H → va_S (nx_A a 24 s.heap.size) s.heap H locs → lv_has ls 6 [(0, .ref (a 13)), (2, .int x2), (3, .int x3), (4, .int x4)] → ∀ (kL : ∀ r, z = .inl r → ∀ (pc : Nat) (ls : Array Slot) (v : Int32) (u : Int32 × (Nat → Int32) × (Nat → Int32) × (Nat → Int32) × (Nat → Int32) × (Nat → Int64)) (H : Heap) (locs : List Loc), decode cX5_endOf pc = .ok (.ireturn, 1) → (v, u) = r → va_P E.1 vwCl (cW E a size on kinds marks nb (u.1) (u.2.1) (u.2.2.1) (u.2.2.2.1) (u.2.2.2.2.1) (u.2.2.2.2.2) costs wanted tlen onlyF found steps plen rowW rowS tally) H → va_S (nx_A a 24 s.heap.size) s.heap H locs → W p l e (nx_rm 4 95) s m args below meth c H locs 0 0 Q (F0 m pc ls [.int v])) (kR : ∀ y, z = .inr y → ∀ (H : Heap) (locs : List Loc) (ls : Array Slot), va_P E.1 vwCl (cW E a size on kinds marks nb reached dist lastW par ord paths costs wanted tlen onlyF found steps plen rowW rowS tally) H → va_S (nx_A a 24 s.heap.size) s.heap H locs → lv_has ls 6 [(0, .ref (a 13))] → W p l e (nx_rm 4 95) s m args below meth c H locs 0 0 Q (F0 m 64 ls [])), W p l e (nx_rm 4 95) s m args below meth c H locs 0 0 Q (F0 m 22 ls []) := by
   intro x2 x3 reached dist lastW par ord paths n
   induction n with
   | zero => intro x4 z h; exact nomatch (show none = some z from h)
   | succ n ih =>
    intro x4 z h H locs ls hP hS hl kL kR
    have h : f_X5_endOf_b22 x2 x3 reached dist lastW par ord paths (f_X5_endOf_l22 x2 x3 reached dist lastW par ord paths n) x4 = some z := h
    unfold f_X5_endOf_b22 at h
    refine lv_iload hx hb dX5_endOf_22 (lv_at hl 3 rfl) ?_
    refine lv_aload_n hx hb dX5_endOf_24 rfl (lv_at hl 0 rfl) ?_
    refine nx_gf X hP uw_X5 (ci := 5) rfl 13 rfl 1 (by decide) wf_RX5_19 rfl dX5_endOf_25 ?_
    obtain ⟨r_2, hc_1, h⟩ := nx_bd h
    refine nx_ki (nx_runV (As := []) (rest := [.int x4]) X hS hP (c_X8_reached l E H.size a size on kinds marks nb reached dist lastW par ord paths costs wanted tlen onlyF found steps plen rowW rowS tally _ hc_1) nx_FA qV_RX5_40 ⟨rfl, rfl⟩ ⟨Nat.le_of_ble_eq_true rfl, Nat.le_of_ble_eq_true rfl⟩ ⟨Nat.zero_le _, Nat.zero_le _⟩ 6 rfl rfl rfl rfl hl.1 (Nat.le_of_ble_eq_true rfl) dX5_endOf_28) hS nx_FA (fun H locs hP hS => ?_)
    refine lv_icmp_ge (tgt := 64) hx hb dX5_endOf_31 (by decide) (fun hc => ?_) (fun hc => ?_)
    · have h := nx_it h hc
      exact kR _ (Option.some.inj h).symm H locs ls hP hS (lv_sub hl [0] rfl)
    · have h := nx_if h hc
      refine lv_aload_n hx hb dX5_endOf_34 rfl (lv_at hl 0 rfl) ?_
      refine nx_gf X hP uw_X5 (ci := 5) rfl 13 rfl 1 (by decide) wf_RX5_19 rfl dX5_endOf_35 ?_
      refine lv_iload hx hb dX5_endOf_38 (lv_at hl 3 rfl) ?_
      obtain ⟨r_4, hc_3, h⟩ := nx_bd h
      refine nx_ki (nx_runV (As := [.int x4]) (rest := []) X hS hP (c_X8_reachedAt l E H.size a size on kinds marks nb reached dist lastW par ord paths costs wanted tlen onlyF found steps plen rowW rowS tally x4 _ hc_3) nx_FA qV_RX5_44 ⟨rfl, rfl⟩ ⟨Nat.le_of_ble_eq_true rfl, Nat.le_of_ble_eq_true rfl⟩ ⟨Nat.zero_le _, Nat.zero_le _⟩ 6 rfl rfl rfl rfl hl.1 (Nat.le_of_ble_eq_true rfl) dX5_endOf_40) hS nx_FA (fun H locs hP hS => ?_)
      refine lv_istore (lv' := [(5, .int r_4), (0, .ref (a 13)), (2, .int x2), (3, .int x3), (4, .int x4)]) hx hb dX5_endOf_43 hl (by decide) rfl (fun ls hl => ?_)
      refine lv_iload hx hb dX5_endOf_45 (lv_at hl 0 rfl) ?_
      refine lv_iload_n hx hb dX5_endOf_47 rfl (lv_at hl 2 rfl) ?_
      refine lv_iload_n hx hb dX5_endOf_48 rfl (lv_at hl 3 rfl) ?_
      obtain ⟨r_6, hc_5, h⟩ := nx_bd h
      refine nx_ki (nx_runS (As := [.int r_4, .int x2, .int x3]) (rest := []) X hS hP (c_X5_meets l E H.size _ r_4 x2 x3 _ hc_5) nx_FA qS_RX5_47 ⟨rfl, rfl⟩ ⟨Nat.le_of_ble_eq_true rfl, Nat.le_of_ble_eq_true rfl⟩ ⟨Nat.zero_le _, Nat.zero_le _⟩ rfl rfl hl.1 (Nat.le_of_ble_eq_true rfl) dX5_endOf_49) hS nx_FA (fun H locs hP hS => ?_)
      refine lv_if_eq (tgt := 58) hx hb dX5_endOf_52 (by decide) (fun hc => ?_) (fun hc => ?_)
      · have h := nx_it h hc
        refine lv_iinc (v := (x4 + 1)) (lv' := [(4, .int (x4 + 1)), (5, .int r_4), (0, .ref (a 13)), (2, .int x2), (3, .int x3)]) hx hb dX5_endOf_58 hl (k := 4) rfl rfl (by decide) rfl (fun ls hl => ?_)
        refine lv_goto (tgt := 22) hx hb dX5_endOf_61 (by decide) ?_
        exact ih _ z h H locs ls hP hS (lv_sub hl [2, 3, 4, 0] rfl) kL kR
      · have h := nx_if h hc
        refine lv_iload hx hb dX5_endOf_55 (lv_at hl 0 rfl) ?_
        exact kL _ (Option.some.inj h).symm 57 ls r_4 (reached, dist, lastW, par, ord, paths) H locs dX5_endOf_57 rfl hP hS
  unfold f_X5_endOf at h
  suffices hw : ∀ (H : Heap) (locs : List Loc), va_P E.1 vwCl (cW E a size on kinds marks nb reached dist lastW par ord paths costs wanted tlen onlyF found steps plen rowW rowS tally) H → va_S (nx_A a 24 s.heap.size) s.heap H locs → W p l e (nx_rm 4 95) s m args below meth c H locs 0 0 Q (F0 m 0 ls []) from hw _ _ hP va_S.rf
  intro H locs hP hS
  refine lv_aload_n hx hb dX5_endOf_0 rfl (lv_at hl 0 rfl) ?_
  refine nx_gf X hP uw_X5 (ci := 5) rfl 13 rfl 1 (by decide) wf_RX5_19 rfl dX5_endOf_1 ?_
  refine lv_iload_n hx hb dX5_endOf_4 rfl (lv_at hl 1 rfl) ?_
  obtain ⟨⟨k_8, k_9, k_10, k_11, k_12, k_13⟩, hc_7, h⟩ := nx_bd h
  refine nx_kv (nx_runV (As := [.int x1]) (rest := []) X hS hP (c_X8_begin l N E H.size a size on kinds marks nb reached dist lastW par ord paths costs wanted tlen onlyF found steps plen rowW rowS tally x1 hI _ hc_7) (nx_Am hS.1) qV_RX5_55 ⟨rfl, rfl⟩ ⟨Nat.le_of_ble_eq_true rfl, Nat.le_of_ble_eq_true rfl⟩ ⟨Nat.zero_le _, Nat.zero_le _⟩ 6 rfl rfl rfl rfl hl.1 (Nat.le_of_ble_eq_true rfl) dX5_endOf_5) hS (nx_Am hS.1) (fun H locs hP hS => ?_)
  have hP : va_P E.1 vwCl (cW E a size on kinds marks nb k_8 k_9 k_10 k_11 k_12 k_13 costs wanted tlen onlyF found steps plen rowW rowS tally) H := hP
  refine lv_aload_n hx hb dX5_endOf_8 rfl (lv_at hl 0 rfl) ?_
  refine nx_gf X hP uw_X5 (ci := 5) rfl 13 rfl 1 (by decide) wf_RX5_19 rfl dX5_endOf_9 ?_
  refine lv_aload_n hx hb dX5_endOf_12 rfl (lv_at hl 0 rfl) ?_
  refine nx_gf X hP uw_X5 (ci := 5) rfl 13 rfl 0 (by decide) wf_RX5_15 rfl dX5_endOf_13 ?_
  obtain ⟨⟨k_16, k_17, k_18, k_19, k_20, k_21⟩, hc_15, h⟩ := nx_bd h
  refine nx_kv (nx_runV (As := [.ref (a 12)]) (rest := []) X hS hP (c_X8_spread_r12 l N E H.size a size on kinds marks nb k_8 k_9 k_10 k_11 k_12 k_13 costs wanted tlen onlyF found steps plen rowW rowS tally hI _ hc_15) (nx_Am hS.1) qV_RX5_59 ⟨rfl, rfl⟩ ⟨Nat.le_of_ble_eq_true rfl, Nat.le_of_ble_eq_true rfl⟩ ⟨Nat.zero_le _, Nat.zero_le _⟩ 6 rfl rfl rfl rfl hl.1 (Nat.le_of_ble_eq_true rfl) dX5_endOf_16) hS (nx_Am hS.1) (fun H locs hP hS => ?_)
  have hP : va_P E.1 vwCl (cW E a size on kinds marks nb k_16 k_17 k_18 k_19 k_20 k_21 costs wanted tlen onlyF found steps plen rowW rowS tally) H := hP
  refine lv_iconst (v := 0) hx hb dX5_endOf_19 (by decide) ?_
  refine lv_istore (lv' := [(4, .int 0), (0, .ref (a 13)), (1, .int x1), (2, .int x2), (3, .int x3)]) hx hb dX5_endOf_20 hl (by decide) rfl (fun ls hl => ?_)
  obtain ⟨z_23, hz_24, h⟩ := nx_bd h
  refine L22 _ _ _ _ _ _ _ _ N _ _ hz_24 H locs ls hP hS (lv_sub hl [1, 3, 4, 0] rfl) ?_ ?_
  · intro rr hr
    subst hr
    have h := Option.some.inj h; subst h
    exact kr
  intro y_25 hr H locs ls hP hS hl
  subst hr
  refine lv_iconst (v := (-1)) hx hb dX5_endOf_64 (by decide) ?_
  exact kr 65 ls (-1) (k_16, k_17, k_18, k_19, k_20, k_21) H locs dX5_endOf_65 (Option.some.inj h) hP hS
def f_X5_length (N : Nat) (x1 : Int32) (x2 : Int32) (x3 : Int32) (size : Int32) (on : Int32) (kinds : Nat → Int32) (marks : Nat → Int32) (nb : Nat → Int32) (reached : Int32) (dist : Nat → Int32) (lastW : Nat → Int32) (par : Nat → Int32) (ord : Nat → Int32) (paths : Nat → Int64) : Option (Int32 × (Int32 × (Nat → Int32) × (Nat → Int32) × (Nat → Int32) × (Nat → Int32) × (Nat → Int64))) :=
  (f_X5_endOf N x1 x2 x3 size on kinds marks nb reached dist lastW par ord paths).bind fun t_9 => (f_X8_distanceTo t_9.1 t_9.2.2.1).bind fun r_11 => (f_X10_noneIfNowhere r_11).bind fun r_13 => some (r_13, (t_9.2.1, t_9.2.2.1, t_9.2.2.2.1, t_9.2.2.2.2.1, t_9.2.2.2.2.2.1, t_9.2.2.2.2.2.2))
set_option maxHeartbeats 4000000 in
set_option maxRecDepth 100000 in
theorem c_X5_length (l : Launch) (N : Nat) (E : nx_E) (sz : Nat) (a : Nat → Nat) (size : Int32) (on : Int32) (kinds : Nat → Int32) (marks : Nat → Int32) (nb : Nat → Int32) (reached : Int32) (dist : Nat → Int32) (lastW : Nat → Int32) (par : Nat → Int32) (ord : Nat → Int32) (paths : Nat → Int64) (costs : Nat → Int32) (wanted : Int32) (tlen : Int32) (onlyF : Int32) (found : Int32) (steps : Nat → Int32) (plen : Int32) (rowW : Nat → Int32) (rowS : Nat → Int32) (tally : Nat → Int32) (x1 : Int32) (x2 : Int32) (x3 : Int32) (hI : nx_inj a 24) (o : Int32 × (Int32 × (Nat → Int32) × (Nat → Int32) × (Nat → Int32) × (Nat → Int32) × (Nat → Int64))) (h : f_X5_length N x1 x2 x3 size on kinds marks nb reached dist lastW par ord paths = some o) : Met l yX5_length (.code yX5_length cX5_length 4 (some .int) :: nx_T) (nx_rm 5 120) (va_Pc [.ref (a 13), .int x1, .int x2, .int x3] (nx_P E (nx_A a 24 sz) sz (cW E a size on kinds marks nb reached dist lastW par ord paths costs wanted tlen onlyF found steps plen rowW rowS tally))) (va_Qi (fun v u => (v, u) = o) (fun u t => va_P E.1 vwCl (cW E a size on kinds marks nb (u.1) (u.2.1) (u.2.2.1) (u.2.2.2.1) (u.2.2.2.2.1) (u.2.2.2.2.2) costs wanted tlen onlyF found steps plen rowW rowS tally) t.heap) (nx_A a 24 sz)) 0 0 (nx_A a 24 sz) := by
  refine nx_enI (fun v u => (v, u) = o) (fun (u : Int32 × (Nat → Int32) × (Nat → Int32) × (Nat → Int32) × (Nat → Int32) × (Nat → Int64)) => (cW E a size on kinds marks nb (u.1) (u.2.1) (u.2.2.1) (u.2.2.2.1) (u.2.2.2.2.1) (u.2.2.2.2.2) costs wanted tlen onlyF found steps plen rowW rowS tally)) (by decide) (Nat.le_of_ble_eq_true rfl) ?_
  intro p e s m below meth c Q X kr hsz hP ls hl
  subst hsz
  generalize hargs : (List.toArray [.ref (a 13), .int x1, .int x2, .int x3] : Array Value) = args at X kr ⊢
  clear hargs
  obtain ⟨⟨hx, hb, hml, hown, hts⟩, hK, hSt, hNz⟩ := id X
  have hS : va_S (nx_A a 24 s.heap.size) s.heap s.heap [] := va_S.rf
  have hl : lv_has ls 4 [(0, .ref (a 13)), (1, .int x1), (2, .int x2), (3, .int x3)] := hl
  unfold f_X5_length at h
  suffices hw : ∀ (H : Heap) (locs : List Loc), va_P E.1 vwCl (cW E a size on kinds marks nb reached dist lastW par ord paths costs wanted tlen onlyF found steps plen rowW rowS tally) H → va_S (nx_A a 24 s.heap.size) s.heap H locs → W p l e (nx_rm 5 120) s m args below meth c H locs 0 0 Q (F0 m 0 ls []) from hw _ _ hP va_S.rf
  intro H locs hP hS
  refine lv_aload_n hx hb dX5_length_0 rfl (lv_at hl 0 rfl) ?_
  refine nx_gf X hP uw_X5 (ci := 5) rfl 13 rfl 1 (by decide) wf_RX5_19 rfl dX5_length_1 ?_
  refine lv_aload_n hx hb dX5_length_4 rfl (lv_at hl 0 rfl) ?_
  refine lv_iload_n hx hb dX5_length_5 rfl (lv_at hl 1 rfl) ?_
  refine lv_iload_n hx hb dX5_length_6 rfl (lv_at hl 2 rfl) ?_
  refine lv_iload_n hx hb dX5_length_7 rfl (lv_at hl 3 rfl) ?_
  obtain ⟨⟨r_2, ⟨k_3, k_4, k_5, k_6, k_7, k_8⟩⟩, hc_1, h⟩ := nx_bd h
  refine nx_kwi (nx_runV (As := [.int x1, .int x2, .int x3]) (rest := [.ref (a 6)]) X hS hP (c_X5_endOf l N E H.size a size on kinds marks nb reached dist lastW par ord paths costs wanted tlen onlyF found steps plen rowW rowS tally x1 x2 x3 hI _ hc_1) (nx_Am hS.1) qV_RX5_23 ⟨rfl, rfl⟩ ⟨Nat.le_of_ble_eq_true rfl, Nat.le_of_ble_eq_true rfl⟩ ⟨Nat.zero_le _, Nat.zero_le _⟩ 13 rfl rfl rfl rfl hl.1 (Nat.le_of_ble_eq_true rfl) dX5_length_8) hS (nx_Am hS.1) (fun H locs hP hS => ?_)
  have hP : va_P E.1 vwCl (cW E a size on kinds marks nb k_3 k_4 k_5 k_6 k_7 k_8 costs wanted tlen onlyF found steps plen rowW rowS tally) H := hP
  obtain ⟨r_11, hc_10, h⟩ := nx_bd h
  refine nx_ki (nx_runV (As := [.int r_2]) (rest := []) X hS hP (c_X8_distanceTo l E H.size a size on kinds marks nb k_3 k_4 k_5 k_6 k_7 k_8 costs wanted tlen onlyF found steps plen rowW rowS tally r_2 _ hc_10) nx_FA qV_RX5_27 ⟨rfl, rfl⟩ ⟨Nat.le_of_ble_eq_true rfl, Nat.le_of_ble_eq_true rfl⟩ ⟨Nat.zero_le _, Nat.zero_le _⟩ 6 rfl rfl rfl rfl hl.1 (Nat.le_of_ble_eq_true rfl) dX5_length_11) hS nx_FA (fun H locs hP hS => ?_)
  obtain ⟨r_13, hc_12, h⟩ := nx_bd h
  refine nx_ki (nx_runN (As := [.int r_11]) (rest := []) X hS hP (c_X10_noneIfNowhere l E H.size _ r_11 _ hc_12) nx_FA qN_RX5_33 ⟨rfl, rfl⟩ ⟨Nat.le_of_ble_eq_true rfl, Nat.le_of_ble_eq_true rfl⟩ ⟨Nat.zero_le _, Nat.zero_le _⟩ rfl rfl hl.1 (Nat.le_of_ble_eq_true rfl) dX5_length_14) hS nx_FA (fun H locs hP hS => ?_)
  exact kr 17 ls r_13 (k_3, k_4, k_5, k_6, k_7, k_8) H locs dX5_length_17 (Option.some.inj h) hP hS
def f_X10_shortest (N : Nat) (x1 : Int32) (x2 : Int32) (x3 : Int32) (x4 : Int32) (size : Int32) (on : Int32) (kinds : Nat → Int32) (marks : Nat → Int32) (nb : Nat → Int32) (reached : Int32) (dist : Nat → Int32) (lastW : Nat → Int32) (par : Nat → Int32) (ord : Nat → Int32) (paths : Nat → Int64) : Option (Int32 × (Int32 × (Nat → Int32) × (Nat → Int32) × (Nat → Int32) × (Nat → Int32) × (Nat → Int64))) :=
  (f_X10_refusalOfGoal x1 x2 x3 x4 size).bind fun r_2 => if r_2 = 0 then ((f_X4_at x1 x2).bind fun r_4 => (f_X5_length N r_4 x3 x4 size on kinds marks nb reached dist lastW par ord paths).bind fun t_13 => some (t_13.1, (t_13.2.1, t_13.2.2.1, t_13.2.2.2.1, t_13.2.2.2.2.1, t_13.2.2.2.2.2.1, t_13.2.2.2.2.2.2))) else (some (r_2, (reached, dist, lastW, par, ord, paths)))
set_option maxHeartbeats 4000000 in
set_option maxRecDepth 100000 in
theorem c_X10_shortest (l : Launch) (N : Nat) (E : nx_E) (sz : Nat) (a : Nat → Nat) (size : Int32) (on : Int32) (kinds : Nat → Int32) (marks : Nat → Int32) (nb : Nat → Int32) (reached : Int32) (dist : Nat → Int32) (lastW : Nat → Int32) (par : Nat → Int32) (ord : Nat → Int32) (paths : Nat → Int64) (costs : Nat → Int32) (wanted : Int32) (tlen : Int32) (onlyF : Int32) (found : Int32) (steps : Nat → Int32) (plen : Int32) (rowW : Nat → Int32) (rowS : Nat → Int32) (tally : Nat → Int32) (x1 : Int32) (x2 : Int32) (x3 : Int32) (x4 : Int32) (hI : nx_inj a 24) (o : Int32 × (Int32 × (Nat → Int32) × (Nat → Int32) × (Nat → Int32) × (Nat → Int32) × (Nat → Int64))) (h : f_X10_shortest N x1 x2 x3 x4 size on kinds marks nb reached dist lastW par ord paths = some o) : Met l yX10_shortest (.code yX10_shortest cX10_shortest 6 (some .int) :: nx_T) (nx_rm 6 143) (va_Pc [.ref (a 0), .int x1, .int x2, .int x3, .int x4] (nx_P E (nx_A a 24 sz) sz (cW E a size on kinds marks nb reached dist lastW par ord paths costs wanted tlen onlyF found steps plen rowW rowS tally))) (va_Qi (fun v u => (v, u) = o) (fun u t => va_P E.1 vwCl (cW E a size on kinds marks nb (u.1) (u.2.1) (u.2.2.1) (u.2.2.2.1) (u.2.2.2.2.1) (u.2.2.2.2.2) costs wanted tlen onlyF found steps plen rowW rowS tally) t.heap) (nx_A a 24 sz)) 0 0 (nx_A a 24 sz) := by
  refine nx_enI (fun v u => (v, u) = o) (fun (u : Int32 × (Nat → Int32) × (Nat → Int32) × (Nat → Int32) × (Nat → Int32) × (Nat → Int64)) => (cW E a size on kinds marks nb (u.1) (u.2.1) (u.2.2.1) (u.2.2.2.1) (u.2.2.2.2.1) (u.2.2.2.2.2) costs wanted tlen onlyF found steps plen rowW rowS tally)) (by decide) (Nat.le_of_ble_eq_true rfl) ?_
  intro p e s m below meth c Q X kr hsz hP ls hl
  subst hsz
  generalize hargs : (List.toArray [.ref (a 0), .int x1, .int x2, .int x3, .int x4] : Array Value) = args at X kr ⊢
  clear hargs
  obtain ⟨⟨hx, hb, hml, hown, hts⟩, hK, hSt, hNz⟩ := id X
  have hS : va_S (nx_A a 24 s.heap.size) s.heap s.heap [] := va_S.rf
  have hl : lv_has ls 6 [(0, .ref (a 0)), (1, .int x1), (2, .int x2), (3, .int x3), (4, .int x4)] := hl
  unfold f_X10_shortest at h
  suffices hw : ∀ (H : Heap) (locs : List Loc), va_P E.1 vwCl (cW E a size on kinds marks nb reached dist lastW par ord paths costs wanted tlen onlyF found steps plen rowW rowS tally) H → va_S (nx_A a 24 s.heap.size) s.heap H locs → W p l e (nx_rm 6 143) s m args below meth c H locs 0 0 Q (F0 m 0 ls []) from hw _ _ hP va_S.rf
  intro H locs hP hS
  refine lv_aload_n hx hb dX10_shortest_0 rfl (lv_at hl 0 rfl) ?_
  refine lv_iload_n hx hb dX10_shortest_1 rfl (lv_at hl 1 rfl) ?_
  refine lv_iload_n hx hb dX10_shortest_2 rfl (lv_at hl 2 rfl) ?_
  refine lv_iload_n hx hb dX10_shortest_3 rfl (lv_at hl 3 rfl) ?_
  refine lv_iload hx hb dX10_shortest_4 (lv_at hl 4 rfl) ?_
  obtain ⟨r_2, hc_1, h⟩ := nx_bd h
  refine nx_ki (nx_runV (As := [.int x1, .int x2, .int x3, .int x4]) (rest := []) X hS hP (c_X10_refusalOfGoal l E H.size a size on kinds marks nb reached dist lastW par ord paths costs wanted tlen onlyF found steps plen rowW rowS tally x1 x2 x3 x4 _ hc_1) nx_FA qV_RX10_158 ⟨rfl, rfl⟩ ⟨Nat.le_of_ble_eq_true rfl, Nat.le_of_ble_eq_true rfl⟩ ⟨Nat.zero_le _, Nat.zero_le _⟩ 0 rfl rfl rfl rfl hl.1 (Nat.le_of_ble_eq_true rfl) dX10_shortest_6) hS nx_FA (fun H locs hP hS => ?_)
  refine lv_istore (lv' := [(5, .int r_2), (0, .ref (a 0)), (1, .int x1), (2, .int x2), (3, .int x3), (4, .int x4)]) hx hb dX10_shortest_9 hl (by decide) rfl (fun ls hl => ?_)
  refine lv_iload hx hb dX10_shortest_11 (lv_at hl 0 rfl) ?_
  refine lv_if_eq (tgt := 21) hx hb dX10_shortest_13 (by decide) (fun hc => ?_) (fun hc => ?_)
  · have h := nx_it h hc
    refine lv_aload_n hx hb dX10_shortest_21 rfl (lv_at hl 1 rfl) ?_
    refine nx_gf X hP uw_X10 (ci := 9) rfl 0 rfl 4 (by decide) wf_RX10_44 rfl dX10_shortest_22 ?_
    refine lv_iload_n hx hb dX10_shortest_25 rfl (lv_at hl 2 rfl) ?_
    refine lv_iload_n hx hb dX10_shortest_26 rfl (lv_at hl 3 rfl) ?_
    obtain ⟨r_4, hc_3, h⟩ := nx_bd h
    refine nx_ki (nx_runS (As := [.int x1, .int x2]) (rest := [.ref (a 13)]) X hS hP (c_X4_at l E H.size _ x1 x2 _ hc_3) nx_FA qS_RX10_152 ⟨rfl, rfl⟩ ⟨Nat.le_of_ble_eq_true rfl, Nat.le_of_ble_eq_true rfl⟩ ⟨Nat.zero_le _, Nat.zero_le _⟩ rfl rfl hl.1 (Nat.le_of_ble_eq_true rfl) dX10_shortest_27) hS nx_FA (fun H locs hP hS => ?_)
    refine lv_iload_n hx hb dX10_shortest_30 rfl (lv_at hl 4 rfl) ?_
    refine lv_iload hx hb dX10_shortest_31 (lv_at hl 5 rfl) ?_
    obtain ⟨⟨r_6, ⟨k_7, k_8, k_9, k_10, k_11, k_12⟩⟩, hc_5, h⟩ := nx_bd h
    refine nx_kwi (nx_runV (As := [.int r_4, .int x3, .int x4]) (rest := []) X hS hP (c_X5_length l N E H.size a size on kinds marks nb reached dist lastW par ord paths costs wanted tlen onlyF found steps plen rowW rowS tally r_4 x3 x4 hI _ hc_5) (nx_Am hS.1) qV_RX10_162 ⟨rfl, rfl⟩ ⟨Nat.le_of_ble_eq_true rfl, Nat.le_of_ble_eq_true rfl⟩ ⟨Nat.zero_le _, Nat.zero_le _⟩ 13 rfl rfl rfl rfl hl.1 (Nat.le_of_ble_eq_true rfl) dX10_shortest_33) hS (nx_Am hS.1) (fun H locs hP hS => ?_)
    have hP : va_P E.1 vwCl (cW E a size on kinds marks nb k_7 k_8 k_9 k_10 k_11 k_12 costs wanted tlen onlyF found steps plen rowW rowS tally) H := hP
    exact kr 36 ls r_6 (k_7, k_8, k_9, k_10, k_11, k_12) H locs dX10_shortest_36 (Option.some.inj h) hP hS
  · have h := nx_if h hc
    refine lv_iload hx hb dX10_shortest_16 (lv_at hl 0 rfl) ?_
    refine lv_goto (tgt := 36) hx hb dX10_shortest_18 (by decide) ?_
    exact kr 36 ls r_2 (reached, dist, lastW, par, ord, paths) H locs dX10_shortest_36 (Option.some.inj h) hP hS
def f_X8_stepTo_b26 (x2 : Int32) (par : Nat → Int32) (rec : (Int32 × Int32) → Option (Int32)) (x4 : Int32) (x5 : Int32) : Option (Int32) :=
  if x5 ≤ x2 then (some x4) else ((f_X8_isState x4).bind fun r_2 => if r_2 = 0 then (some x4) else ((nx_rd par 600 x4).bind fun _ => rec ((par x4.toNatClampNeg), (x5 + (-1)))))
def f_X8_stepTo_l26 (x2 : Int32) (par : Nat → Int32) : Nat → (Int32 × Int32) → Option (Int32) := nx_lp (fun rec z => f_X8_stepTo_b26 x2 par rec z.1 z.2)
def f_X8_stepTo (N : Nat) (x1 : Int32) (x2 : Int32) (dist : Nat → Int32) (lastW : Nat → Int32) (par : Nat → Int32) : Option (Int32) :=
  (f_X8_distanceTo x1 dist).bind fun r_6 => if x2 < 0 then (some (-9)) else (if x2 < r_6 then ((f_X8_stepTo_l26 x2 par N (x1, (r_6 - 1))).bind fun z_7 => (f_X8_isState z_7).bind fun r_10 => if r_10 = 0 then (some (-9)) else ((nx_rd lastW 600 z_7).bind fun _ => some (lastW z_7.toNatClampNeg))) else (some (-9)))
set_option maxHeartbeats 4000000 in
set_option maxRecDepth 100000 in
theorem c_X8_stepTo (l : Launch) (N : Nat) (E : nx_E) (sz : Nat) (a : Nat → Nat) (size : Int32) (on : Int32) (kinds : Nat → Int32) (marks : Nat → Int32) (nb : Nat → Int32) (reached : Int32) (dist : Nat → Int32) (lastW : Nat → Int32) (par : Nat → Int32) (ord : Nat → Int32) (paths : Nat → Int64) (costs : Nat → Int32) (wanted : Int32) (tlen : Int32) (onlyF : Int32) (found : Int32) (steps : Nat → Int32) (plen : Int32) (rowW : Nat → Int32) (rowS : Nat → Int32) (tally : Nat → Int32) (x1 : Int32) (x2 : Int32) (o : Int32) (h : f_X8_stepTo N x1 x2 dist lastW par = some o) : Met l yX8_stepTo (.code yX8_stepTo cX8_stepTo 6 (some .int) :: nx_T) (nx_rm 2 41) (va_Pc [.ref (a 6), .int x1, .int x2] (nx_P E (nx_F) sz (cW E a size on kinds marks nb reached dist lastW par ord paths costs wanted tlen onlyF found steps plen rowW rowS tally))) (va_Qi (fun v (_ : Unit) => v = o) (fun _ t => va_P E.1 vwCl (cW E a size on kinds marks nb reached dist lastW par ord paths costs wanted tlen onlyF found steps plen rowW rowS tally) t.heap) (nx_F)) 0 0 (nx_F) := by
  refine nx_enI (fun v (_ : Unit) => v = o) (fun (_ : Unit) => (cW E a size on kinds marks nb reached dist lastW par ord paths costs wanted tlen onlyF found steps plen rowW rowS tally)) (by decide) (Nat.le_of_ble_eq_true rfl) ?_
  intro p e s m below meth c Q X kr hsz hP ls hl
  subst hsz
  generalize hargs : (List.toArray [.ref (a 6), .int x1, .int x2] : Array Value) = args at X kr ⊢
  clear hargs
  obtain ⟨⟨hx, hb, hml, hown, hts⟩, hK, hSt, hNz⟩ := id X
  have hS : va_S (nx_F) s.heap s.heap [] := va_S.rf
  have hl : lv_has ls 6 [(0, .ref (a 6)), (1, .int x1), (2, .int x2)] := hl
  have L26 : ∀ (x2 : Int32) (n : Nat) (x4 : Int32) (x5 : Int32) (z : (Int32)), f_X8_stepTo_l26 x2 par n (x4, x5) = some z → ∀ (H : Heap) (locs : List Loc) (ls : Array Slot), va_P E.1 vwCl (cW E a size on kinds marks nb reached dist lastW par ord paths costs wanted tlen onlyF found steps plen rowW rowS tally) H → va_S (nx_F) s.heap H locs → lv_has ls 6 [(0, .ref (a 6)), (2, .int x2), (4, .int x4), (5, .int x5)] → ∀ (kR : ∀ (H : Heap) (locs : List Loc) (ls : Array Slot), va_P E.1 vwCl (cW E a size on kinds marks nb reached dist lastW par ord paths costs wanted tlen onlyF found steps plen rowW rowS tally) H → va_S (nx_F) s.heap H locs → lv_has ls 6 [(0, .ref (a 6)), (4, .int z)] → W p l e (nx_rm 2 41) s m args below meth c H locs 0 0 Q (F0 m 55 ls [])), W p l e (nx_rm 2 41) s m args below meth c H locs 0 0 Q (F0 m 26 ls []) := by
   intro x2 n
   induction n with
   | zero => intro x4 x5 z h; exact nomatch (show none = some z from h)
   | succ n ih =>
    intro x4 x5 z h H locs ls hP hS hl kR
    have h : f_X8_stepTo_b26 x2 par (f_X8_stepTo_l26 x2 par n) x4 x5 = some z := h
    unfold f_X8_stepTo_b26 at h
    refine lv_iload hx hb dX8_stepTo_26 (lv_at hl 3 rfl) ?_
    refine lv_iload_n hx hb dX8_stepTo_28 rfl (lv_at hl 1 rfl) ?_
    refine lv_icmp_le (tgt := 55) hx hb dX8_stepTo_29 (by decide) (fun hc => ?_) (fun hc => ?_)
    · have h := nx_it h hc
      obtain rfl := Option.some.inj h
      exact kR H locs ls hP hS (lv_sub hl [0, 2] rfl)
    · have h := nx_if h hc
      refine lv_iload hx hb dX8_stepTo_32 (lv_at hl 2 rfl) ?_
      obtain ⟨r_2, hc_1, h⟩ := nx_bd h
      refine nx_ki (nx_runS (As := [.int x4]) (rest := []) X hS hP (c_X8_isState l E H.size _ x4 _ hc_1) nx_FA qS_RX8_38 ⟨rfl, rfl⟩ ⟨Nat.le_of_ble_eq_true rfl, Nat.le_of_ble_eq_true rfl⟩ ⟨Nat.zero_le _, Nat.zero_le _⟩ rfl rfl hl.1 (Nat.le_of_ble_eq_true rfl) dX8_stepTo_34) hS nx_FA (fun H locs hP hS => ?_)
      refine lv_if_eq (tgt := 55) hx hb dX8_stepTo_37 (by decide) (fun hc => ?_) (fun hc => ?_)
      · have h := nx_it h hc
        obtain rfl := Option.some.inj h
        exact kR H locs ls hP hS (lv_sub hl [0, 2] rfl)
      · have h := nx_if h hc
        refine lv_aload_n hx hb dX8_stepTo_40 rfl (lv_at hl 0 rfl) ?_
        refine nx_gf X hP uw_X8 (ci := 7) rfl 6 rfl 2 (by decide) wf_RX8_18 rfl dX8_stepTo_41 ?_
        refine lv_iload hx hb dX8_stepTo_44 (lv_at hl 2 rfl) ?_
        obtain ⟨hv_3, h⟩ := nx_rb h
        refine nx_ld X hP 9 rfl hv_3 dX8_stepTo_46 ?_
        refine lv_istore (lv' := [(4, .int (par x4.toNatClampNeg)), (0, .ref (a 6)), (2, .int x2), (5, .int x5)]) hx hb dX8_stepTo_47 hl (by decide) rfl (fun ls hl => ?_)
        refine lv_iinc (v := (x5 + (-1))) (lv' := [(5, .int (x5 + (-1))), (4, .int (par x4.toNatClampNeg)), (0, .ref (a 6)), (2, .int x2)]) hx hb dX8_stepTo_49 hl (k := 3) rfl rfl (by decide) rfl (fun ls hl => ?_)
        refine lv_goto (tgt := 26) hx hb dX8_stepTo_52 (by decide) ?_
        exact ih _ _ z h H locs ls hP hS (lv_sub hl [2, 3, 1, 0] rfl) kR
  unfold f_X8_stepTo at h
  suffices hw : ∀ (H : Heap) (locs : List Loc), va_P E.1 vwCl (cW E a size on kinds marks nb reached dist lastW par ord paths costs wanted tlen onlyF found steps plen rowW rowS tally) H → va_S (nx_F) s.heap H locs → W p l e (nx_rm 2 41) s m args below meth c H locs 0 0 Q (F0 m 0 ls []) from hw _ _ hP va_S.rf
  intro H locs hP hS
  refine lv_aload_n hx hb dX8_stepTo_0 rfl (lv_at hl 0 rfl) ?_
  refine lv_iload_n hx hb dX8_stepTo_1 rfl (lv_at hl 1 rfl) ?_
  obtain ⟨r_6, hc_5, h⟩ := nx_bd h
  refine nx_ki (nx_runV (As := [.int x1]) (rest := []) X hS hP (c_X8_distanceTo l E H.size a size on kinds marks nb reached dist lastW par ord paths costs wanted tlen onlyF found steps plen rowW rowS tally x1 _ hc_5) nx_FA qV_RX8_63 ⟨rfl, rfl⟩ ⟨Nat.le_of_ble_eq_true rfl, Nat.le_of_ble_eq_true rfl⟩ ⟨Nat.zero_le _, Nat.zero_le _⟩ 6 rfl rfl rfl rfl hl.1 (Nat.le_of_ble_eq_true rfl) dX8_stepTo_2) hS nx_FA (fun H locs hP hS => ?_)
  refine lv_istore_n (lv' := [(3, .int r_6), (0, .ref (a 6)), (1, .int x1), (2, .int x2)]) hx hb dX8_stepTo_5 rfl hl (by decide) rfl (fun ls hl => ?_)
  refine lv_iload_n hx hb dX8_stepTo_6 rfl (lv_at hl 3 rfl) ?_
  refine lv_if_lt (tgt := 15) hx hb dX8_stepTo_7 (by decide) (fun hc => ?_) (fun hc => ?_)
  · have h := nx_it h hc
    refine lv_bipush (v := (-9)) hx hb dX8_stepTo_15 (by decide) ?_
    exact kr 17 ls (-9) () H locs dX8_stepTo_17 (Option.some.inj h) hP hS
  · have h := nx_if h hc
    refine lv_iload_n hx hb dX8_stepTo_10 rfl (lv_at hl 3 rfl) ?_
    refine lv_iload_n hx hb dX8_stepTo_11 rfl (lv_at hl 0 rfl) ?_
    refine lv_icmp_lt (tgt := 18) hx hb dX8_stepTo_12 (by decide) (fun hc => ?_) (fun hc => ?_)
    · have h := nx_it h hc
      refine lv_iload_n hx hb dX8_stepTo_18 rfl (lv_at hl 2 rfl) ?_
      refine lv_istore (lv' := [(4, .int x1), (3, .int r_6), (0, .ref (a 6)), (1, .int x1), (2, .int x2)]) hx hb dX8_stepTo_19 hl (by decide) rfl (fun ls hl => ?_)
      refine lv_iload_n hx hb dX8_stepTo_21 rfl (lv_at hl 1 rfl) ?_
      refine lv_iconst (v := 1) hx hb dX8_stepTo_22 (by decide) ?_
      refine lv_isub hx hb dX8_stepTo_23 ?_
      refine lv_istore (lv' := [(5, .int (r_6 - 1)), (4, .int x1), (3, .int r_6), (0, .ref (a 6)), (1, .int x1), (2, .int x2)]) hx hb dX8_stepTo_24 hl (by decide) rfl (fun ls hl => ?_)
      obtain ⟨z_7, hz_8, h⟩ := nx_bd h
      refine L26 _ N _ _ _ hz_8 H locs ls hP hS (lv_sub hl [3, 5, 1, 0] rfl) (fun H locs ls hP hS hl => ?_)
      refine lv_iload hx hb dX8_stepTo_55 (lv_at hl 1 rfl) ?_
      obtain ⟨r_10, hc_9, h⟩ := nx_bd h
      refine nx_ki (nx_runS (As := [.int z_7]) (rest := []) X hS hP (c_X8_isState l E H.size _ z_7 _ hc_9) nx_FA qS_RX8_38 ⟨rfl, rfl⟩ ⟨Nat.le_of_ble_eq_true rfl, Nat.le_of_ble_eq_true rfl⟩ ⟨Nat.zero_le _, Nat.zero_le _⟩ rfl rfl hl.1 (Nat.le_of_ble_eq_true rfl) dX8_stepTo_57) hS nx_FA (fun H locs hP hS => ?_)
      refine lv_if_eq (tgt := 73) hx hb dX8_stepTo_60 (by decide) (fun hc => ?_) (fun hc => ?_)
      · have h := nx_it h hc
        refine lv_bipush (v := (-9)) hx hb dX8_stepTo_73 (by decide) ?_
        exact kr 75 ls (-9) () H locs dX8_stepTo_75 (Option.some.inj h) hP hS
      · have h := nx_if h hc
        refine lv_aload_n hx hb dX8_stepTo_63 rfl (lv_at hl 0 rfl) ?_
        refine nx_gf X hP uw_X8 (ci := 7) rfl 6 rfl 1 (by decide) wf_RX8_15 rfl dX8_stepTo_64 ?_
        refine lv_iload hx hb dX8_stepTo_67 (lv_at hl 1 rfl) ?_
        obtain ⟨hv_11, h⟩ := nx_rb h
        refine nx_ld X hP 8 rfl hv_11 dX8_stepTo_69 ?_
        refine lv_goto (tgt := 75) hx hb dX8_stepTo_70 (by decide) ?_
        exact kr 75 ls (lastW z_7.toNatClampNeg) () H locs dX8_stepTo_75 (Option.some.inj h) hP hS
    · have h := nx_if h hc
      refine lv_bipush (v := (-9)) hx hb dX8_stepTo_15 (by decide) ?_
      exact kr 17 ls (-9) () H locs dX8_stepTo_17 (Option.some.inj h) hP hS
