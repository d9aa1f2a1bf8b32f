def f_X5_leastPrints_b52 (N : Nat) (x2 : Int32) (x3 : Int32) (size : Int32) (on : Int32) (kinds : Nat → Int32) (marks : Nat → Int32) (nb : Nat → Int32) (reached : Int32) (ord : Nat → Int32) (rec : (Int32 × Int32 × (Nat → Int32)) → Option ((Nat → Int32))) (x4 : Int32) (x5 : Int32) (costs : Nat → Int32) : Option ((Nat → Int32)) :=
  if x4 = 0 then (some costs) else (if 600 ≤ x5 then (some costs) else ((f_X5_lowerCosts N size on kinds marks nb reached ord costs).bind fun t_4 => rec (t_4.1, (x5 + 1), t_4.2)))
def f_X5_leastPrints_l52 (N : Nat) (x2 : Int32) (x3 : Int32) (size : Int32) (on : Int32) (kinds : Nat → Int32) (marks : Nat → Int32) (nb : Nat → Int32) (reached : Int32) (ord : Nat → Int32) : Nat → (Int32 × Int32 × (Nat → Int32)) → Option ((Nat → Int32)) := nx_lp (fun rec z => f_X5_leastPrints_b52 N x2 x3 size on kinds marks nb reached ord rec z.1 z.2.1 z.2.2)
def f_X5_leastPrints_b84 (x2 : Int32) (x3 : Int32) (costs : Nat → Int32) (rec : (Int32 × Int32) → Option (Int32)) (x5 : Int32) (x6 : Int32) : Option (Int32) :=
  if 600 ≤ x6 then (some x5) else ((f_X5_meets x6 x2 x3).bind fun r_6 => if r_6 = 0 then (rec (x5, (x6 + 1))) else ((nx_rd costs 600 x6).bind fun _ => rec ((if (costs x6.toNatClampNeg) < x5 then (costs x6.toNatClampNeg) else x5), (x6 + 1))))
def f_X5_leastPrints_l84 (x2 : Int32) (x3 : Int32) (costs : Nat → Int32) : Nat → (Int32 × Int32) → Option (Int32) := nx_lp (fun rec z => f_X5_leastPrints_b84 x2 x3 costs rec z.1 z.2)
def f_X5_leastPrints_j46 (N : Nat) (x2 : Int32) (x3 : Int32) (size : Int32) (on : Int32) (kinds : Nat → Int32) (marks : Nat → Int32) (nb : Nat → Int32) (reached : Int32) (dist : Nat → Int32) (lastW : Nat → Int32) (par : Nat → Int32) (ord : Nat → Int32) (paths : Nat → Int64) (costs : Nat → Int32) : Option (Int32 × (Int32 × (Nat → Int32) × (Nat → Int32) × (Nat → Int32) × (Nat → Int32) × (Nat → Int64) × (Nat → Int32))) :=
  (f_X5_leastPrints_l52 N x2 x3 size on kinds marks nb reached ord N (1, 0, costs)).bind fun z_9 => (f_X5_leastPrints_l84 x2 x3 z_9 N (1000000, 0)).bind fun z_11 => if z_11 = 1000000 then (some ((-9), (reached, dist, lastW, par, ord, paths, z_9))) else (some (z_11, (reached, dist, lastW, par, ord, paths, z_9)))
def f_X5_leastPrints (N : Nat) (x1 : Int32) (x2 : Int32) (x3 : Int32) (size : Int32) (on : Int32) (kinds : Nat → Int32) (marks : Nat → Int32) (nb : Nat → Int32) (reached : Int32) (dist : Nat → Int32) (lastW : Nat → Int32) (par : Nat → Int32) (ord : Nat → Int32) (paths : Nat → Int64) (costs : Nat → Int32) : Option (Int32 × (Int32 × (Nat → Int32) × (Nat → Int32) × (Nat → Int32) × (Nat → Int32) × (Nat → Int64) × (Nat → Int32))) :=
  (f_X8_begin N x1 reached dist lastW par ord paths).bind fun t_20 => (f_X8_spread_r12 N size on kinds marks nb t_20.1 t_20.2.1 t_20.2.2.1 t_20.2.2.2.1 t_20.2.2.2.2.1 t_20.2.2.2.2.2).bind fun t_28 => (f_J7_fill_53178_r14 N 1000000 costs).bind fun k_30 => if x1 < 0 then (f_X5_leastPrints_j46 N x2 x3 size on kinds marks nb t_28.1 t_28.2.1 t_28.2.2.1 t_28.2.2.2.1 t_28.2.2.2.2.1 t_28.2.2.2.2.2 k_30) else (if 600 ≤ x1 then (f_X5_leastPrints_j46 N x2 x3 size on kinds marks nb t_28.1 t_28.2.1 t_28.2.2.1 t_28.2.2.2.1 t_28.2.2.2.2.1 t_28.2.2.2.2.2 k_30) else ((nx_ck 600 x1).bind fun _ => f_X5_leastPrints_j46 N x2 x3 size on kinds marks nb t_28.1 t_28.2.1 t_28.2.2.1 t_28.2.2.2.1 t_28.2.2.2.2.1 t_28.2.2.2.2.2 (upd k_30 x1.toNatClampNeg 0)))
set_option maxHeartbeats 4000000 in
set_option maxRecDepth 100000 in
theorem c_X5_leastPrints (l : Launch) (N : Nat) (E : nx_E) (sz : Nat) (a : Nat → Nat) (size : Int32) (on : Int32) (kinds : Nat → Int32) (marks : Nat → Int32) (nb : Nat → Int32) (reached : Int32) (dist : Nat → Int32) (lastW : Nat → Int32) (par : Nat → Int32) (ord : Nat → Int32) (paths : Nat → Int64) (costs : Nat → Int32) (wanted : Int32) (tlen : Int32) (onlyF : Int32) (found : Int32) (steps : Nat → Int32) (plen : Int32) (rowW : Nat → Int32) (rowS : Nat → Int32) (tally : Nat → Int32) (x1 : Int32) (x2 : Int32) (x3 : Int32) (hI : nx_inj a 24) (o : Int32 × (Int32 × (Nat → Int32) × (Nat → Int32) × (Nat → Int32) × (Nat → Int32) × (Nat → Int64) × (Nat → Int32))) (h : f_X5_leastPrints N x1 x2 x3 size on kinds marks nb reached dist lastW par ord paths costs = some o) : Met l yX5_leastPrints (.code yX5_leastPrints cX5_leastPrints 7 (some .int) :: nx_T) (nx_rm 5 107) (va_Pc [.ref (a 13), .int x1, .int x2, .int x3] (nx_P E (nx_A a 24 sz) sz (cW E a size on kinds marks nb reached dist lastW par ord paths costs wanted tlen onlyF found steps plen rowW rowS tally))) (va_Qi (fun v u => (v, u) = o) (fun u t => va_P E.1 vwCl (cW E a size on kinds marks nb (u.1) (u.2.1) (u.2.2.1) (u.2.2.2.1) (u.2.2.2.2.1) (u.2.2.2.2.2.1) (u.2.2.2.2.2.2) wanted tlen onlyF found steps plen rowW rowS tally) t.heap) (nx_A a 24 sz)) 0 0 (nx_A a 24 sz) := by
  refine nx_enI (fun v u => (v, u) = o) (fun (u : Int32 × (Nat → Int32) × (Nat → Int32) × (Nat → Int32) × (Nat → Int32) × (Nat → Int64) × (Nat → Int32)) => (cW E a size on kinds marks nb (u.1) (u.2.1) (u.2.2.1) (u.2.2.2.1) (u.2.2.2.2.1) (u.2.2.2.2.2.1) (u.2.2.2.2.2.2) wanted tlen onlyF found steps plen rowW rowS tally)) (by decide) (Nat.le_of_ble_eq_true rfl) ?_
  intro p e s m below meth c Q X kr hsz hP ls hl
  subst hsz
  generalize hargs : (List.toArray [.ref (a 13), .int x1, .int x2, .int x3] : Array Value) = args at X kr ⊢
  clear hargs
  obtain ⟨⟨hx, hb, hml, hown, hts⟩, hK, hSt, hNz⟩ := id X
  have hS : va_S (nx_A a 24 s.heap.size) s.heap s.heap [] := va_S.rf
  have hl : lv_has ls 7 [(0, .ref (a 13)), (1, .int x1), (2, .int x2), (3, .int x3)] := hl
  have L52 : ∀ (x2 : Int32) (x3 : Int32) (reached : Int32) (ord : Nat → Int32) (dist : Nat → Int32) (lastW : Nat → Int32) (par : Nat → Int32) (paths : Nat → Int64) (n : Nat) (x4 : Int32) (x5 : Int32) (costs : Nat → Int32) (z : ((Nat → Int32))), f_X5_leastPrints_l52 N x2 x3 size on kinds marks nb reached ord n (x4, x5, costs) = some z → ∀ (H : Heap) (locs : List Loc) (ls : Array Slot), va_P E.1 vwCl (cW E a size on kinds marks nb reached dist lastW par ord paths costs wanted tlen onlyF found steps plen rowW rowS tally) H → va_S (nx_A a 24 s.heap.size) s.heap H locs → lv_has ls 7 [(0, .ref (a 13)), (2, .int x2), (3, .int x3), (4, .int x4), (5, .int x5)] → ∀ (kR : ∀ (H : Heap) (locs : List Loc) (ls : Array Slot), va_P E.1 vwCl (cW E a size on kinds marks nb reached dist lastW par ord paths z wanted tlen onlyF found steps plen rowW rowS tally) H → va_S (nx_A a 24 s.heap.size) s.heap H locs → lv_has ls 7 [(0, .ref (a 13)), (2, .int x2), (3, .int x3)] → W p l e (nx_rm 5 107) s m args below meth c H locs 0 0 Q (F0 m 77 ls [])), W p l e (nx_rm 5 107) s m args below meth c H locs 0 0 Q (F0 m 52 ls []) := by
   intro x2 x3 reached ord dist lastW par paths n
   induction n with
   | zero => intro x4 x5 costs z h; exact nomatch (show none = some z from h)
   | succ n ih =>
    intro x4 x5 costs z h H locs ls hP hS hl kR
    have h : f_X5_leastPrints_b52 N x2 x3 size on kinds marks nb reached ord (f_X5_leastPrints_l52 N x2 x3 size on kinds marks nb reached ord n) x4 x5 costs = some z := h
    unfold f_X5_leastPrints_b52 at h
    refine lv_iload hx hb dX5_leastPrints_52 (lv_at hl 3 rfl) ?_
    refine lv_if_eq (tgt := 77) hx hb dX5_leastPrints_54 (by decide) (fun hc => ?_) (fun hc => ?_)
    · have h := nx_it h hc
      obtain rfl := Option.some.inj h
      exact kR H locs ls hP hS (lv_sub hl [0, 1, 2] rfl)
    · have h := nx_if h hc
      refine lv_iload hx hb dX5_leastPrints_57 (lv_at hl 4 rfl) ?_
      refine lv_sipush (v := 600) hx hb dX5_leastPrints_59 (by decide) ?_
      refine lv_icmp_ge (tgt := 77) hx hb dX5_leastPrints_62 (by decide) (fun hc => ?_) (fun hc => ?_)
      · have h := nx_it h hc
        obtain rfl := Option.some.inj h
        exact kR H locs ls hP hS (lv_sub hl [0, 1, 2] rfl)
      · have h := nx_if h hc
        refine lv_aload_n hx hb dX5_leastPrints_65 rfl (lv_at hl 0 rfl) ?_
        obtain ⟨⟨r_2, k_3⟩, hc_1, h⟩ := nx_bd h
        refine nx_kwi (nx_runV (As := []) (rest := []) X hS hP (c_X5_lowerCosts l N E H.size a size on kinds marks nb reached dist lastW par ord paths costs wanted tlen onlyF found steps plen rowW rowS tally hI _ hc_1) (nx_Am hS.1) qV_RX5_70 ⟨rfl, rfl⟩ ⟨Nat.le_of_ble_eq_true rfl, Nat.le_of_ble_eq_true rfl⟩ ⟨Nat.zero_le _, Nat.zero_le _⟩ 13 rfl rfl rfl rfl hl.1 (Nat.le_of_ble_eq_true rfl) dX5_leastPrints_66) hS (nx_Am hS.1) (fun H locs hP hS => ?_)
        have hP : va_P E.1 vwCl (cW E a size on kinds marks nb reached dist lastW par ord paths k_3 wanted tlen onlyF found steps plen rowW rowS tally) H := hP
        refine lv_istore (lv' := [(4, .int r_2), (0, .ref (a 13)), (2, .int x2), (3, .int x3), (5, .int x5)]) hx hb dX5_leastPrints_69 hl (by decide) rfl (fun ls hl => ?_)
        refine lv_iinc (v := (x5 + 1)) (lv' := [(5, .int (x5 + 1)), (4, .int r_2), (0, .ref (a 13)), (2, .int x2), (3, .int x3)]) hx hb dX5_leastPrints_71 hl (k := 4) rfl rfl (by decide) rfl (fun ls hl => ?_)
        refine lv_goto (tgt := 52) hx hb dX5_leastPrints_74 (by decide) ?_
        exact ih _ _ _ z h H locs ls hP hS (lv_sub hl [2, 3, 4, 1, 0] rfl) kR
  have L84 : ∀ (x2 : Int32) (x3 : Int32) (costs : Nat → Int32) (reached : Int32) (dist : Nat → Int32) (lastW : Nat → Int32) (par : Nat → Int32) (ord : Nat → Int32) (paths : Nat → Int64) (n : Nat) (x5 : Int32) (x6 : Int32) (z : (Int32)), f_X5_leastPrints_l84 x2 x3 costs n (x5, x6) = some z → ∀ (H : Heap) (locs : List Loc) (ls : Array Slot), va_P E.1 vwCl (cW E a size on kinds marks nb reached dist lastW par ord paths costs wanted tlen onlyF found steps plen rowW rowS tally) H → va_S (nx_A a 24 s.heap.size) s.heap H locs → lv_has ls 7 [(0, .ref (a 13)), (2, .int x2), (3, .int x3), (5, .int x5), (6, .int x6)] → ∀ (kR : ∀ (H : Heap) (locs : List Loc) (ls : Array Slot), va_P E.1 vwCl (cW E a size on kinds marks nb reached dist lastW par ord paths costs wanted tlen onlyF found steps plen rowW rowS tally) H → va_S (nx_A a 24 s.heap.size) s.heap H locs → lv_has ls 7 [(0, .ref (a 13)), (5, .int z)] → W p l e (nx_rm 5 107) s m args below meth c H locs 0 0 Q (F0 m 122 ls [])), W p l e (nx_rm 5 107) s m args below meth c H locs 0 0 Q (F0 m 84 ls []) := by
   intro x2 x3 costs reached dist lastW par ord paths n
   induction n with
   | zero => intro x5 x6 z h; exact nomatch (show none = some z from h)
   | succ n ih =>
    intro x5 x6 z h H locs ls hP hS hl kR
    have h : f_X5_leastPrints_b84 x2 x3 costs (f_X5_leastPrints_l84 x2 x3 costs n) x5 x6 = some z := h
    unfold f_X5_leastPrints_b84 at h
    refine lv_iload hx hb dX5_leastPrints_84 (lv_at hl 4 rfl) ?_
    refine lv_sipush (v := 600) hx hb dX5_leastPrints_86 (by decide) ?_
    refine lv_icmp_ge (tgt := 122) hx hb dX5_leastPrints_89 (by decide) (fun hc => ?_) (fun hc => ?_)
    · have h := nx_it h hc
      obtain rfl := Option.some.inj h
      exact kR H locs ls hP hS (lv_sub hl [0, 3] rfl)
    · have h := nx_if h hc
      refine lv_iload hx hb dX5_leastPrints_92 (lv_at hl 4 rfl) ?_
      refine lv_iload_n hx hb dX5_leastPrints_94 rfl (lv_at hl 1 rfl) ?_
      refine lv_iload_n hx hb dX5_leastPrints_95 rfl (lv_at hl 2 rfl) ?_
      obtain ⟨r_6, hc_5, h⟩ := nx_bd h
      refine nx_ki (nx_runS (As := [.int x6, .int x2, .int x3]) (rest := []) X hS hP (c_X5_meets l E H.size _ x6 x2 x3 _ hc_5) nx_FA qS_RX5_47 ⟨rfl, rfl⟩ ⟨Nat.le_of_ble_eq_true rfl, Nat.le_of_ble_eq_true rfl⟩ ⟨Nat.zero_le _, Nat.zero_le _⟩ rfl rfl hl.1 (Nat.le_of_ble_eq_true rfl) dX5_leastPrints_96) hS nx_FA (fun H locs hP hS => ?_)
      refine lv_if_eq (tgt := 116) hx hb dX5_leastPrints_99 (by decide) (fun hc => ?_) (fun hc => ?_)
      · have h := nx_it h hc
        refine lv_iinc (v := (x6 + 1)) (lv' := [(6, .int (x6 + 1)), (0, .ref (a 13)), (2, .int x2), (3, .int x3), (5, .int x5)]) hx hb dX5_leastPrints_116 hl (k := 4) rfl rfl (by decide) rfl (fun ls hl => ?_)
        refine lv_goto (tgt := 84) hx hb dX5_leastPrints_119 (by decide) ?_
        exact ih _ _ z h H locs ls hP hS (lv_sub hl [1, 2, 3, 4, 0] rfl) kR
      · have h := nx_if h hc
        refine lv_iload hx hb dX5_leastPrints_102 (lv_at hl 3 rfl) ?_
        refine lv_aload_n hx hb dX5_leastPrints_104 rfl (lv_at hl 0 rfl) ?_
        refine nx_gf X hP uw_X5 (ci := 5) rfl 13 rfl 2 (by decide) wf_RX5_9 rfl dX5_leastPrints_105 ?_
        refine lv_iload hx hb dX5_leastPrints_108 (lv_at hl 4 rfl) ?_
        obtain ⟨hv_7, h⟩ := nx_rb h
        refine nx_ld X hP 14 rfl hv_7 dX5_leastPrints_110 ?_
        refine va_mmin hx hb (by rw [hml]; exact hl.1.symm) hown (hts _ wm_RX5_74) (hts _ ws_J9_min_7cf53) (hts _ wn_RJ9) (hts _ wc_J9_min_7cf53) (Nat.le_of_ble_eq_true rfl) (Nat.le_of_ble_eq_true rfl) (Nat.zero_le _) (Nat.zero_le _) dX5_leastPrints_111 ?_
        refine lv_istore (lv' := [(5, .int (if (costs x6.toNatClampNeg) < x5 then (costs x6.toNatClampNeg) else x5)), (0, .ref (a 13)), (2, .int x2), (3, .int x3), (6, .int x6)]) hx hb dX5_leastPrints_114 hl (by decide) rfl (fun ls hl => ?_)
        refine lv_iinc (v := (x6 + 1)) (lv' := [(6, .int (x6 + 1)), (5, .int (if (costs x6.toNatClampNeg) < x5 then (costs x6.toNatClampNeg) else x5)), (0, .ref (a 13)), (2, .int x2), (3, .int x3)]) hx hb dX5_leastPrints_116 hl (k := 4) rfl rfl (by decide) rfl (fun ls hl => ?_)
        refine lv_goto (tgt := 84) hx hb dX5_leastPrints_119 (by decide) ?_
        exact ih _ _ z h H locs ls hP hS (lv_sub hl [2, 3, 4, 1, 0] rfl) kR
  have J46 : ∀ (x2 : Int32) (x3 : Int32) (reached : Int32) (dist : Nat → Int32) (lastW : Nat → Int32) (par : Nat → Int32) (ord : Nat → Int32) (paths : Nat → Int64) (costs : Nat → Int32), f_X5_leastPrints_j46 N x2 x3 size on kinds marks nb reached dist lastW par ord paths costs = some o → ∀ (H : Heap) (locs : List Loc) (ls : Array Slot), va_P E.1 vwCl (cW E a size on kinds marks nb reached dist lastW par ord paths costs wanted tlen onlyF found steps plen rowW rowS tally) H → va_S (nx_A a 24 s.heap.size) s.heap H locs → lv_has ls 7 [(0, .ref (a 13)), (2, .int x2), (3, .int x3)] → W p l e (nx_rm 5 107) s m args below meth c H locs 0 0 Q (F0 m 46 ls []) := by
    intro x2 x3 reached dist lastW par ord paths costs h H locs ls hP hS hl
    unfold f_X5_leastPrints_j46 at h
    refine lv_iconst (v := 1) hx hb dX5_leastPrints_46 (by decide) ?_
    refine lv_istore (lv' := [(4, .int 1), (0, .ref (a 13)), (2, .int x2), (3, .int x3)]) hx hb dX5_leastPrints_47 hl (by decide) rfl (fun ls hl => ?_)
    refine lv_iconst (v := 0) hx hb dX5_leastPrints_49 (by decide) ?_
    refine lv_istore (lv' := [(5, .int 0), (4, .int 1), (0, .ref (a 13)), (2, .int x2), (3, .int x3)]) hx hb dX5_leastPrints_50 hl (by decide) rfl (fun ls hl => ?_)
    obtain ⟨z_9, hz_10, h⟩ := nx_bd h
    refine L52 _ _ _ _ _ _ _ _ N _ _ _ _ hz_10 H locs ls hP hS (lv_sub hl [2, 3, 4, 1, 0] rfl) (fun H locs ls hP hS hl => ?_)
    refine lv_ldc hx hb hown (hts _ wk_RX5_63) dX5_leastPrints_77 ?_
    refine lv_istore (lv' := [(5, .int 1000000), (0, .ref (a 13)), (2, .int x2), (3, .int x3)]) hx hb dX5_leastPrints_79 hl (by decide) rfl (fun ls hl => ?_)
    refine lv_iconst (v := 0) hx hb dX5_leastPrints_81 (by decide) ?_
    refine lv_istore (lv' := [(6, .int 0), (5, .int 1000000), (0, .ref (a 13)), (2, .int x2), (3, .int x3)]) hx hb dX5_leastPrints_82 hl (by decide) rfl (fun ls hl => ?_)
    obtain ⟨z_11, hz_12, h⟩ := nx_bd h
    refine L84 _ _ _ _ _ _ _ _ _ N _ _ _ hz_12 H locs ls hP hS (lv_sub hl [2, 3, 4, 1, 0] rfl) (fun H locs ls hP hS hl => ?_)
    refine lv_iload hx hb dX5_leastPrints_122 (lv_at hl 1 rfl) ?_
    refine lv_ldc hx hb hown (hts _ wk_RX5_63) dX5_leastPrints_124 ?_
    refine lv_icmp_ne (tgt := 134) hx hb dX5_leastPrints_126 (by decide) (fun hc => ?_) (fun hc => ?_)
    · have h := nx_if h hc
      refine lv_iload hx hb dX5_leastPrints_134 (lv_at hl 1 rfl) ?_
      exact kr 136 ls z_11 (reached, dist, lastW, par, ord, paths, z_9) H locs dX5_leastPrints_136 (Option.some.inj h) hP hS
    · have h := nx_it h hc
      refine lv_bipush (v := (-9)) hx hb dX5_leastPrints_129 (by decide) ?_
      refine lv_goto (tgt := 136) hx hb dX5_leastPrints_131 (by decide) ?_
      exact kr 136 ls (-9) (reached, dist, lastW, par, ord, paths, z_9) H locs dX5_leastPrints_136 (Option.some.inj h) hP hS
  unfold f_X5_leastPrints at h
  suffices hw : ∀ (H : Heap) (locs : List Loc), va_P E.1 vwCl (cW E a size on kinds marks nb reached dist lastW par ord paths costs wanted tlen onlyF found steps plen rowW rowS tally) H → va_S (nx_A a 24 s.heap.size) s.heap H locs → W p l e (nx_rm 5 107) s m args below meth c H locs 0 0 Q (F0 m 0 ls []) from hw _ _ hP va_S.rf
  intro H locs hP hS
  refine lv_aload_n hx hb dX5_leastPrints_0 rfl (lv_at hl 0 rfl) ?_
  refine nx_gf X hP uw_X5 (ci := 5) rfl 13 rfl 1 (by decide) wf_RX5_19 rfl dX5_leastPrints_1 ?_
  refine lv_iload_n hx hb dX5_leastPrints_4 rfl (lv_at hl 1 rfl) ?_
  obtain ⟨⟨k_14, k_15, k_16, k_17, k_18, k_19⟩, hc_13, h⟩ := nx_bd h
  refine nx_kv (nx_runV (As := [.int x1]) (rest := []) X hS hP (c_X8_begin l N E H.size a size on kinds marks nb reached dist lastW par ord paths costs wanted tlen onlyF found steps plen rowW rowS tally x1 hI _ hc_13) (nx_Am hS.1) qV_RX5_55 ⟨rfl, rfl⟩ ⟨Nat.le_of_ble_eq_true rfl, Nat.le_of_ble_eq_true rfl⟩ ⟨Nat.zero_le _, Nat.zero_le _⟩ 6 rfl rfl rfl rfl hl.1 (Nat.le_of_ble_eq_true rfl) dX5_leastPrints_5) hS (nx_Am hS.1) (fun H locs hP hS => ?_)
  have hP : va_P E.1 vwCl (cW E a size on kinds marks nb k_14 k_15 k_16 k_17 k_18 k_19 costs wanted tlen onlyF found steps plen rowW rowS tally) H := hP
  refine lv_aload_n hx hb dX5_leastPrints_8 rfl (lv_at hl 0 rfl) ?_
  refine nx_gf X hP uw_X5 (ci := 5) rfl 13 rfl 1 (by decide) wf_RX5_19 rfl dX5_leastPrints_9 ?_
  refine lv_aload_n hx hb dX5_leastPrints_12 rfl (lv_at hl 0 rfl) ?_
  refine nx_gf X hP uw_X5 (ci := 5) rfl 13 rfl 0 (by decide) wf_RX5_15 rfl dX5_leastPrints_13 ?_
  obtain ⟨⟨k_22, k_23, k_24, k_25, k_26, k_27⟩, hc_21, h⟩ := nx_bd h
  refine nx_kv (nx_runV (As := [.ref (a 12)]) (rest := []) X hS hP (c_X8_spread_r12 l N E H.size a size on kinds marks nb k_14 k_15 k_16 k_17 k_18 k_19 costs wanted tlen onlyF found steps plen rowW rowS tally hI _ hc_21) (nx_Am hS.1) qV_RX5_59 ⟨rfl, rfl⟩ ⟨Nat.le_of_ble_eq_true rfl, Nat.le_of_ble_eq_true rfl⟩ ⟨Nat.zero_le _, Nat.zero_le _⟩ 6 rfl rfl rfl rfl hl.1 (Nat.le_of_ble_eq_true rfl) dX5_leastPrints_16) hS (nx_Am hS.1) (fun H locs hP hS => ?_)
  have hP : va_P E.1 vwCl (cW E a size on kinds marks nb k_22 k_23 k_24 k_25 k_26 k_27 costs wanted tlen onlyF found steps plen rowW rowS tally) H := hP
  refine lv_aload_n hx hb dX5_leastPrints_19 rfl (lv_at hl 0 rfl) ?_
  refine nx_gf X hP uw_X5 (ci := 5) rfl 13 rfl 2 (by decide) wf_RX5_9 rfl dX5_leastPrints_20 ?_
  refine lv_ldc hx hb hown (hts _ wk_RX5_63) dX5_leastPrints_23 ?_
  obtain ⟨k_30, hc_29, h⟩ := nx_bd h
  refine nx_kv (nx_runS (As := [.ref (a 14), .int 1000000]) (rest := []) X hS hP (c_J7_fill_53178_r14 l N E H.size a size on kinds marks nb k_22 k_23 k_24 k_25 k_26 k_27 costs wanted tlen onlyF found steps plen rowW rowS tally 1000000 hI _ hc_29) (nx_Am hS.1) qS_RX5_64 ⟨rfl, rfl⟩ ⟨Nat.le_of_ble_eq_true rfl, Nat.le_of_ble_eq_true rfl⟩ ⟨Nat.zero_le _, Nat.zero_le _⟩ rfl rfl hl.1 (Nat.le_of_ble_eq_true rfl) dX5_leastPrints_25) hS (nx_Am hS.1) (fun H locs hP hS => ?_)
  have hP : va_P E.1 vwCl (cW E a size on kinds marks nb k_22 k_23 k_24 k_25 k_26 k_27 k_30 wanted tlen onlyF found steps plen rowW rowS tally) H := hP
  refine lv_iload_n hx hb dX5_leastPrints_28 rfl (lv_at hl 1 rfl) ?_
  refine lv_if_lt (tgt := 46) hx hb dX5_leastPrints_29 (by decide) (fun hc => ?_) (fun hc => ?_)
  · have h := nx_it h hc
    exact J46 _ _ _ _ _ _ _ _ _ h H locs ls hP hS (lv_sub hl [0, 2, 3] rfl)
  · have h := nx_if h hc
    refine lv_iload_n hx hb dX5_leastPrints_32 rfl (lv_at hl 1 rfl) ?_
    refine lv_sipush (v := 600) hx hb dX5_leastPrints_33 (by decide) ?_
    refine lv_icmp_ge (tgt := 46) hx hb dX5_leastPrints_36 (by decide) (fun hc => ?_) (fun hc => ?_)
    · have h := nx_it h hc
      exact J46 _ _ _ _ _ _ _ _ _ h H locs ls hP hS (lv_sub hl [0, 2, 3] rfl)
    · have h := nx_if h hc
      refine lv_aload_n hx hb dX5_leastPrints_39 rfl (lv_at hl 0 rfl) ?_
      refine nx_gf X hP uw_X5 (ci := 5) rfl 13 rfl 2 (by decide) wf_RX5_9 rfl dX5_leastPrints_40 ?_
      refine lv_iload_n hx hb dX5_leastPrints_43 rfl (lv_at hl 1 rfl) ?_
      refine lv_iconst (v := 0) hx hb dX5_leastPrints_44 (by decide) ?_
      obtain ⟨hv_31, h⟩ := nx_cb h
      refine nx_st X hI cW_ad hP hS 14 rfl hv_31 dX5_leastPrints_45 (fun H locs hP hS => ?_)
      have hP : va_P E.1 vwCl (cW E a size on kinds marks nb k_22 k_23 k_24 k_25 k_26 k_27 (upd k_30 x1.toNatClampNeg 0) wanted tlen onlyF found steps plen rowW rowS tally) H := hP
      exact J46 _ _ _ _ _ _ _ _ _ h H locs ls hP hS (lv_sub hl [0, 2, 3] rfl)
def f_X10_cheapest (N : Nat) (x1 : Int32) (x2 : Int32) (x3 : Int32) (x4 : Int32) (size : Int32) (on : Int32) (kinds : Nat → Int32) (marks : Nat → Int32) (nb : Nat → Int32) (reached : Int32) (dist : Nat → Int32) (lastW : Nat → Int32) (par : Nat → Int32) (ord : Nat → Int32) (paths : Nat → Int64) (costs : Nat → Int32) : Option (Int32 × (Int32 × (Nat → Int32) × (Nat → Int32) × (Nat → Int32) × (Nat → Int32) × (Nat → Int64) × (Nat → Int32))) :=
  (f_X10_refusalOfGoal x1 x2 x3 x4 size).bind fun r_2 => if r_2 = 0 then ((f_X4_at x1 x2).bind fun r_4 => (f_X5_leastPrints N r_4 x3 x4 size on kinds marks nb reached dist lastW par ord paths costs).bind fun t_14 => some (t_14.1, (t_14.2.1, t_14.2.2.1, t_14.2.2.2.1, t_14.2.2.2.2.1, t_14.2.2.2.2.2.1, t_14.2.2.2.2.2.2.1, t_14.2.2.2.2.2.2.2))) else (some (r_2, (reached, dist, lastW, par, ord, paths, costs)))
set_option maxHeartbeats 4000000 in
set_option maxRecDepth 100000 in
theorem c_X10_cheapest (l : Launch) (N : Nat) (E : nx_E) (sz : Nat) (a : Nat → Nat) (size : Int32) (on : Int32) (kinds : Nat → Int32) (marks : Nat → Int32) (nb : Nat → Int32) (reached : Int32) (dist : Nat → Int32) (lastW : Nat → Int32) (par : Nat → Int32) (ord : Nat → Int32) (paths : Nat → Int64) (costs : Nat → Int32) (wanted : Int32) (tlen : Int32) (onlyF : Int32) (found : Int32) (steps : Nat → Int32) (plen : Int32) (rowW : Nat → Int32) (rowS : Nat → Int32) (tally : Nat → Int32) (x1 : Int32) (x2 : Int32) (x3 : Int32) (x4 : Int32) (hI : nx_inj a 24) (o : Int32 × (Int32 × (Nat → Int32) × (Nat → Int32) × (Nat → Int32) × (Nat → Int32) × (Nat → Int64) × (Nat → Int32))) (h : f_X10_cheapest N x1 x2 x3 x4 size on kinds marks nb reached dist lastW par ord paths costs = some o) : Met l yX10_cheapest (.code yX10_cheapest cX10_cheapest 6 (some .int) :: nx_T) (nx_rm 6 133) (va_Pc [.ref (a 0), .int x1, .int x2, .int x3, .int x4] (nx_P E (nx_A a 24 sz) sz (cW E a size on kinds marks nb reached dist lastW par ord paths costs wanted tlen onlyF found steps plen rowW rowS tally))) (va_Qi (fun v u => (v, u) = o) (fun u t => va_P E.1 vwCl (cW E a size on kinds marks nb (u.1) (u.2.1) (u.2.2.1) (u.2.2.2.1) (u.2.2.2.2.1) (u.2.2.2.2.2.1) (u.2.2.2.2.2.2) wanted tlen onlyF found steps plen rowW rowS tally) t.heap) (nx_A a 24 sz)) 0 0 (nx_A a 24 sz) := by
  refine nx_enI (fun v u => (v, u) = o) (fun (u : Int32 × (Nat → Int32) × (Nat → Int32) × (Nat → Int32) × (Nat → Int32) × (Nat → Int64) × (Nat → Int32)) => (cW E a size on kinds marks nb (u.1) (u.2.1) (u.2.2.1) (u.2.2.2.1) (u.2.2.2.2.1) (u.2.2.2.2.2.1) (u.2.2.2.2.2.2) wanted tlen onlyF found steps plen rowW rowS tally)) (by decide) (Nat.le_of_ble_eq_true rfl) ?_
  intro p e s m below meth c Q X kr hsz hP ls hl
  subst hsz
  generalize hargs : (List.toArray [.ref (a 0), .int x1, .int x2, .int x3, .int x4] : Array Value) = args at X kr ⊢
  clear hargs
  obtain ⟨⟨hx, hb, hml, hown, hts⟩, hK, hSt, hNz⟩ := id X
  have hS : va_S (nx_A a 24 s.heap.size) s.heap s.heap [] := va_S.rf
  have hl : lv_has ls 6 [(0, .ref (a 0)), (1, .int x1), (2, .int x2), (3, .int x3), (4, .int x4)] := hl
  unfold f_X10_cheapest at h
  suffices hw : ∀ (H : Heap) (locs : List Loc), va_P E.1 vwCl (cW E a size on kinds marks nb reached dist lastW par ord paths costs wanted tlen onlyF found steps plen rowW rowS tally) H → va_S (nx_A a 24 s.heap.size) s.heap H locs → W p l e (nx_rm 6 133) s m args below meth c H locs 0 0 Q (F0 m 0 ls []) from hw _ _ hP va_S.rf
  intro H locs hP hS
  refine lv_aload_n hx hb dX10_cheapest_0 rfl (lv_at hl 0 rfl) ?_
  refine lv_iload_n hx hb dX10_cheapest_1 rfl (lv_at hl 1 rfl) ?_
  refine lv_iload_n hx hb dX10_cheapest_2 rfl (lv_at hl 2 rfl) ?_
  refine lv_iload_n hx hb dX10_cheapest_3 rfl (lv_at hl 3 rfl) ?_
  refine lv_iload hx hb dX10_cheapest_4 (lv_at hl 4 rfl) ?_
  obtain ⟨r_2, hc_1, h⟩ := nx_bd h
  refine nx_ki (nx_runV (As := [.int x1, .int x2, .int x3, .int x4]) (rest := []) X hS hP (c_X10_refusalOfGoal l E H.size a size on kinds marks nb reached dist lastW par ord paths costs wanted tlen onlyF found steps plen rowW rowS tally x1 x2 x3 x4 _ hc_1) nx_FA qV_RX10_158 ⟨rfl, rfl⟩ ⟨Nat.le_of_ble_eq_true rfl, Nat.le_of_ble_eq_true rfl⟩ ⟨Nat.zero_le _, Nat.zero_le _⟩ 0 rfl rfl rfl rfl hl.1 (Nat.le_of_ble_eq_true rfl) dX10_cheapest_6) hS nx_FA (fun H locs hP hS => ?_)
  refine lv_istore (lv' := [(5, .int r_2), (0, .ref (a 0)), (1, .int x1), (2, .int x2), (3, .int x3), (4, .int x4)]) hx hb dX10_cheapest_9 hl (by decide) rfl (fun ls hl => ?_)
  refine lv_iload hx hb dX10_cheapest_11 (lv_at hl 0 rfl) ?_
  refine lv_if_eq (tgt := 21) hx hb dX10_cheapest_13 (by decide) (fun hc => ?_) (fun hc => ?_)
  · have h := nx_it h hc
    refine lv_aload_n hx hb dX10_cheapest_21 rfl (lv_at hl 1 rfl) ?_
    refine nx_gf X hP uw_X10 (ci := 9) rfl 0 rfl 4 (by decide) wf_RX10_44 rfl dX10_cheapest_22 ?_
    refine lv_iload_n hx hb dX10_cheapest_25 rfl (lv_at hl 2 rfl) ?_
    refine lv_iload_n hx hb dX10_cheapest_26 rfl (lv_at hl 3 rfl) ?_
    obtain ⟨r_4, hc_3, h⟩ := nx_bd h
    refine nx_ki (nx_runS (As := [.int x1, .int x2]) (rest := [.ref (a 13)]) X hS hP (c_X4_at l E H.size _ x1 x2 _ hc_3) nx_FA qS_RX10_152 ⟨rfl, rfl⟩ ⟨Nat.le_of_ble_eq_true rfl, Nat.le_of_ble_eq_true rfl⟩ ⟨Nat.zero_le _, Nat.zero_le _⟩ rfl rfl hl.1 (Nat.le_of_ble_eq_true rfl) dX10_cheapest_27) hS nx_FA (fun H locs hP hS => ?_)
    refine lv_iload_n hx hb dX10_cheapest_30 rfl (lv_at hl 4 rfl) ?_
    refine lv_iload hx hb dX10_cheapest_31 (lv_at hl 5 rfl) ?_
    obtain ⟨⟨r_6, ⟨k_7, k_8, k_9, k_10, k_11, k_12, k_13⟩⟩, hc_5, h⟩ := nx_bd h
    refine nx_kwi (nx_runV (As := [.int r_4, .int x3, .int x4]) (rest := []) X hS hP (c_X5_leastPrints l N E H.size a size on kinds marks nb reached dist lastW par ord paths costs wanted tlen onlyF found steps plen rowW rowS tally r_4 x3 x4 hI _ hc_5) (nx_Am hS.1) qV_RX10_173 ⟨rfl, rfl⟩ ⟨Nat.le_of_ble_eq_true rfl, Nat.le_of_ble_eq_true rfl⟩ ⟨Nat.zero_le _, Nat.zero_le _⟩ 13 rfl rfl rfl rfl hl.1 (Nat.le_of_ble_eq_true rfl) dX10_cheapest_33) hS (nx_Am hS.1) (fun H locs hP hS => ?_)
    have hP : va_P E.1 vwCl (cW E a size on kinds marks nb k_7 k_8 k_9 k_10 k_11 k_12 k_13 wanted tlen onlyF found steps plen rowW rowS tally) H := hP
    exact kr 36 ls r_6 (k_7, k_8, k_9, k_10, k_11, k_12, k_13) H locs dX10_cheapest_36 (Option.some.inj h) hP hS
  · have h := nx_if h hc
    refine lv_iload hx hb dX10_cheapest_16 (lv_at hl 0 rfl) ?_
    refine lv_goto (tgt := 36) hx hb dX10_cheapest_18 (by decide) ?_
    exact kr 36 ls r_2 (reached, dist, lastW, par, ord, paths, costs) H locs dX10_cheapest_36 (Option.some.inj h) hP hS
def f_X5_stancesAt_j58 (rec : (Int32 × Int32) → Option (Int32)) (x2 : Int32) (x4 : Int32) (s0 : Int32) (s1 : Int32) : Option (Int32) :=
  (f_X10_oneIf s0).bind fun r_2 => rec ((s1 + r_2), (x4 + 1))
def f_X5_stancesAt_b24 (x2 : Int32) (reached : Int32) (ord : Nat → Int32) (rec : (Int32 × Int32) → Option (Int32)) (x3 : Int32) (x4 : Int32) : Option (Int32) :=
  (f_X8_reached reached).bind fun r_4 => if r_4 ≤ x4 then (some x3) else ((f_X8_reachedAt x4 reached ord).bind fun r_6 => (f_X4_cellOf r_6).bind fun r_8 => if r_8 = x2 then (f_X5_stancesAt_j58 rec x2 x4 1 x3) else (f_X5_stancesAt_j58 rec x2 x4 0 x3))
def f_X5_stancesAt_l24 (x2 : Int32) (reached : Int32) (ord : Nat → Int32) : Nat → (Int32 × Int32) → Option (Int32) := nx_lp (fun rec z => f_X5_stancesAt_b24 x2 reached ord rec z.1 z.2)
def f_X5_stancesAt (N : Nat) (x1 : Int32) (x2 : Int32) (size : Int32) (on : Int32) (kinds : Nat → Int32) (marks : Nat → Int32) (nb : Nat → Int32) (reached : Int32) (dist : Nat → Int32) (lastW : Nat → Int32) (par : Nat → Int32) (ord : Nat → Int32) (paths : Nat → Int64) : Option (Int32 × (Int32 × (Nat → Int32) × (Nat → Int32) × (Nat → Int32) × (Nat → Int32) × (Nat → Int64))) :=
  (f_X8_begin N x1 reached dist lastW par ord paths).bind fun t_16 => (f_X8_spread_r12 N size on kinds marks nb t_16.1 t_16.2.1 t_16.2.2.1 t_16.2.2.2.1 t_16.2.2.2.2.1 t_16.2.2.2.2.2).bind fun t_24 => (f_X5_stancesAt_l24 x2 t_24.1 t_24.2.2.2.2.1 N (0, 0)).bind fun z_25 => some (z_25, (t_24.1, t_24.2.1, t_24.2.2.1, t_24.2.2.2.1, t_24.2.2.2.2.1, t_24.2.2.2.2.2))
set_option maxHeartbeats 4000000 in
set_option maxRecDepth 100000 in
theorem c_X5_stancesAt (l : Launch) (N : Nat) (E : nx_E) (sz : Nat) (a : Nat → Nat) (size : Int32) (on : Int32) (kinds : Nat → Int32) (marks : Nat → Int32) (nb : Nat → Int32) (reached : Int32) (dist : Nat → Int32) (lastW : Nat → Int32) (par : Nat → Int32) (ord : Nat → Int32) (paths : Nat → Int64) (costs : Nat → Int32) (wanted : Int32) (tlen : Int32) (onlyF : Int32) (found : Int32) (steps : Nat → Int32) (plen : Int32) (rowW : Nat → Int32) (rowS : Nat → Int32) (tally : Nat → Int32) (x1 : Int32) (x2 : Int32) (hI : nx_inj a 24) (o : Int32 × (Int32 × (Nat → Int32) × (Nat → Int32) × (Nat → Int32) × (Nat → Int32) × (Nat → Int64))) (h : f_X5_stancesAt N x1 x2 size on kinds marks nb reached dist lastW par ord paths = some o) : Met l yX5_stancesAt (.code yX5_stancesAt cX5_stancesAt 5 (some .int) :: nx_T) (nx_rm 4 95) (va_Pc [.ref (a 13), .int x1, .int x2] (nx_P E (nx_A a 24 sz) sz (cW E a size on kinds marks nb reached dist lastW par ord paths costs wanted tlen onlyF found steps plen rowW rowS tally))) (va_Qi (fun v u => (v, u) = o) (fun u t => va_P E.1 vwCl (cW E a size on kinds marks nb (u.1) (u.2.1) (u.2.2.1) (u.2.2.2.1) (u.2.2.2.2.1) (u.2.2.2.2.2) costs wanted tlen onlyF found steps plen rowW rowS tally) t.heap) (nx_A a 24 sz)) 0 0 (nx_A a 24 sz) := by
  refine nx_enI (fun v u => (v, u) = o) (fun (u : Int32 × (Nat → Int32) × (Nat → Int32) × (Nat → Int32) × (Nat → Int32) × (Nat → Int64)) => (cW E a size on kinds marks nb (u.1) (u.2.1) (u.2.2.1) (u.2.2.2.1) (u.2.2.2.2.1) (u.2.2.2.2.2) costs wanted tlen onlyF found steps plen rowW rowS tally)) (by decide) (Nat.le_of_ble_eq_true rfl) ?_
  intro p e s m below meth c Q X kr hsz hP ls hl
  subst hsz
  generalize hargs : (List.toArray [.ref (a 13), .int x1, .int x2] : Array Value) = args at X kr ⊢
  clear hargs
  obtain ⟨⟨hx, hb, hml, hown, hts⟩, hK, hSt, hNz⟩ := id X
  have hS : va_S (nx_A a 24 s.heap.size) s.heap s.heap [] := va_S.rf
  have hl : lv_has ls 5 [(0, .ref (a 13)), (1, .int x1), (2, .int x2)] := hl
  have L24 : ∀ (x2 : Int32) (reached : Int32) (ord : Nat → Int32) (dist : Nat → Int32) (lastW : Nat → Int32) (par : Nat → Int32) (paths : Nat → Int64) (n : Nat) (x3 : Int32) (x4 : Int32) (z : (Int32)), f_X5_stancesAt_l24 x2 reached ord n (x3, x4) = some z → ∀ (H : Heap) (locs : List Loc) (ls : Array Slot), va_P E.1 vwCl (cW E a size on kinds marks nb reached dist lastW par ord paths costs wanted tlen onlyF found steps plen rowW rowS tally) H → va_S (nx_A a 24 s.heap.size) s.heap H locs → lv_has ls 5 [(0, .ref (a 13)), (2, .int x2), (3, .int x3), (4, .int x4)] → ∀ (kR : ∀ (H : Heap) (locs : List Loc) (ls : Array Slot), va_P E.1 vwCl (cW E a size on kinds marks nb reached dist lastW par ord paths costs wanted tlen onlyF found steps plen rowW rowS tally) H → va_S (nx_A a 24 s.heap.size) s.heap H locs → lv_has ls 5 [(0, .ref (a 13)), (3, .int z)] → W p l e (nx_rm 4 95) s m args below meth c H locs 0 0 Q (F0 m 69 ls [])), W p l e (nx_rm 4 95) s m args below meth c H locs 0 0 Q (F0 m 24 ls []) := by
   intro x2 reached ord dist lastW par paths n
   induction n with
   | zero => intro x3 x4 z h; exact nomatch (show none = some z from h)
   | succ n ih =>
    intro x3 x4 z h H locs ls hP hS hl kR
    have h : f_X5_stancesAt_b24 x2 reached ord (f_X5_stancesAt_l24 x2 reached ord n) x3 x4 = some z := h
    have J58 : ∀ (x4 : Int32) (s0 : Int32) (s1 : Int32), f_X5_stancesAt_j58 (f_X5_stancesAt_l24 x2 reached ord n) x2 x4 s0 s1 = some z → ∀ (H : Heap) (locs : List Loc) (ls : Array Slot), va_P E.1 vwCl (cW E a size on kinds marks nb reached dist lastW par ord paths costs wanted tlen onlyF found steps plen rowW rowS tally) H → va_S (nx_A a 24 s.heap.size) s.heap H locs → lv_has ls 5 [(0, .ref (a 13)), (2, .int x2), (4, .int x4)] → W p l e (nx_rm 4 95) s m args below meth c H locs 0 0 Q (F0 m 58 ls [.int s0, .int s1]) := by
      intro x4 s0 s1 h H locs ls hP hS hl
      unfold f_X5_stancesAt_j58 at h
      obtain ⟨r_2, hc_1, h⟩ := nx_bd h
      refine nx_ki (nx_runN (As := [.int s0]) (rest := [.int s1]) X hS hP (c_X10_oneIf l E H.size _ s0 _ hc_1) nx_FA qN_RX5_94 ⟨rfl, rfl⟩ ⟨Nat.le_of_ble_eq_true rfl, Nat.le_of_ble_eq_true rfl⟩ ⟨Nat.zero_le _, Nat.zero_le _⟩ rfl rfl hl.1 (Nat.le_of_ble_eq_true rfl) dX5_stancesAt_58) hS nx_FA (fun H locs hP hS => ?_)
      refine lv_iadd hx hb dX5_stancesAt_61 ?_
      refine lv_istore_n (lv' := [(3, .int (s1 + r_2)), (0, .ref (a 13)), (2, .int x2), (4, .int x4)]) hx hb dX5_stancesAt_62 rfl hl (by decide) rfl (fun ls hl => ?_)
      refine lv_iinc (v := (x4 + 1)) (lv' := [(4, .int (x4 + 1)), (3, .int (s1 + r_2)), (0, .ref (a 13)), (2, .int x2)]) hx hb dX5_stancesAt_63 hl (k := 3) rfl rfl (by decide) rfl (fun ls hl => ?_)
      refine lv_goto (tgt := 24) hx hb dX5_stancesAt_66 (by decide) ?_
      exact ih _ _ z h H locs ls hP hS (lv_sub hl [2, 3, 1, 0] rfl) kR
    unfold f_X5_stancesAt_b24 at h
    refine lv_iload hx hb dX5_stancesAt_24 (lv_at hl 3 rfl) ?_
    refine lv_aload_n hx hb dX5_stancesAt_26 rfl (lv_at hl 0 rfl) ?_
    refine nx_gf X hP uw_X5 (ci := 5) rfl 13 rfl 1 (by decide) wf_RX5_19 rfl dX5_stancesAt_27 ?_
    obtain ⟨r_4, hc_3, h⟩ := nx_bd h
    refine nx_ki (nx_runV (As := []) (rest := [.int x4]) X hS hP (c_X8_reached l E H.size a size on kinds marks nb reached dist lastW par ord paths costs wanted tlen onlyF found steps plen rowW rowS tally _ hc_3) nx_FA qV_RX5_40 ⟨rfl, rfl⟩ ⟨Nat.le_of_ble_eq_true rfl, Nat.le_of_ble_eq_true rfl⟩ ⟨Nat.zero_le _, Nat.zero_le _⟩ 6 rfl rfl rfl rfl hl.1 (Nat.le_of_ble_eq_true rfl) dX5_stancesAt_30) hS nx_FA (fun H locs hP hS => ?_)
    refine lv_icmp_ge (tgt := 69) hx hb dX5_stancesAt_33 (by decide) (fun hc => ?_) (fun hc => ?_)
    · have h := nx_it h hc
      obtain rfl := Option.some.inj h
      exact kR H locs ls hP hS (lv_sub hl [0, 2] rfl)
    · have h := nx_if h hc
      refine lv_iload_n hx hb dX5_stancesAt_36 rfl (lv_at hl 2 rfl) ?_
      refine lv_aload_n hx hb dX5_stancesAt_37 rfl (lv_at hl 0 rfl) ?_
      refine nx_gf X hP uw_X5 (ci := 5) rfl 13 rfl 1 (by decide) wf_RX5_19 rfl dX5_stancesAt_38 ?_
      refine lv_iload hx hb dX5_stancesAt_41 (lv_at hl 3 rfl) ?_
      obtain ⟨r_6, hc_5, h⟩ := nx_bd h
      refine nx_ki (nx_runV (As := [.int x4]) (rest := [.int x3]) X hS hP (c_X8_reachedAt l E H.size a size on kinds marks nb reached dist lastW par ord paths costs wanted tlen onlyF found steps plen rowW rowS tally x4 _ hc_5) nx_FA qV_RX5_44 ⟨rfl, rfl⟩ ⟨Nat.le_of_ble_eq_true rfl, Nat.le_of_ble_eq_true rfl⟩ ⟨Nat.zero_le _, Nat.zero_le _⟩ 6 rfl rfl rfl rfl hl.1 (Nat.le_of_ble_eq_true rfl) dX5_stancesAt_43) hS nx_FA (fun H locs hP hS => ?_)
      obtain ⟨r_8, hc_7, h⟩ := nx_bd h
      refine nx_ki (nx_runS (As := [.int r_6]) (rest := [.int x3]) X hS hP (c_X4_cellOf l E H.size _ r_6 _ hc_7) nx_FA qS_RX5_91 ⟨rfl, rfl⟩ ⟨Nat.le_of_ble_eq_true rfl, Nat.le_of_ble_eq_true rfl⟩ ⟨Nat.zero_le _, Nat.zero_le _⟩ rfl rfl hl.1 (Nat.le_of_ble_eq_true rfl) dX5_stancesAt_46) hS nx_FA (fun H locs hP hS => ?_)
      refine lv_iload_n hx hb dX5_stancesAt_49 rfl (lv_at hl 1 rfl) ?_
      refine lv_icmp_ne (tgt := 57) hx hb dX5_stancesAt_50 (by decide) (fun hc => ?_) (fun hc => ?_)
      · have h := nx_if h hc
        refine lv_iconst (v := 0) hx hb dX5_stancesAt_57 (by decide) ?_
        exact J58 _ _ _ h H locs ls hP hS (lv_sub hl [0, 1, 3] rfl)
      · have h := nx_it h hc
        refine lv_iconst (v := 1) hx hb dX5_stancesAt_53 (by decide) ?_
        refine lv_goto (tgt := 58) hx hb dX5_stancesAt_54 (by decide) ?_
        exact J58 _ _ _ h H locs ls hP hS (lv_sub hl [0, 1, 3] rfl)
  unfold f_X5_stancesAt at h
  suffices hw : ∀ (H : Heap) (locs : List Loc), va_P E.1 vwCl (cW E a size on kinds marks nb reached dist lastW par ord paths costs wanted tlen onlyF found steps plen rowW rowS tally) H → va_S (nx_A a 24 s.heap.size) s.heap H locs → W p l e (nx_rm 4 95) s m args below meth c H locs 0 0 Q (F0 m 0 ls []) from hw _ _ hP va_S.rf
  intro H locs hP hS
  refine lv_aload_n hx hb dX5_stancesAt_0 rfl (lv_at hl 0 rfl) ?_
  refine nx_gf X hP uw_X5 (ci := 5) rfl 13 rfl 1 (by decide) wf_RX5_19 rfl dX5_stancesAt_1 ?_
  refine lv_iload_n hx hb dX5_stancesAt_4 rfl (lv_at hl 1 rfl) ?_
  obtain ⟨⟨k_10, k_11, k_12, k_13, k_14, k_15⟩, hc_9, h⟩ := nx_bd h
  refine nx_kv (nx_runV (As := [.int x1]) (rest := []) X hS hP (c_X8_begin l N E H.size a size on kinds marks nb reached dist lastW par ord paths costs wanted tlen onlyF found steps plen rowW rowS tally x1 hI _ hc_9) (nx_Am hS.1) qV_RX5_55 ⟨rfl, rfl⟩ ⟨Nat.le_of_ble_eq_true rfl, Nat.le_of_ble_eq_true rfl⟩ ⟨Nat.zero_le _, Nat.zero_le _⟩ 6 rfl rfl rfl rfl hl.1 (Nat.le_of_ble_eq_true rfl) dX5_stancesAt_5) hS (nx_Am hS.1) (fun H locs hP hS => ?_)
  have hP : va_P E.1 vwCl (cW E a size on kinds marks nb k_10 k_11 k_12 k_13 k_14 k_15 costs wanted tlen onlyF found steps plen rowW rowS tally) H := hP
  refine lv_aload_n hx hb dX5_stancesAt_8 rfl (lv_at hl 0 rfl) ?_
  refine nx_gf X hP uw_X5 (ci := 5) rfl 13 rfl 1 (by decide) wf_RX5_19 rfl dX5_stancesAt_9 ?_
  refine lv_aload_n hx hb dX5_stancesAt_12 rfl (lv_at hl 0 rfl) ?_
  refine nx_gf X hP uw_X5 (ci := 5) rfl 13 rfl 0 (by decide) wf_RX5_15 rfl dX5_stancesAt_13 ?_
  obtain ⟨⟨k_18, k_19, k_20, k_21, k_22, k_23⟩, hc_17, h⟩ := nx_bd h
  refine nx_kv (nx_runV (As := [.ref (a 12)]) (rest := []) X hS hP (c_X8_spread_r12 l N E H.size a size on kinds marks nb k_10 k_11 k_12 k_13 k_14 k_15 costs wanted tlen onlyF found steps plen rowW rowS tally hI _ hc_17) (nx_Am hS.1) qV_RX5_59 ⟨rfl, rfl⟩ ⟨Nat.le_of_ble_eq_true rfl, Nat.le_of_ble_eq_true rfl⟩ ⟨Nat.zero_le _, Nat.zero_le _⟩ 6 rfl rfl rfl rfl hl.1 (Nat.le_of_ble_eq_true rfl) dX5_stancesAt_16) hS (nx_Am hS.1) (fun H locs hP hS => ?_)
  have hP : va_P E.1 vwCl (cW E a size on kinds marks nb k_18 k_19 k_20 k_21 k_22 k_23 costs wanted tlen onlyF found steps plen rowW rowS tally) H := hP
  refine lv_iconst (v := 0) hx hb dX5_stancesAt_19 (by decide) ?_
  refine lv_istore_n (lv' := [(3, .int 0), (0, .ref (a 13)), (1, .int x1), (2, .int x2)]) hx hb dX5_stancesAt_20 rfl hl (by decide) rfl (fun ls hl => ?_)
  refine lv_iconst (v := 0) hx hb dX5_stancesAt_21 (by decide) ?_
  refine lv_istore (lv' := [(4, .int 0), (3, .int 0), (0, .ref (a 13)), (1, .int x1), (2, .int x2)]) hx hb dX5_stancesAt_22 hl (by decide) rfl (fun ls hl => ?_)
  obtain ⟨z_25, hz_26, h⟩ := nx_bd h
  refine L24 _ _ _ _ _ _ _ N _ _ _ hz_26 H locs ls hP hS (lv_sub hl [2, 4, 1, 0] rfl) (fun H locs ls hP hS hl => ?_)
  refine lv_iload_n hx hb dX5_stancesAt_69 rfl (lv_at hl 1 rfl) ?_
  exact kr 70 ls z_25 (k_18, k_19, k_20, k_21, k_22, k_23) H locs dX5_stancesAt_70 (Option.some.inj h) hP hS
def f_X10_stances (N : Nat) (x1 : Int32) (x2 : Int32) (x3 : Int32) (size : Int32) (on : Int32) (kinds : Nat → Int32) (marks : Nat → Int32) (nb : Nat → Int32) (reached : Int32) (dist : Nat → Int32) (lastW : Nat → Int32) (par : Nat → Int32) (ord : Nat → Int32) (paths : Nat → Int64) : Option (Int32 × (Int32 × (Nat → Int32) × (Nat → Int32) × (Nat → Int32) × (Nat → Int32) × (Nat → Int64))) :=
  (f_X10_isStart x1 x2 size).bind fun r_2 => if r_2 = 0 then (some ((-1), (reached, dist, lastW, par, ord, paths))) else ((f_X2_has x3 size).bind fun r_4 => if r_4 = 0 then (some ((-1), (reached, dist, lastW, par, ord, paths))) else ((f_X4_at x1 x2).bind fun r_6 => (f_X5_stancesAt N r_6 x3 size on kinds marks nb reached dist lastW par ord paths).bind fun t_15 => some (t_15.1, (t_15.2.1, t_15.2.2.1, t_15.2.2.2.1, t_15.2.2.2.2.1, t_15.2.2.2.2.2.1, t_15.2.2.2.2.2.2))))
set_option maxHeartbeats 4000000 in
set_option maxRecDepth 100000 in
theorem c_X10_stances (l : Launch) (N : Nat) (E : nx_E) (sz : Nat) (a : Nat → Nat) (size : Int32) (on : Int32) (kinds : Nat → Int32) (marks : Nat → Int32) (nb : Nat → Int32) (reached : Int32) (dist : Nat → Int32) (lastW : Nat → Int32) (par : Nat → Int32) (ord : Nat → Int32) (paths : Nat → Int64) (costs : Nat → Int32) (wanted : Int32) (tlen : Int32) (onlyF : Int32) (found : Int32) (steps : Nat → Int32) (plen : Int32) (rowW : Nat → Int32) (rowS : Nat → Int32) (tally : Nat → Int32) (x1 : Int32) (x2 : Int32) (x3 : Int32) (hI : nx_inj a 24) (o : Int32 × (Int32 × (Nat → Int32) × (Nat → Int32) × (Nat → Int32) × (Nat → Int32) × (Nat → Int64))) (h : f_X10_stances N x1 x2 x3 size on kinds marks nb reached dist lastW par ord paths = some o) : Met l yX10_stances (.code yX10_stances cX10_stances 4 (some .int) :: nx_T) (nx_rm 5 119) (va_Pc [.ref (a 0), .int x1, .int x2, .int x3] (nx_P E (nx_A a 24 sz) sz (cW E a size on kinds marks nb reached dist lastW par ord paths costs wanted tlen onlyF found steps plen rowW rowS tally))) (va_Qi (fun v u => (v, u) = o) (fun u t => va_P E.1 vwCl (cW E a size on kinds marks nb (u.1) (u.2.1) (u.2.2.1) (u.2.2.2.1) (u.2.2.2.2.1) (u.2.2.2.2.2) costs wanted tlen onlyF found steps plen rowW rowS tally) t.heap) (nx_A a 24 sz)) 0 0 (nx_A a 24 sz) := by
  refine nx_enI (fun v u => (v, u) = o) (fun (u : Int32 × (Nat → Int32) × (Nat → Int32) × (Nat → Int32) × (Nat → Int32) × (Nat → Int64)) => (cW E a size on kinds marks nb (u.1) (u.2.1) (u.2.2.1) (u.2.2.2.1) (u.2.2.2.2.1) (u.2.2.2.2.2) costs wanted tlen onlyF found steps plen rowW rowS tally)) (by decide) (Nat.le_of_ble_eq_true rfl) ?_
  intro p e s m below meth c Q X kr hsz hP ls hl
  subst hsz
  generalize hargs : (List.toArray [.ref (a 0), .int x1, .int x2, .int x3] : Array Value) = args at X kr ⊢
  clear hargs
  obtain ⟨⟨hx, hb, hml, hown, hts⟩, hK, hSt, hNz⟩ := id X
  have hS : va_S (nx_A a 24 s.heap.size) s.heap s.heap [] := va_S.rf
  have hl : lv_has ls 4 [(0, .ref (a 0)), (1, .int x1), (2, .int x2), (3, .int x3)] := hl
  unfold f_X10_stances at h
  suffices hw : ∀ (H : Heap) (locs : List Loc), va_P E.1 vwCl (cW E a size on kinds marks nb reached dist lastW par ord paths costs wanted tlen onlyF found steps plen rowW rowS tally) H → va_S (nx_A a 24 s.heap.size) s.heap H locs → W p l e (nx_rm 5 119) s m args below meth c H locs 0 0 Q (F0 m 0 ls []) from hw _ _ hP va_S.rf
  intro H locs hP hS
  refine lv_aload_n hx hb dX10_stances_0 rfl (lv_at hl 0 rfl) ?_
  refine lv_iload_n hx hb dX10_stances_1 rfl (lv_at hl 1 rfl) ?_
  refine lv_iload_n hx hb dX10_stances_2 rfl (lv_at hl 2 rfl) ?_
  obtain ⟨r_2, hc_1, h⟩ := nx_bd h
  refine nx_ki (nx_runV (As := [.int x1, .int x2]) (rest := []) X hS hP (c_X10_isStart l E H.size a size on kinds marks nb reached dist lastW par ord paths costs wanted tlen onlyF found steps plen rowW rowS tally x1 x2 _ hc_1) nx_FA qV_RX10_149 ⟨rfl, rfl⟩ ⟨Nat.le_of_ble_eq_true rfl, Nat.le_of_ble_eq_true rfl⟩ ⟨Nat.zero_le _, Nat.zero_le _⟩ 0 rfl rfl rfl rfl hl.1 (Nat.le_of_ble_eq_true rfl) dX10_stances_3) hS nx_FA (fun H locs hP hS => ?_)
  refine lv_if_eq (tgt := 20) hx hb dX10_stances_6 (by decide) (fun hc => ?_) (fun hc => ?_)
  · have h := nx_it h hc
    refine lv_iconst (v := (-1)) hx hb dX10_stances_20 (by decide) ?_
    exact kr 21 ls (-1) (reached, dist, lastW, par, ord, paths) H locs dX10_stances_21 (Option.some.inj h) hP hS
  · have h := nx_if h hc
    refine lv_aload_n hx hb dX10_stances_9 rfl (lv_at hl 0 rfl) ?_
    refine nx_gf X hP uw_X10 (ci := 9) rfl 0 rfl 0 (by decide) wf_RX10_12 rfl dX10_stances_10 ?_
    refine lv_iload_n hx hb dX10_stances_13 rfl (lv_at hl 3 rfl) ?_
    obtain ⟨r_4, hc_3, h⟩ := nx_bd h
    refine nx_ki (nx_runV (As := [.int x3]) (rest := []) X hS hP (c_X2_has l E H.size a size on kinds marks nb reached dist lastW par ord paths costs wanted tlen onlyF found steps plen rowW rowS tally x3 _ hc_3) nx_FA qV_RX10_85 ⟨rfl, rfl⟩ ⟨Nat.le_of_ble_eq_true rfl, Nat.le_of_ble_eq_true rfl⟩ ⟨Nat.zero_le _, Nat.zero_le _⟩ 1 rfl rfl rfl rfl hl.1 (Nat.le_of_ble_eq_true rfl) dX10_stances_14) hS nx_FA (fun H locs hP hS => ?_)
    refine lv_if_ne (tgt := 22) hx hb dX10_stances_17 (by decide) (fun hc => ?_) (fun hc => ?_)
    · have h := nx_if h hc
      refine lv_aload_n hx hb dX10_stances_22 rfl (lv_at hl 0 rfl) ?_
      refine nx_gf X hP uw_X10 (ci := 9) rfl 0 rfl 4 (by decide) wf_RX10_44 rfl dX10_stances_23 ?_
      refine lv_iload_n hx hb dX10_stances_26 rfl (lv_at hl 1 rfl) ?_
      refine lv_iload_n hx hb dX10_stances_27 rfl (lv_at hl 2 rfl) ?_
      obtain ⟨r_6, hc_5, h⟩ := nx_bd h
      refine nx_ki (nx_runS (As := [.int x1, .int x2]) (rest := [.ref (a 13)]) X hS hP (c_X4_at l E H.size _ x1 x2 _ hc_5) nx_FA qS_RX10_152 ⟨rfl, rfl⟩ ⟨Nat.le_of_ble_eq_true rfl, Nat.le_of_ble_eq_true rfl⟩ ⟨Nat.zero_le _, Nat.zero_le _⟩ rfl rfl hl.1 (Nat.le_of_ble_eq_true rfl) dX10_stances_28) hS nx_FA (fun H locs hP hS => ?_)
      refine lv_iload_n hx hb dX10_stances_31 rfl (lv_at hl 3 rfl) ?_
      obtain ⟨⟨r_8, ⟨k_9, k_10, k_11, k_12, k_13, k_14⟩⟩, hc_7, h⟩ := nx_bd h
      refine nx_kwi (nx_runV (As := [.int r_6, .int x3]) (rest := []) X hS hP (c_X5_stancesAt l N E H.size a size on kinds marks nb reached dist lastW par ord paths costs wanted tlen onlyF found steps plen rowW rowS tally r_6 x3 hI _ hc_7) (nx_Am hS.1) qV_RX10_176 ⟨rfl, rfl⟩ ⟨Nat.le_of_ble_eq_true rfl, Nat.le_of_ble_eq_true rfl⟩ ⟨Nat.zero_le _, Nat.zero_le _⟩ 13 rfl rfl rfl rfl hl.1 (Nat.le_of_ble_eq_true rfl) dX10_stances_32) hS (nx_Am hS.1) (fun H locs hP hS => ?_)
      have hP : va_P E.1 vwCl (cW E a size on kinds marks nb k_9 k_10 k_11 k_12 k_13 k_14 costs wanted tlen onlyF found steps plen rowW rowS tally) H := hP
      exact kr 35 ls r_8 (k_9, k_10, k_11, k_12, k_13, k_14) H locs dX10_stances_35 (Option.some.inj h) hP hS
    · have h := nx_it h hc
      refine lv_iconst (v := (-1)) hx hb dX10_stances_20 (by decide) ?_
      exact kr 21 ls (-1) (reached, dist, lastW, par, ord, paths) H locs dX10_stances_21 (Option.some.inj h) hP hS
def f_J6_bitCount_0f7a4 (x0 : Int32)  : Option (Int32) :=
  some ((((((((x0 - ((((x0).toUInt32 >>> ((1 : Int32).toUInt32 &&& Int32.toUInt32 31)).toInt32) &&& 1431655765)) &&& 858993459) + (((((x0 - ((((x0).toUInt32 >>> ((1 : Int32).toUInt32 &&& Int32.toUInt32 31)).toInt32) &&& 1431655765))).toUInt32 >>> ((2 : Int32).toUInt32 &&& Int32.toUInt32 31)).toInt32) &&& 858993459)) + ((((((x0 - ((((x0).toUInt32 >>> ((1 : Int32).toUInt32 &&& Int32.toUInt32 31)).toInt32) &&& 1431655765)) &&& 858993459) + (((((x0 - ((((x0).toUInt32 >>> ((1 : Int32).toUInt32 &&& Int32.toUInt32 31)).toInt32) &&& 1431655765))).toUInt32 >>> ((2 : Int32).toUInt32 &&& Int32.toUInt32 31)).toInt32) &&& 858993459))).toUInt32 >>> ((4 : Int32).toUInt32 &&& Int32.toUInt32 31)).toInt32)) &&& 252645135) + ((((((((x0 - ((((x0).toUInt32 >>> ((1 : Int32).toUInt32 &&& Int32.toUInt32 31)).toInt32) &&& 1431655765)) &&& 858993459) + (((((x0 - ((((x0).toUInt32 >>> ((1 : Int32).toUInt32 &&& Int32.toUInt32 31)).toInt32) &&& 1431655765))).toUInt32 >>> ((2 : Int32).toUInt32 &&& Int32.toUInt32 31)).toInt32) &&& 858993459)) + ((((((x0 - ((((x0).toUInt32 >>> ((1 : Int32).toUInt32 &&& Int32.toUInt32 31)).toInt32) &&& 1431655765)) &&& 858993459) + (((((x0 - ((((x0).toUInt32 >>> ((1 : Int32).toUInt32 &&& Int32.toUInt32 31)).toInt32) &&& 1431655765))).toUInt32 >>> ((2 : Int32).toUInt32 &&& Int32.toUInt32 31)).toInt32) &&& 858993459))).toUInt32 >>> ((4 : Int32).toUInt32 &&& Int32.toUInt32 31)).toInt32)) &&& 252645135)).toUInt32 >>> ((8 : Int32).toUInt32 &&& Int32.toUInt32 31)).toInt32)) + (((((((((x0 - ((((x0).toUInt32 >>> ((1 : Int32).toUInt32 &&& Int32.toUInt32 31)).toInt32) &&& 1431655765)) &&& 858993459) + (((((x0 - ((((x0).toUInt32 >>> ((1 : Int32).toUInt32 &&& Int32.toUInt32 31)).toInt32) &&& 1431655765))).toUInt32 >>> ((2 : Int32).toUInt32 &&& Int32.toUInt32 31)).toInt32) &&& 858993459)) + ((((((x0 - ((((x0).toUInt32 >>> ((1 : Int32).toUInt32 &&& Int32.toUInt32 31)).toInt32) &&& 1431655765)) &&& 858993459) + (((((x0 - ((((x0).toUInt32 >>> ((1 : Int32).toUInt32 &&& Int32.toUInt32 31)).toInt32) &&& 1431655765))).toUInt32 >>> ((2 : Int32).toUInt32 &&& Int32.toUInt32 31)).toInt32) &&& 858993459))).toUInt32 >>> ((4 : Int32).toUInt32 &&& Int32.toUInt32 31)).toInt32)) &&& 252645135) + ((((((((x0 - ((((x0).toUInt32 >>> ((1 : Int32).toUInt32 &&& Int32.toUInt32 31)).toInt32) &&& 1431655765)) &&& 858993459) + (((((x0 - ((((x0).toUInt32 >>> ((1 : Int32).toUInt32 &&& Int32.toUInt32 31)).toInt32) &&& 1431655765))).toUInt32 >>> ((2 : Int32).toUInt32 &&& Int32.toUInt32 31)).toInt32) &&& 858993459)) + ((((((x0 - ((((x0).toUInt32 >>> ((1 : Int32).toUInt32 &&& Int32.toUInt32 31)).toInt32) &&& 1431655765)) &&& 858993459) + (((((x0 - ((((x0).toUInt32 >>> ((1 : Int32).toUInt32 &&& Int32.toUInt32 31)).toInt32) &&& 1431655765))).toUInt32 >>> ((2 : Int32).toUInt32 &&& Int32.toUInt32 31)).toInt32) &&& 858993459))).toUInt32 >>> ((4 : Int32).toUInt32 &&& Int32.toUInt32 31)).toInt32)) &&& 252645135)).toUInt32 >>> ((8 : Int32).toUInt32 &&& Int32.toUInt32 31)).toInt32))).toUInt32 >>> ((16 : Int32).toUInt32 &&& Int32.toUInt32 31)).toInt32)) &&& 63)
set_option maxHeartbeats 4000000 in
set_option maxRecDepth 100000 in
theorem c_J6_bitCount_0f7a4 (l : Launch) (E : nx_E) (sz : Nat) (ws : va_W) (x0 : Int32) (o : Int32) (h : f_J6_bitCount_0f7a4 x0 = some o) : Met l yJ6_bitCount_0f7a4 (.code yJ6_bitCount_0f7a4 cJ6_bitCount_0f7a4 1 (some .int) :: nx_T) (nx_rm 0 0) (va_Pc [.int x0] (nx_P E (nx_F) sz ws)) (va_Qi (fun v (_ : Unit) => v = o) (fun _ t => va_P E.1 vwCl ws t.heap) (nx_F)) 0 0 (nx_F) := by
  refine nx_enI (fun v (_ : Unit) => v = o) (fun (_ : Unit) => ws) (by decide) (Nat.le_of_ble_eq_true rfl) ?_
  intro p e s m below meth c Q X kr hsz hP ls hl
  subst hsz
  generalize hargs : (List.toArray [.int x0] : Array Value) = args at X kr ⊢
  clear hargs
  obtain ⟨⟨hx, hb, hml, hown, hts⟩, hK, hSt, hNz⟩ := id X
  have hS : va_S (nx_F) s.heap s.heap [] := va_S.rf
  have hl : lv_has ls 1 [(0, .int x0)] := hl
  unfold f_J6_bitCount_0f7a4 at h
  suffices hw : ∀ (H : Heap) (locs : List Loc), va_P E.1 vwCl ws H → va_S (nx_F) s.heap H locs → W p l e (nx_rm 0 0) s m args below meth c H locs 0 0 Q (F0 m 0 ls []) from hw _ _ hP va_S.rf
  intro H locs hP hS
  refine lv_iload_n hx hb dJ6_bitCount_0f7a4_0 rfl (lv_at hl 0 rfl) ?_
  refine lv_iload_n hx hb dJ6_bitCount_0f7a4_1 rfl (lv_at hl 0 rfl) ?_
  refine lv_iconst (v := 1) hx hb dJ6_bitCount_0f7a4_2 (by decide) ?_
  refine lv_iushr (v := ((x0).toUInt32 >>> ((1 : Int32).toUInt32 &&& Int32.toUInt32 31)).toInt32) hx hb dJ6_bitCount_0f7a4_3 rfl ?_
  refine lv_ldcw hx hb hown (hts _ wk_RJ6_265) dJ6_bitCount_0f7a4_4 ?_
  refine lv_iand hx hb dJ6_bitCount_0f7a4_7 ?_
  refine lv_isub hx hb dJ6_bitCount_0f7a4_8 ?_
  refine lv_istore_n (lv' := [(0, .int (x0 - ((((x0).toUInt32 >>> ((1 : Int32).toUInt32 &&& Int32.toUInt32 31)).toInt32) &&& 1431655765)))]) hx hb dJ6_bitCount_0f7a4_9 rfl hl (by decide) rfl (fun ls hl => ?_)
  refine lv_iload_n hx hb dJ6_bitCount_0f7a4_10 rfl (lv_at hl 0 rfl) ?_
  refine lv_ldcw hx hb hown (hts _ wk_RJ6_266) dJ6_bitCount_0f7a4_11 ?_
  refine lv_iand hx hb dJ6_bitCount_0f7a4_14 ?_
  refine lv_iload_n hx hb dJ6_bitCount_0f7a4_15 rfl (lv_at hl 0 rfl) ?_
  refine lv_iconst (v := 2) hx hb dJ6_bitCount_0f7a4_16 (by decide) ?_
  refine lv_iushr (v := (((x0 - ((((x0).toUInt32 >>> ((1 : Int32).toUInt32 &&& Int32.toUInt32 31)).toInt32) &&& 1431655765))).toUInt32 >>> ((2 : Int32).toUInt32 &&& Int32.toUInt32 31)).toInt32) hx hb dJ6_bitCount_0f7a4_17 rfl ?_
  refine lv_ldcw hx hb hown (hts _ wk_RJ6_266) dJ6_bitCount_0f7a4_18 ?_
  refine lv_iand hx hb dJ6_bitCount_0f7a4_21 ?_
  refine lv_iadd hx hb dJ6_bitCount_0f7a4_22 ?_
  refine lv_istore_n (lv' := [(0, .int (((x0 - ((((x0).toUInt32 >>> ((1 : Int32).toUInt32 &&& Int32.toUInt32 31)).toInt32) &&& 1431655765)) &&& 858993459) + (((((x0 - ((((x0).toUInt32 >>> ((1 : Int32).toUInt32 &&& Int32.toUInt32 31)).toInt32) &&& 1431655765))).toUInt32 >>> ((2 : Int32).toUInt32 &&& Int32.toUInt32 31)).toInt32) &&& 858993459)))]) hx hb dJ6_bitCount_0f7a4_23 rfl hl (by decide) rfl (fun ls hl => ?_)
  refine lv_iload_n hx hb dJ6_bitCount_0f7a4_24 rfl (lv_at hl 0 rfl) ?_
  refine lv_iload_n hx hb dJ6_bitCount_0f7a4_25 rfl (lv_at hl 0 rfl) ?_
  refine lv_iconst (v := 4) hx hb dJ6_bitCount_0f7a4_26 (by decide) ?_
  refine lv_iushr (v := (((((x0 - ((((x0).toUInt32 >>> ((1 : Int32).toUInt32 &&& Int32.toUInt32 31)).toInt32) &&& 1431655765)) &&& 858993459) + (((((x0 - ((((x0).toUInt32 >>> ((1 : Int32).toUInt32 &&& Int32.toUInt32 31)).toInt32) &&& 1431655765))).toUInt32 >>> ((2 : Int32).toUInt32 &&& Int32.toUInt32 31)).toInt32) &&& 858993459))).toUInt32 >>> ((4 : Int32).toUInt32 &&& Int32.toUInt32 31)).toInt32) hx hb dJ6_bitCount_0f7a4_27 rfl ?_
  refine lv_iadd hx hb dJ6_bitCount_0f7a4_28 ?_
  refine lv_ldcw hx hb hown (hts _ wk_RJ6_267) dJ6_bitCount_0f7a4_29 ?_
  refine lv_iand hx hb dJ6_bitCount_0f7a4_32 ?_
  refine lv_istore_n (lv' := [(0, .int (((((x0 - ((((x0).toUInt32 >>> ((1 : Int32).toUInt32 &&& Int32.toUInt32 31)).toInt32) &&& 1431655765)) &&& 858993459) + (((((x0 - ((((x0).toUInt32 >>> ((1 : Int32).toUInt32 &&& Int32.toUInt32 31)).toInt32) &&& 1431655765))).toUInt32 >>> ((2 : Int32).toUInt32 &&& Int32.toUInt32 31)).toInt32) &&& 858993459)) + ((((((x0 - ((((x0).toUInt32 >>> ((1 : Int32).toUInt32 &&& Int32.toUInt32 31)).toInt32) &&& 1431655765)) &&& 858993459) + (((((x0 - ((((x0).toUInt32 >>> ((1 : Int32).toUInt32 &&& Int32.toUInt32 31)).toInt32) &&& 1431655765))).toUInt32 >>> ((2 : Int32).toUInt32 &&& Int32.toUInt32 31)).toInt32) &&& 858993459))).toUInt32 >>> ((4 : Int32).toUInt32 &&& Int32.toUInt32 31)).toInt32)) &&& 252645135))]) hx hb dJ6_bitCount_0f7a4_33 rfl hl (by decide) rfl (fun ls hl => ?_)
  refine lv_iload_n hx hb dJ6_bitCount_0f7a4_34 rfl (lv_at hl 0 rfl) ?_
  refine lv_iload_n hx hb dJ6_bitCount_0f7a4_35 rfl (lv_at hl 0 rfl) ?_
  refine lv_bipush (v := 8) hx hb dJ6_bitCount_0f7a4_36 (by decide) ?_
  refine lv_iushr (v := (((((((x0 - ((((x0).toUInt32 >>> ((1 : Int32).toUInt32 &&& Int32.toUInt32 31)).toInt32) &&& 1431655765)) &&& 858993459) + (((((x0 - ((((x0).toUInt32 >>> ((1 : Int32).toUInt32 &&& Int32.toUInt32 31)).toInt32) &&& 1431655765))).toUInt32 >>> ((2 : Int32).toUInt32 &&& Int32.toUInt32 31)).toInt32) &&& 858993459)) + ((((((x0 - ((((x0).toUInt32 >>> ((1 : Int32).toUInt32 &&& Int32.toUInt32 31)).toInt32) &&& 1431655765)) &&& 858993459) + (((((x0 - ((((x0).toUInt32 >>> ((1 : Int32).toUInt32 &&& Int32.toUInt32 31)).toInt32) &&& 1431655765))).toUInt32 >>> ((2 : Int32).toUInt32 &&& Int32.toUInt32 31)).toInt32) &&& 858993459))).toUInt32 >>> ((4 : Int32).toUInt32 &&& Int32.toUInt32 31)).toInt32)) &&& 252645135)).toUInt32 >>> ((8 : Int32).toUInt32 &&& Int32.toUInt32 31)).toInt32) hx hb dJ6_bitCount_0f7a4_38 rfl ?_
  refine lv_iadd hx hb dJ6_bitCount_0f7a4_39 ?_
  refine lv_istore_n (lv' := [(0, .int ((((((x0 - ((((x0).toUInt32 >>> ((1 : Int32).toUInt32 &&& Int32.toUInt32 31)).toInt32) &&& 1431655765)) &&& 858993459) + (((((x0 - ((((x0).toUInt32 >>> ((1 : Int32).toUInt32 &&& Int32.toUInt32 31)).toInt32) &&& 1431655765))).toUInt32 >>> ((2 : Int32).toUInt32 &&& Int32.toUInt32 31)).toInt32) &&& 858993459)) + ((((((x0 - ((((x0).toUInt32 >>> ((1 : Int32).toUInt32 &&& Int32.toUInt32 31)).toInt32) &&& 1431655765)) &&& 858993459) + (((((x0 - ((((x0).toUInt32 >>> ((1 : Int32).toUInt32 &&& Int32.toUInt32 31)).toInt32) &&& 1431655765))).toUInt32 >>> ((2 : Int32).toUInt32 &&& Int32.toUInt32 31)).toInt32) &&& 858993459))).toUInt32 >>> ((4 : Int32).toUInt32 &&& Int32.toUInt32 31)).toInt32)) &&& 252645135) + ((((((((x0 - ((((x0).toUInt32 >>> ((1 : Int32).toUInt32 &&& Int32.toUInt32 31)).toInt32) &&& 1431655765)) &&& 858993459) + (((((x0 - ((((x0).toUInt32 >>> ((1 : Int32).toUInt32 &&& Int32.toUInt32 31)).toInt32) &&& 1431655765))).toUInt32 >>> ((2 : Int32).toUInt32 &&& Int32.toUInt32 31)).toInt32) &&& 858993459)) + ((((((x0 - ((((x0).toUInt32 >>> ((1 : Int32).toUInt32 &&& Int32.toUInt32 31)).toInt32) &&& 1431655765)) &&& 858993459) + (((((x0 - ((((x0).toUInt32 >>> ((1 : Int32).toUInt32 &&& Int32.toUInt32 31)).toInt32) &&& 1431655765))).toUInt32 >>> ((2 : Int32).toUInt32 &&& Int32.toUInt32 31)).toInt32) &&& 858993459))).toUInt32 >>> ((4 : Int32).toUInt32 &&& Int32.toUInt32 31)).toInt32)) &&& 252645135)).toUInt32 >>> ((8 : Int32).toUInt32 &&& Int32.toUInt32 31)).toInt32)))]) hx hb dJ6_bitCount_0f7a4_40 rfl hl (by decide) rfl (fun ls hl => ?_)
  refine lv_iload_n hx hb dJ6_bitCount_0f7a4_41 rfl (lv_at hl 0 rfl) ?_
  refine lv_iload_n hx hb dJ6_bitCount_0f7a4_42 rfl (lv_at hl 0 rfl) ?_
  refine lv_bipush (v := 16) hx hb dJ6_bitCount_0f7a4_43 (by decide) ?_
  refine lv_iushr (v := ((((((((x0 - ((((x0).toUInt32 >>> ((1 : Int32).toUInt32 &&& Int32.toUInt32 31)).toInt32) &&& 1431655765)) &&& 858993459) + (((((x0 - ((((x0).toUInt32 >>> ((1 : Int32).toUInt32 &&& Int32.toUInt32 31)).toInt32) &&& 1431655765))).toUInt32 >>> ((2 : Int32).toUInt32 &&& Int32.toUInt32 31)).toInt32) &&& 858993459)) + ((((((x0 - ((((x0).toUInt32 >>> ((1 : Int32).toUInt32 &&& Int32.toUInt32 31)).toInt32) &&& 1431655765)) &&& 858993459) + (((((x0 - ((((x0).toUInt32 >>> ((1 : Int32).toUInt32 &&& Int32.toUInt32 31)).toInt32) &&& 1431655765))).toUInt32 >>> ((2 : Int32).toUInt32 &&& Int32.toUInt32 31)).toInt32) &&& 858993459))).toUInt32 >>> ((4 : Int32).toUInt32 &&& Int32.toUInt32 31)).toInt32)) &&& 252645135) + ((((((((x0 - ((((x0).toUInt32 >>> ((1 : Int32).toUInt32 &&& Int32.toUInt32 31)).toInt32) &&& 1431655765)) &&& 858993459) + (((((x0 - ((((x0).toUInt32 >>> ((1 : Int32).toUInt32 &&& Int32.toUInt32 31)).toInt32) &&& 1431655765))).toUInt32 >>> ((2 : Int32).toUInt32 &&& Int32.toUInt32 31)).toInt32) &&& 858993459)) + ((((((x0 - ((((x0).toUInt32 >>> ((1 : Int32).toUInt32 &&& Int32.toUInt32 31)).toInt32) &&& 1431655765)) &&& 858993459) + (((((x0 - ((((x0).toUInt32 >>> ((1 : Int32).toUInt32 &&& Int32.toUInt32 31)).toInt32) &&& 1431655765))).toUInt32 >>> ((2 : Int32).toUInt32 &&& Int32.toUInt32 31)).toInt32) &&& 858993459))).toUInt32 >>> ((4 : Int32).toUInt32 &&& Int32.toUInt32 31)).toInt32)) &&& 252645135)).toUInt32 >>> ((8 : Int32).toUInt32 &&& Int32.toUInt32 31)).toInt32))).toUInt32 >>> ((16 : Int32).toUInt32 &&& Int32.toUInt32 31)).toInt32) hx hb dJ6_bitCount_0f7a4_45 rfl ?_
  refine lv_iadd hx hb dJ6_bitCount_0f7a4_46 ?_
  refine lv_istore_n (lv' := [(0, .int (((((((x0 - ((((x0).toUInt32 >>> ((1 : Int32).toUInt32 &&& Int32.toUInt32 31)).toInt32) &&& 1431655765)) &&& 858993459) + (((((x0 - ((((x0).toUInt32 >>> ((1 : Int32).toUInt32 &&& Int32.toUInt32 31)).toInt32) &&& 1431655765))).toUInt32 >>> ((2 : Int32).toUInt32 &&& Int32.toUInt32 31)).toInt32) &&& 858993459)) + ((((((x0 - ((((x0).toUInt32 >>> ((1 : Int32).toUInt32 &&& Int32.toUInt32 31)).toInt32) &&& 1431655765)) &&& 858993459) + (((((x0 - ((((x0).toUInt32 >>> ((1 : Int32).toUInt32 &&& Int32.toUInt32 31)).toInt32) &&& 1431655765))).toUInt32 >>> ((2 : Int32).toUInt32 &&& Int32.toUInt32 31)).toInt32) &&& 858993459))).toUInt32 >>> ((4 : Int32).toUInt32 &&& Int32.toUInt32 31)).toInt32)) &&& 252645135) + ((((((((x0 - ((((x0).toUInt32 >>> ((1 : Int32).toUInt32 &&& Int32.toUInt32 31)).toInt32) &&& 1431655765)) &&& 858993459) + (((((x0 - ((((x0).toUInt32 >>> ((1 : Int32).toUInt32 &&& Int32.toUInt32 31)).toInt32) &&& 1431655765))).toUInt32 >>> ((2 : Int32).toUInt32 &&& Int32.toUInt32 31)).toInt32) &&& 858993459)) + ((((((x0 - ((((x0).toUInt32 >>> ((1 : Int32).toUInt32 &&& Int32.toUInt32 31)).toInt32) &&& 1431655765)) &&& 858993459) + (((((x0 - ((((x0).toUInt32 >>> ((1 : Int32).toUInt32 &&& Int32.toUInt32 31)).toInt32) &&& 1431655765))).toUInt32 >>> ((2 : Int32).toUInt32 &&& Int32.toUInt32 31)).toInt32) &&& 858993459))).toUInt32 >>> ((4 : Int32).toUInt32 &&& Int32.toUInt32 31)).toInt32)) &&& 252645135)).toUInt32 >>> ((8 : Int32).toUInt32 &&& Int32.toUInt32 31)).toInt32)) + (((((((((x0 - ((((x0).toUInt32 >>> ((1 : Int32).toUInt32 &&& Int32.toUInt32 31)).toInt32) &&& 1431655765)) &&& 858993459) + (((((x0 - ((((x0).toUInt32 >>> ((1 : Int32).toUInt32 &&& Int32.toUInt32 31)).toInt32) &&& 1431655765))).toUInt32 >>> ((2 : Int32).toUInt32 &&& Int32.toUInt32 31)).toInt32) &&& 858993459)) + ((((((x0 - ((((x0).toUInt32 >>> ((1 : Int32).toUInt32 &&& Int32.toUInt32 31)).toInt32) &&& 1431655765)) &&& 858993459) + (((((x0 - ((((x0).toUInt32 >>> ((1 : Int32).toUInt32 &&& Int32.toUInt32 31)).toInt32) &&& 1431655765))).toUInt32 >>> ((2 : Int32).toUInt32 &&& Int32.toUInt32 31)).toInt32) &&& 858993459))).toUInt32 >>> ((4 : Int32).toUInt32 &&& Int32.toUInt32 31)).toInt32)) &&& 252645135) + ((((((((x0 - ((((x0).toUInt32 >>> ((1 : Int32).toUInt32 &&& Int32.toUInt32 31)).toInt32) &&& 1431655765)) &&& 858993459) + (((((x0 - ((((x0).toUInt32 >>> ((1 : Int32).toUInt32 &&& Int32.toUInt32 31)).toInt32) &&& 1431655765))).toUInt32 >>> ((2 : Int32).toUInt32 &&& Int32.toUInt32 31)).toInt32) &&& 858993459)) + ((((((x0 - ((((x0).toUInt32 >>> ((1 : Int32).toUInt32 &&& Int32.toUInt32 31)).toInt32) &&& 1431655765)) &&& 858993459) + (((((x0 - ((((x0).toUInt32 >>> ((1 : Int32).toUInt32 &&& Int32.toUInt32 31)).toInt32) &&& 1431655765))).toUInt32 >>> ((2 : Int32).toUInt32 &&& Int32.toUInt32 31)).toInt32) &&& 858993459))).toUInt32 >>> ((4 : Int32).toUInt32 &&& Int32.toUInt32 31)).toInt32)) &&& 252645135)).toUInt32 >>> ((8 : Int32).toUInt32 &&& Int32.toUInt32 31)).toInt32))).toUInt32 >>> ((16 : Int32).toUInt32 &&& Int32.toUInt32 31)).toInt32)))]) hx hb dJ6_bitCount_0f7a4_47 rfl hl (by decide) rfl (fun ls hl => ?_)
  refine lv_iload_n hx hb dJ6_bitCount_0f7a4_48 rfl (lv_at hl 0 rfl) ?_
  refine lv_bipush (v := 63) hx hb dJ6_bitCount_0f7a4_49 (by decide) ?_
  refine lv_iand hx hb dJ6_bitCount_0f7a4_51 ?_
  exact kr 52 ls ((((((((x0 - ((((x0).toUInt32 >>> ((1 : Int32).toUInt32 &&& Int32.toUInt32 31)).toInt32) &&& 1431655765)) &&& 858993459) + (((((x0 - ((((x0).toUInt32 >>> ((1 : Int32).toUInt32 &&& Int32.toUInt32 31)).toInt32) &&& 1431655765))).toUInt32 >>> ((2 : Int32).toUInt32 &&& Int32.toUInt32 31)).toInt32) &&& 858993459)) + ((((((x0 - ((((x0).toUInt32 >>> ((1 : Int32).toUInt32 &&& Int32.toUInt32 31)).toInt32) &&& 1431655765)) &&& 858993459) + (((((x0 - ((((x0).toUInt32 >>> ((1 : Int32).toUInt32 &&& Int32.toUInt32 31)).toInt32) &&& 1431655765))).toUInt32 >>> ((2 : Int32).toUInt32 &&& Int32.toUInt32 31)).toInt32) &&& 858993459))).toUInt32 >>> ((4 : Int32).toUInt32 &&& Int32.toUInt32 31)).toInt32)) &&& 252645135) + ((((((((x0 - ((((x0).toUInt32 >>> ((1 : Int32).toUInt32 &&& Int32.toUInt32 31)).toInt32) &&& 1431655765)) &&& 858993459) + (((((x0 - ((((x0).toUInt32 >>> ((1 : Int32).toUInt32 &&& Int32.toUInt32 31)).toInt32) &&& 1431655765))).toUInt32 >>> ((2 : Int32).toUInt32 &&& Int32.toUInt32 31)).toInt32) &&& 858993459)) + ((((((x0 - ((((x0).toUInt32 >>> ((1 : Int32).toUInt32 &&& Int32.toUInt32 31)).toInt32) &&& 1431655765)) &&& 858993459) + (((((x0 - ((((x0).toUInt32 >>> ((1 : Int32).toUInt32 &&& Int32.toUInt32 31)).toInt32) &&& 1431655765))).toUInt32 >>> ((2 : Int32).toUInt32 &&& Int32.toUInt32 31)).toInt32) &&& 858993459))).toUInt32 >>> ((4 : Int32).toUInt32 &&& Int32.toUInt32 31)).toInt32)) &&& 252645135)).toUInt32 >>> ((8 : Int32).toUInt32 &&& Int32.toUInt32 31)).toInt32)) + (((((((((x0 - ((((x0).toUInt32 >>> ((1 : Int32).toUInt32 &&& Int32.toUInt32 31)).toInt32) &&& 1431655765)) &&& 858993459) + (((((x0 - ((((x0).toUInt32 >>> ((1 : Int32).toUInt32 &&& Int32.toUInt32 31)).toInt32) &&& 1431655765))).toUInt32 >>> ((2 : Int32).toUInt32 &&& Int32.toUInt32 31)).toInt32) &&& 858993459)) + ((((((x0 - ((((x0).toUInt32 >>> ((1 : Int32).toUInt32 &&& Int32.toUInt32 31)).toInt32) &&& 1431655765)) &&& 858993459) + (((((x0 - ((((x0).toUInt32 >>> ((1 : Int32).toUInt32 &&& Int32.toUInt32 31)).toInt32) &&& 1431655765))).toUInt32 >>> ((2 : Int32).toUInt32 &&& Int32.toUInt32 31)).toInt32) &&& 858993459))).toUInt32 >>> ((4 : Int32).toUInt32 &&& Int32.toUInt32 31)).toInt32)) &&& 252645135) + ((((((((x0 - ((((x0).toUInt32 >>> ((1 : Int32).toUInt32 &&& Int32.toUInt32 31)).toInt32) &&& 1431655765)) &&& 858993459) + (((((x0 - ((((x0).toUInt32 >>> ((1 : Int32).toUInt32 &&& Int32.toUInt32 31)).toInt32) &&& 1431655765))).toUInt32 >>> ((2 : Int32).toUInt32 &&& Int32.toUInt32 31)).toInt32) &&& 858993459)) + ((((((x0 - ((((x0).toUInt32 >>> ((1 : Int32).toUInt32 &&& Int32.toUInt32 31)).toInt32) &&& 1431655765)) &&& 858993459) + (((((x0 - ((((x0).toUInt32 >>> ((1 : Int32).toUInt32 &&& Int32.toUInt32 31)).toInt32) &&& 1431655765))).toUInt32 >>> ((2 : Int32).toUInt32 &&& Int32.toUInt32 31)).toInt32) &&& 858993459))).toUInt32 >>> ((4 : Int32).toUInt32 &&& Int32.toUInt32 31)).toInt32)) &&& 252645135)).toUInt32 >>> ((8 : Int32).toUInt32 &&& Int32.toUInt32 31)).toInt32))).toUInt32 >>> ((16 : Int32).toUInt32 &&& Int32.toUInt32 31)).toInt32)) &&& 63) () H locs dJ6_bitCount_0f7a4_52 (Option.some.inj h) hP hS
