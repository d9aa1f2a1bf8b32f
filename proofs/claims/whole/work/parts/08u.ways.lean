/-! ways, stances -/
theorem sm_ext {f : Nat → Nat} {a : Nat} : ∀ b, (∀ k, a ≤ k → k < a + b → f k = 0) → sm f (a + b) = sm f a
  | 0, _ => rfl
  | b + 1, h => by
    show sm f (a + b) + f (a + b) = sm f a
    rw [sm_ext b (fun k h1 h2 => h k h1 (by omega)), h (a + b) (by omega) (by omega), Nat.add_zero]
theorem gl_c {goal v t : Nat} (h : gl goal v t = true) : t / 24 = goal := beq_iff_eq.mp (Bool.and_eq_true_iff.mp h).1
theorem p_howLoop {x2 x3 x4 : Int32} {S : AS} {y : AR} {N : Nat} {P : Nat → Bool} (hS : SrT S y) (hN : 1000 < N) (hP : ∀ s, s < 600 → f_X5_meets (nI s) x2 x3 = some (bI (P s))) (hB : ∀ k, k < S.1 → S.2.2.1 (S.2.1 k) ≠ none) : f_X5_howMany_l22 x2 x3 x4 y.1 y.2.1 y.2.2.2.2.1 y.2.2.2.2.2 N (0, 0) = some (lN (sm (fun i => if P (S.2.1 i) = true ∧ en (S.2.2.1 (S.2.1 i)) = x4 then S.2.2.2.2 (S.2.1 i) else 0) S.1)) := by
  have h6 := Sr_600 hS
  refine lp_run (b := fun rec z => f_X5_howMany_b22 x2 x3 x4 y.1 y.2.1 y.2.2.2.2.1 y.2.2.2.2.2 rec z.1 z.2) (fun k => (lN (sm (fun i => if P (S.2.1 i) = true ∧ en (S.2.2.1 (S.2.1 i)) = x4 then S.2.2.2.2 (S.2.1 i) else 0) k), nI k)) S.1 (fun k hk rec => ?_) (fun rec => ?_) N (by omega)
  · show f_X5_howMany_b22 x2 x3 x4 y.1 y.2.1 y.2.2.2.2.1 y.2.2.2.2.2 rec (lN _) (nI k) = _
    unfold f_X5_howMany_b22 f_X8_reached
    have ho := (hS.2.2.1 k hk).2
    rw [Option.bind_some, p_reachedAt hS hk, show y.1 = nI S.1 from hS.2.1, if_neg (nI_ge hk (by omega)), Option.bind_some, hP _ ho, Option.bind_some, nI_1, sm]
    cases hp : P (S.2.1 k) with
    | false =>
      rw [if_pos (show bI false = 0 from rfl), if_neg (fun z => by cases z.1)]; rfl
    | true =>
      rw [if_neg (show ¬ bI true = 0 by decide), p_distTo hS ho, Option.bind_some]
      by_cases e : en (S.2.2.1 (S.2.1 k)) = x4
      · rw [if_pos e, if_pos ⟨rfl, e⟩, p_pathsTo hS ho (hB k hk), Option.bind_some, lN_add]
      · rw [if_neg e, if_neg (fun z => e z.2)]; rfl
  · show f_X5_howMany_b22 x2 x3 x4 y.1 y.2.1 y.2.2.2.2.1 y.2.2.2.2.2 rec (lN _) (nI S.1) = _
    unfold f_X5_howMany_b22 f_X8_reached
    rw [Option.bind_some, show y.1 = nI S.1 from hS.2.1, if_pos (Int32.le_refl _)]
theorem lp_from {α β : Type} {b : (α → Option β) → α → Option β} (st : Nat → α) (a m : Nat) (ham : a ≤ m) {fin : β} (hs : ∀ i, a ≤ i → i < m → ∀ rec, b rec (st i) = rec (st (i + 1))) (he : ∀ rec, b rec (st m) = some fin) : ∀ N, m - a < N → nx_lp b N (st a) = some fin := fun N hN =>
  lp_run (fun i => st (a + i)) (m - a) (fun i hi rec => hs (a + i) (by omega) (by omega) rec) (fun rec => by rw [show a + (m - a) = m by omega]; exact he rec) N hN
theorem m_waysLoop {N goal v b : Nat} {D : Nat → Option Nat} {C : Nat → Nat} {top rolls : Nat → Int32} {many : Nat → Int64} {T : Nat} (hN : 1000 < N) (ht : ∀ s, s < 24 → top s = nI (tp s)) (hT : T ≤ 600) (hg : 24 * goal + 24 ≤ T) (hv : v < 34) (hv2 : v < 7 ∨ 9 < v) (hr : ∀ t, t < T → rolls t = fr (D t) ∧ (D t ≠ none → many t = lN (C t))) (hD6 : ∀ s v, D s = some v → v < 600) (hb : b < 600) : f_X11_ways_l48 (nI goal) (nI v) (nI b) top rolls many N (0, 24 * nI goal) = some (lN (sm (fun t => if gl goal v t = true ∧ D t = some b then C t else 0) (24 * goal + 24))) := by
  have h0 : sm (fun t => if gl goal v t = true ∧ D t = some b then C t else 0) (24 * goal) = 0 := sm_0 _ (fun k hk => if_neg (fun z => by have := gl_c z.1; omega))
  have := lp_from (b := fun rec z => f_X11_ways_b48 (nI goal) (nI v) (nI b) top rolls many rec z.1 z.2) (fun k => (lN (sm (fun t => if gl goal v t = true ∧ D t = some b then C t else 0) k), nI k)) (24 * goal) (24 * goal + 24) (by omega) (fin := lN (sm (fun t => if gl goal v t = true ∧ D t = some b then C t else 0) (24 * goal + 24))) (fun k h1 h2 rec => ?_) (fun rec => ?_) N (by omega)
  · rw [h0] at this
    rw [al24]; exact this
  · show f_X11_ways_b48 (nI goal) (nI v) (nI b) top rolls many rec (lN _) (nI k) = _
    unfold f_X11_ways_b48 f_X11_ways_j104
    rw [al24, show nI (24 * goal) + 24 = nI (24 * goal + 24) from nI_add _ 24, if_neg (nI_ge h2 (by omega)), if_neg (show ¬ (100000000 : Int32) ≤ nI b from nI_ge (show b < 100000000 by omega) (by decide)), m_isGoal ht (by omega) (by omega) hv hv2, Option.bind_some, nI_1, sm]
    cases hgk : gl goal v k with
    | false =>
      rw [if_pos (show bI false = 0 from rfl), if_neg (fun z => by cases z.1)]
      exact congrArg rec (by rw [show (0 : Int64) = lN 0 from rfl, lN_add])
    | true =>
      rw [if_neg (show ¬ bI true = 0 by decide), rdn (show k < 600 by omega) (by decide), rdn (show k < 600 by omega) (by decide), Option.bind_some, Option.bind_some, cln (by omega), (hr k (by omega)).1]
      by_cases e : D k = some b
      · rw [if_pos (by rw [e]; rfl), if_pos ⟨rfl, e⟩, (hr k (by omega)).2 (some_ne e), lN_add]
      · have : ¬ fr (D k) = nI b := fun z => by
          cases hd : D k with
          | none => rw [hd] at z; have := (nI_eq (a := 100000000) (by decide) (by omega)).mp z; omega
          | some u => rw [hd] at z; have hu := hD6 k u hd; have := (nI_eq (a := u) (by omega) (by omega)).mp z; exact e (by rw [hd, this])
        rw [if_neg this, if_neg (fun z => e z.2)]
        exact congrArg rec (by rw [show (0 : Int64) = lN 0 from rfl, lN_add])
  · show f_X11_ways_b48 (nI goal) (nI v) (nI b) top rolls many rec (lN _) (nI (24 * goal + 24)) = _
    unfold f_X11_ways_b48
    rw [al24, show nI (24 * goal) + 24 = nI (24 * goal + 24) from nI_add _ 24, if_pos (Int32.le_refl _)]
theorem s_ways (N : Nat) (hN : NB ≤ N) {size : Int32} {on : Int32} {kinds : Nat → Int32} {marks : Nat → Int32} {nb : Nat → Int32} {reached : Int32} {dist : Nat → Int32} {lastW : Nat → Int32} {par : Nat → Int32} {ord : Nat → Int32} {paths : Nat → Int64} {plen : Int32} {rowW : Nat → Int32} {rowS : Nat → Int32} {wide : Int32} {tall : Int32} {groups : Int32} {rowMany : Int32} {top : Nat → Int32} {east : Nat → Int32} {south : Nat → Int32} {rolled : Nat → Int32} {kind : Nat → Int32} {mark : Nat → Int32} {rolls : Nat → Int32} {many : Nat → Int64} {rowWay : Nat → Int32} {rowSeen : Nat → Int32} (hR : Rl size on kinds marks nb plen rowW rowS wide tall groups rowMany top east south rolled kind mark rowWay rowSeen) (y1 : Int32) (y2 : Int32) (y3 : Int32) (y4 : Int32) : ∃ (r : Int64) (oc : Int32 × (Nat → Int32) × (Nat → Int32) × (Nat → Int32) × (Nat → Int32) × (Nat → Int64)) (om : (Nat → Int32) × (Nat → Int64)), f_X10_ways N y1 y2 y3 y4 size on kinds marks nb reached dist lastW par ord paths = some (r, oc) ∧ f_X11_ways N y1 y2 y3 y4 wide tall groups top rolled kind mark rolls many = some (r, om) ∧ Rl size on kinds marks nb plen rowW rowS wide tall groups rowMany top east south rolled kind mark rowWay rowSeen := by
  obtain ⟨w, h, g, n, K, M, rw_, rs, hB, hC, hM⟩ := id hR
  obtain ⟨b1, b2, b3, b4, b5, b6, b7, b8, b9, b10⟩ := id hB
  obtain ⟨rfl, rfl, c3, c4, c5, rfl, c7, c8⟩ := id hC
  obtain ⟨rfl, rfl, rfl, rfl, m5, m6, m7, m8, m9, m10⟩ := id hM
  have w1 := wh25 b2 b4
  have w2 := wh4 b1 b3
  have hNB : 1000000000000 ≤ N := hN
  unfold f_X10_ways f_X11_ways
  rw [p_ref w1, m_ref (by omega) (by omega), Option.bind_some, Option.bind_some]
  rcases may_c w1 y1 y2 y3 y4 with ⟨e1, e2⟩ | ⟨e1, c, s, gg, v, hc, hs, hg, hv, hv2, rfl, rfl, rfl, rfl⟩
  · rw [if_neg e1, if_neg e2]
    exact ⟨_, _, _, rfl, rfl, hR⟩
  · rw [if_pos e1, e1, if_pos (by decide)]
    unfold f_X4_at f_X5_howMany
    rw [at24, Option.bind_some]
    obtain ⟨y2, S, o, q1, q2, q3, q4⟩ := p_endOf5 hB hC (reached, dist, lastW, par, ord, paths) (N := N) (s0 := 24 * c + s) (by omega) (by omega) (show gg < 25 by omega) hv hv2
    have hD := DS_isD q3
    have hD6 := Sr_d6 q2
    obtain ⟨z, z1, z2⟩ := m_layFrom hB hM (s0 := 24 * c + s) (by omega) hD (BI_isC q3.1) hD6 (N := N) (rolls := rolls) (many := many) (by omega)
    obtain ⟨b, x1, x2, x3⟩ := m_shortOf (N := N) (goal := gg) (v := v) (T := 24 * (w * h)) (by omega) (fun s hs => (m5 s hs).1) (by omega) (by omega) hv hv2 (fun t ht => (z2 t ht).1) hD6
    rw [show f_X5_endOf N (nI (24 * c + s)) (nI gg) (nI v) (nI (w * h)) (nI g) kinds marks nb reached dist lastW par ord paths = some (en o, y2) from q1, Option.bind_some, z1, Option.bind_some, x1, Option.bind_some]
    have hoM : ∀ s, o = some s → s < 600 := fun s hs => by
      rcases FE_D q3.1 q4 with ⟨rfl, _⟩ | ⟨x, u, rfl, hx, _⟩
      · cases hs
      · cases hs; omega
    rw [p_distO q2 hoM, Option.bind_some, p_howLoop q2 (by omega) (fun s hs => p_meets hs (show gg < 25 by omega) hv hv2) (fun k hk => (q3.1.2.1 k hk).2), Option.bind_some, BI_sm q3.1 (fun t => if gl gg v t = true ∧ en (S.2.2.1 t) = en (o.bind S.2.2.1) then S.2.2.2.2 t else 0)]
    rcases FE_D q3.1 q4 with ⟨rfl, f1⟩ | ⟨x, u, rfl, hx, f1, f2, f3⟩
    · have hb : b = 100000000 := by
        rcases x2 with q | ⟨t, _, a1, a2⟩
        · exact q
        · rw [f1 t a1] at a2; cases a2
      subst hb
      rw [sm_0 _ (fun t _ => ?_)]
      · have : f_X11_ways_l48 (nI gg) (nI v) (nI 100000000) top z.1 z.2 N (0, 24 * nI gg) = some 0 := by
          obtain ⟨N', rfl⟩ : ∃ N', N = N' + 1 := ⟨N - 1, by omega⟩
          show f_X11_ways_b48 (nI gg) (nI v) (nI 100000000) top z.1 z.2 _ 0 (24 * nI gg) = some 0
          unfold f_X11_ways_b48
          rw [if_pos (show (100000000 : Int32) ≤ nI 100000000 from Int32.le_refl _)]
          split <;> rfl
        rw [this]
        exact ⟨_, _, _, rfl, rfl, hR⟩
      · by_cases hgt : gl gg v t = true
        · rw [f1 t hgt]; rfl
        · rw [if_neg (show ¬ (gl gg v t = true ∧ en (S.2.2.1 t) = en ((none : Option Nat).bind S.2.2.1)) from fun q => hgt q.1)]; split <;> rfl
    · have hbu := x3 x u f1 f2
      have hu6 := hD6 x u f2
      have hb : b = u := by
        rcases x2 with q | ⟨t, _, a1, a2⟩
        · omega
        · have := f3 t b a1 a2; omega
      subst hb
      rw [m_waysLoop (N := N) (by omega) (fun s hs => (m5 s hs).1) (by omega) (show 24 * gg + 24 ≤ 24 * (w * h) by omega) hv hv2 z2 hD6 hu6]
      have e1 : sm (fun s => if (S.2.2.1 s).isSome = true then (if gl gg v s = true ∧ en (S.2.2.1 s) = en ((some x).bind S.2.2.1) then S.2.2.2.2 s else 0) else 0) (24 * (w * h)) = sm (fun t => if gl gg v t = true ∧ S.2.2.1 t = some b then S.2.2.2.2 t else 0) (24 * (w * h)) := sm_cong (fun t _ => by
        rw [Option.bind_some, f2]
        cases hd : S.2.2.1 t with
        | none => rw [if_neg (by decide), if_neg (fun q => by cases q.2)]
        | some u2 =>
          have hu2 := hD6 t u2 hd
          rw [if_pos (show (some u2).isSome = true from rfl)]
          by_cases e : u2 = b
          · subst e
            by_cases hgt : gl gg v t = true
            · rw [if_pos ⟨hgt, rfl⟩, if_pos ⟨hgt, rfl⟩]
            · rw [if_neg (fun q => hgt q.1), if_neg (fun q => hgt q.1)]
          · rw [if_neg (fun q => e ((nI_eq (by omega) (by omega)).mp q.2)), if_neg (fun q => e (by cases q.2; rfl))])
      have e2 := sm_ext (f := fun t => if gl gg v t = true ∧ S.2.2.1 t = some b then S.2.2.2.2 t else 0) (a := 24 * gg + 24) (24 * (w * h) - (24 * gg + 24)) (fun k h1 h2 => if_neg (fun q => by have := gl_c q.1; omega))
      rw [show 24 * gg + 24 + (24 * (w * h) - (24 * gg + 24)) = 24 * (w * h) by omega] at e2
      rw [e1, e2, Option.bind_some]
      exact ⟨_, _, _, rfl, rfl, hR⟩
theorem p_stLoop {goal : Nat} {S : AS} {y : AR} {N : Nat} (hS : SrT S y) (hN : 1000 < N) (hg : goal < 25) : f_X5_stancesAt_l24 (nI goal) y.1 y.2.2.2.2.1 N (0, 0) = some (nI (sm (fun i => if S.2.1 i / 24 = goal then 1 else 0) S.1)) := by
  have h6 := Sr_600 hS
  refine lp_run (b := fun rec z => f_X5_stancesAt_b24 (nI goal) y.1 y.2.2.2.2.1 rec z.1 z.2) (fun k => (nI (sm (fun i => if S.2.1 i / 24 = goal then 1 else 0) k), nI k)) S.1 (fun k hk rec => ?_) (fun rec => ?_) N (by omega)
  · show f_X5_stancesAt_b24 (nI goal) y.1 y.2.2.2.2.1 rec (nI _) (nI k) = _
    unfold f_X5_stancesAt_b24 f_X8_reached f_X4_cellOf f_X5_stancesAt_j58
    have ho := (hS.2.2.1 k hk).2
    rw [Option.bind_some, p_reachedAt hS hk, show y.1 = nI S.1 from hS.2.1, if_neg (nI_ge hk (by omega)), Option.bind_some, Option.bind_some, dv24 (by omega), sm]
    by_cases e : S.2.1 k / 24 = goal
    · rw [if_pos (by rw [e]), if_pos e, show (1 : Int32) = bI true from rfl, p_oneIf, Option.bind_some, show bI true = nI 1 from rfl, nI_add, nI_add]
    · rw [if_neg (fun z => e ((nI_eq (by omega) (by omega)).mp z)), if_neg e, show (0 : Int32) = bI false from rfl, p_oneIf, Option.bind_some, show bI false = nI 0 from rfl, nI_add, nI_1]
  · show f_X5_stancesAt_b24 (nI goal) y.1 y.2.2.2.2.1 rec (nI _) (nI S.1) = _
    unfold f_X5_stancesAt_b24 f_X8_reached
    rw [Option.bind_some, show y.1 = nI S.1 from hS.2.1, if_pos (Int32.le_refl _)]
theorem m_stLoop {N goal : Nat} {D : Nat → Option Nat} {rolls : Nat → Int32} {T : Nat} (hN : 1000 < N) (hT : T ≤ 600) (hg : 24 * goal + 24 ≤ T) (hr : ∀ t, t < T → rolls t = fr (D t)) (hD6 : ∀ s v, D s = some v → v < 600) : f_X11_stances_l44 (nI goal) rolls N (0, 24 * nI goal) = some (nI (sm (fun t => if (D t).isSome then (if t / 24 = goal then 1 else 0) else 0) (24 * goal + 24))) := by
  have h0 : sm (fun t => if (D t).isSome then (if t / 24 = goal then 1 else 0) else 0) (24 * goal) = 0 := sm_0 _ (fun k hk => by rw [if_neg (show ¬ k / 24 = goal by omega)]; split <;> rfl)
  have := lp_from (b := fun rec z => f_X11_stances_b44 (nI goal) rolls rec z.1 z.2) (fun k => (nI (sm (fun t => if (D t).isSome then (if t / 24 = goal then 1 else 0) else 0) k), nI k)) (24 * goal) (24 * goal + 24) (by omega) (fin := nI (sm (fun t => if (D t).isSome then (if t / 24 = goal then 1 else 0) else 0) (24 * goal + 24))) (fun k h1 h2 rec => ?_) (fun rec => ?_) N (by omega)
  · rw [h0] at this
    rw [al24]; exact this
  · show f_X11_stances_b44 (nI goal) rolls rec (nI _) (nI k) = _
    unfold f_X11_stances_b44 f_X11_stances_j75
    rw [al24, show nI (24 * goal) + 24 = nI (24 * goal + 24) from nI_add _ 24, if_neg (nI_ge h2 (by omega)), rdn (show k < 600 by omega) (by decide), Option.bind_some, cln (by omega), hr k (by omega), sm, if_pos (show k / 24 = goal by omega)]
    cases hd : D k with
    | none =>
      rw [if_pos (show (100000000 : Int32) ≤ fr none from Int32.le_refl _), if_neg (by decide), show (0 : Int32) = nI 0 from rfl, nI_add, nI_1]
    | some u =>
      have hu := hD6 k u hd
      rw [if_neg (show ¬ (100000000 : Int32) ≤ fr (some u) from nI_ge (show u < 100000000 by omega) (by decide)), if_pos (show (some u).isSome = true from rfl), show (1 : Int32) = nI 1 from rfl, nI_add, nI_add]
  · show f_X11_stances_b44 (nI goal) rolls rec (nI _) (nI (24 * goal + 24)) = _
    unfold f_X11_stances_b44
    rw [al24, show nI (24 * goal) + 24 = nI (24 * goal + 24) from nI_add _ 24, if_pos (Int32.le_refl _)]
theorem s_stances (N : Nat) (hN : NB ≤ N) {size : Int32} {on : Int32} {kinds : Nat → Int32} {marks : Nat → Int32} {nb : Nat → Int32} {reached : Int32} {dist : Nat → Int32} {lastW : Nat → Int32} {par : Nat → Int32} {ord : Nat → Int32} {paths : Nat → Int64} {plen : Int32} {rowW : Nat → Int32} {rowS : Nat → Int32} {wide : Int32} {tall : Int32} {groups : Int32} {rowMany : Int32} {top : Nat → Int32} {east : Nat → Int32} {south : Nat → Int32} {rolled : Nat → Int32} {kind : Nat → Int32} {mark : Nat → Int32} {rolls : Nat → Int32} {many : Nat → Int64} {rowWay : Nat → Int32} {rowSeen : Nat → Int32} (hR : Rl size on kinds marks nb plen rowW rowS wide tall groups rowMany top east south rolled kind mark rowWay rowSeen) (y1 : Int32) (y2 : Int32) (y3 : Int32) : ∃ (r : Int32) (oc : Int32 × (Nat → Int32) × (Nat → Int32) × (Nat → Int32) × (Nat → Int32) × (Nat → Int64)) (om : (Nat → Int32) × (Nat → Int64)), f_X10_stances N y1 y2 y3 size on kinds marks nb reached dist lastW par ord paths = some (r, oc) ∧ f_X11_stances N y1 y2 y3 wide tall groups top rolled kind mark rolls many = some (r, om) ∧ Rl size on kinds marks nb plen rowW rowS wide tall groups rowMany top east south rolled kind mark rowWay rowSeen := by
  obtain ⟨w, h, g, n, K, M, rw_, rs, hB, hC, hM⟩ := id hR
  obtain ⟨b1, b2, b3, b4, b5, b6, b7, b8, b9, b10⟩ := id hB
  obtain ⟨rfl, rfl, c3, c4, c5, rfl, c7, c8⟩ := id hC
  obtain ⟨rfl, rfl, rfl, rfl, m5, m6, m7, m8, m9, m10⟩ := id hM
  have w1 := wh25 b2 b4
  have w2 := wh4 b1 b3
  have hNB : 1000000000000 ≤ N := hN
  unfold f_X10_stances f_X11_stances
  rw [p_isStart y1 y2 (by omega), m_isCell y1 (by omega) (by omega), m_isStance, p_has y3 (by omega), m_isCell y3 (by omega) (by omega)]
  simp only [Option.bind_some, bI_0]
  cases hb : inb y1 (w * h) with
  | false => exact ⟨-1, _, _, rfl, rfl, hR⟩
  | true =>
    obtain ⟨c, hc, rfl⟩ := inb_of hb (by omega)
    cases hb2 : inb y2 24 with
    | false => exact ⟨-1, _, _, rfl, rfl, hR⟩
    | true =>
      obtain ⟨s, hs, rfl⟩ := inb_of hb2 (by omega)
      cases hb3 : inb y3 (w * h) with
      | false => exact ⟨-1, _, _, rfl, rfl, hR⟩
      | true =>
        obtain ⟨gg, hg, rfl⟩ := inb_of hb3 (by omega)
        unfold f_X4_at f_X5_stancesAt
        simp only [Bool.and_self, Bool.true_eq_false, if_false, Option.bind_some, at24]
        obtain ⟨y1, y2, S, q1, q2, q3, q4⟩ := p_dsearch hB hC (reached, dist, lastW, par, ord, paths) (N := N) (s0 := 24 * c + s) (by omega) (by omega)
        have hD := DS_isD q4
        have hD6 := Sr_d6 q3
        obtain ⟨z, z1, z2⟩ := m_layFrom hB hM (s0 := 24 * c + s) (by omega) hD (BI_isC q4.1) hD6 (N := N) (rolls := rolls) (many := many) (by omega)
        rw [show f_X8_begin N (nI (24 * c + s)) reached dist lastW par ord paths = some y1 from q1, Option.bind_some, q2, Option.bind_some, p_stLoop q3 (by omega) (show gg < 25 by omega), z1, Option.bind_some, Option.bind_some, Option.bind_some, m_stLoop (N := N) (by omega) (show 24 * (w * h) ≤ 600 by omega) (by omega) (fun t ht => (z2 t ht).1) hD6]
        have e2 := sm_ext (f := fun t => if (S.2.2.1 t).isSome then (if t / 24 = gg then 1 else 0) else 0) (a := 24 * gg + 24) (24 * (w * h) - (24 * gg + 24)) (fun k h1 h2 => by rw [if_neg (show ¬ k / 24 = gg by omega)]; split <;> rfl)
        rw [show 24 * gg + 24 + (24 * (w * h) - (24 * gg + 24)) = 24 * (w * h) by omega] at e2
        rw [BI_sm q4.1 (fun t => if t / 24 = gg then 1 else 0), e2]
        exact ⟨_, _, _, rfl, rfl, hR⟩
