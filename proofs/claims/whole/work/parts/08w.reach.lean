/-! reach -/
def ob (f : Nat → Nat) : Nat → Nat
  | 0 => 0
  | k + 1 => ob f k ||| 2 ^ (f k / 24)
theorem ob_lt {f : Nat → Nat} : ∀ k, (∀ i, i < k → f i / 24 < 25) → ob f k < 2 ^ 25
  | 0, _ => Nat.two_pow_pos 25
  | k + 1, h => Nat.or_lt_two_pow (ob_lt k (fun i hi => h i (by omega))) (Nat.pow_lt_pow_right (by decide) (h k (by omega)))
theorem ob_t {f : Nat → Nat} {c : Nat} : ∀ k, (ob f k).testBit c = true ↔ ∃ i, i < k ∧ f i / 24 = c
  | 0 => by
    constructor
    · intro z; rw [ob, Nat.zero_testBit] at z; cases z
    · rintro ⟨i, hi, _⟩; omega
  | k + 1 => by
    rw [ob, Nat.testBit_or, Bool.or_eq_true, ob_t k, Nat.testBit_two_pow]
    constructor
    · rintro (⟨i, hi, e⟩ | z)
      · exact ⟨i, by omega, e⟩
      · exact ⟨k, by omega, of_decide_eq_true z⟩
    · rintro ⟨i, hi, e⟩
      by_cases z : i = k
      · exact Or.inr (decide_eq_true (by rw [← z]; exact e))
      · exact Or.inl ⟨i, by omega, e⟩
theorem sh1 : ∀ c, c < 25 → (1 : Int32) <<< (nI c &&& 31) = nI (2 ^ c) := by decide +kernel
theorem p_reLoop {S : AS} {y : AR} {N : Nat} (hS : SrT S y) (hN : 1000 < N) : f_X5_cellsReached_l23 y.1 y.2.2.2.2.1 N (0, 0) = some (nI (ob S.2.1 S.1)) := by
  have h6 := Sr_600 hS
  refine lp_run (b := fun rec z => f_X5_cellsReached_b23 y.1 y.2.2.2.2.1 rec z.1 z.2) (fun k => (nI (ob S.2.1 k), nI k)) S.1 (fun k hk rec => ?_) (fun rec => ?_) N (by omega)
  · show f_X5_cellsReached_b23 y.1 y.2.2.2.2.1 rec (nI _) (nI k) = _
    unfold f_X5_cellsReached_b23 f_X8_reached f_X4_cellOf
    have ho := (hS.2.2.1 k hk).2
    rw [Option.bind_some, p_reachedAt hS hk, show y.1 = nI S.1 from hS.2.1, if_neg (nI_ge hk (by omega)), Option.bind_some, Option.bind_some, dv24 (by omega), sh1 _ (by omega), orI, nI_1]
    rfl
  · show f_X5_cellsReached_b23 y.1 y.2.2.2.2.1 rec (nI _) (nI S.1) = _
    unfold f_X5_cellsReached_b23 f_X8_reached
    rw [Option.bind_some, show y.1 = nI S.1 from hS.2.1, if_pos (Int32.le_refl _)]
theorem m_re51 {N o : Nat} {x3 : Int32} {D : Nat → Option Nat} {rolls : Nat → Int32} {T : Nat} {b : Bool} (hN : 1000 < N) (hT : T ≤ 600) (ho : 24 * o + 24 ≤ T) (hr : ∀ t, t < T → rolls t = fr (D t)) (hD6 : ∀ s v, D s = some v → v < 600) (hb : b = true ↔ ∃ t, t / 24 = o ∧ D t ≠ none) : f_X11_reach_l51 x3 (nI o) rolls N (0, 24 * nI o) = some (bI b) := by
  have hl : ∃ x, f_X11_reach_l51 x3 (nI o) rolls N (0, 24 * nI o) = some x ∧ ∃ q, x = bI q ∧ (q = true ↔ ∃ t, t / 24 = o ∧ D t ≠ none) := by
    refine lp_ex (b := fun rec z => f_X11_reach_b51 x3 (nI o) rolls rec z.1 z.2) (fun m x => ∃ k q, m + k = 24 * o + 24 ∧ 24 * o ≤ k ∧ x.2 = nI k ∧ x.1 = bI q ∧ (q = true ↔ ∃ t, t / 24 = o ∧ t < k ∧ D t ≠ none)) (fun x => ∃ q, x = bI q ∧ (q = true ↔ ∃ t, t / 24 = o ∧ D t ≠ none)) ?_ N 24 (0, 24 * nI o) ⟨24 * o, false, by omega, by omega, al24 o, rfl, ⟨fun z => (by cases z), fun ⟨t, z1, z2, _⟩ => (by omega)⟩⟩ (by omega)
    rintro m ⟨x5, x6⟩ ⟨k, q, hm, hk, hx, hx5, h1⟩ rec hrec
    have hx : x6 = nI k := hx
    have hx5 : x5 = bI q := hx5
    subst hx; subst hx5
    show ∃ x, f_X11_reach_b51 x3 (nI o) rolls rec (bI q) (nI k) = some x ∧ _
    unfold f_X11_reach_b51
    rw [al24, show nI (24 * o) + 24 = nI (24 * o + 24) from nI_add _ 24]
    by_cases e : k = 24 * o + 24
    · rw [e, if_pos (Int32.le_refl _)]
      refine ⟨_, rfl, q, rfl, h1.trans ⟨fun ⟨t, z1, _, z3⟩ => ⟨t, z1, z3⟩, fun ⟨t, z1, z3⟩ => ⟨t, z1, by omega, z3⟩⟩⟩
    · rw [if_neg (nI_ge (show k < 24 * o + 24 by omega) (by omega)), nI_1]
      cases q with
      | true =>
        rw [if_neg (show ¬ bI true = 0 by decide)]
        obtain ⟨t, z1, z2, z3⟩ := h1.mp rfl
        exact hrec (m - 1) _ (by omega) ⟨k + 1, true, by omega, by omega, rfl, rfl, ⟨fun _ => ⟨t, z1, by omega, z3⟩, fun _ => rfl⟩⟩
      | false =>
        rw [if_pos (show bI false = 0 from rfl), rdn (show k < 600 by omega) (by decide), Option.bind_some, cln (by omega), hr k (by omega)]
        cases hd : D k with
        | none =>
          rw [if_pos (show (100000000 : Int32) ≤ fr none from Int32.le_refl _)]
          refine hrec (m - 1) _ (by omega) ⟨k + 1, false, by omega, by omega, rfl, rfl, ⟨fun z => (by cases z), fun ⟨t, z1, z2, z3⟩ => ?_⟩⟩
          by_cases e2 : t = k
          · rw [e2] at z3; exact absurd hd z3
          · exact h1.mpr ⟨t, z1, by omega, z3⟩
        | some u =>
          have hu := hD6 k u hd
          rw [if_neg (show ¬ (100000000 : Int32) ≤ fr (some u) from nI_ge (show u < 100000000 by omega) (by decide))]
          exact hrec (m - 1) _ (by omega) ⟨k + 1, true, by omega, by omega, rfl, rfl, ⟨fun _ => ⟨k, by omega, by omega, some_ne hd⟩, fun _ => rfl⟩⟩
  obtain ⟨x, q1, q, rfl, q2⟩ := hl
  rw [q1]
  have : q = b := Bool.eq_iff_iff.mpr (q2.trans hb.symm)
  rw [this]
theorem m_re32 {w h N : Nat} {D : Nat → Option Nat} {rolls : Nat → Int32} {p : Nat → Bool} (hN : 1000 < N) (hT : w * h ≤ 25) (hr : ∀ t, t < 24 * (w * h) → rolls t = fr (D t)) (hD6 : ∀ s v, D s = some v → v < 600) (hp : ∀ o, o < w * h → (p o = true ↔ ∃ t, t / 24 = o ∧ D t ≠ none)) : f_X11_reach_l32 N (nI w) (nI h) rolls N (0, 0) = some (nI (ctn p (w * h))) := by
  refine lp_cnt (b := fun rec z => f_X11_reach_b32 N (nI w) (nI h) rolls rec z.1 z.2) p (w * h) (fun i c rec hi => ?_) (fun c rec => ?_) N (by omega)
  · show f_X11_reach_b32 N (nI w) (nI h) rolls rec (nI c) (nI i) = _
    unfold f_X11_reach_b32 f_X11_cells f_X11_reach_j105
    rw [Option.bind_some, pk_mul, if_neg (nI_ge hi (by omega)), m_re51 (b := p i) hN (show 24 * (w * h) ≤ 600 by omega) (by omega) hr hD6 (hp i hi), Option.bind_some, nI_1]
    cases p i
    · rfl
    · rfl
  · show f_X11_reach_b32 N (nI w) (nI h) rolls rec (nI c) (nI (w * h)) = _
    unfold f_X11_reach_b32 f_X11_cells
    rw [Option.bind_some, pk_mul, if_pos (Int32.le_refl _)]
theorem s_reach (N : Nat) (hN : NB ≤ N) {size : Int32} {on : Int32} {kinds : Nat → Int32} {marks : Nat → Int32} {nb : Nat → Int32} {reached : Int32} {dist : Nat → Int32} {lastW : Nat → Int32} {par : Nat → Int32} {ord : Nat → Int32} {paths : Nat → Int64} {plen : Int32} {rowW : Nat → Int32} {rowS : Nat → Int32} {wide : Int32} {tall : Int32} {groups : Int32} {rowMany : Int32} {top : Nat → Int32} {east : Nat → Int32} {south : Nat → Int32} {rolled : Nat → Int32} {kind : Nat → Int32} {mark : Nat → Int32} {rolls : Nat → Int32} {many : Nat → Int64} {rowWay : Nat → Int32} {rowSeen : Nat → Int32} (hR : Rl size on kinds marks nb plen rowW rowS wide tall groups rowMany top east south rolled kind mark rowWay rowSeen) (y1 : Int32) (y2 : Int32) : ∃ (r : Int32) (oc : Int32 × (Nat → Int32) × (Nat → Int32) × (Nat → Int32) × (Nat → Int32) × (Nat → Int64)) (om : (Nat → Int32) × (Nat → Int64)), f_X10_reach N y1 y2 size on kinds marks nb reached dist lastW par ord paths = some (r, oc) ∧ f_X11_reach N y1 y2 wide tall groups top rolled kind mark rolls many = some (r, om) ∧ Rl size on kinds marks nb plen rowW rowS wide tall groups rowMany top east south rolled kind mark rowWay rowSeen := by
  obtain ⟨w, h, g, n, K, M, rw_, rs, hB, hC, hM⟩ := id hR
  obtain ⟨b1, b2, b3, b4, b5, b6, b7, b8, b9, b10⟩ := id hB
  obtain ⟨rfl, rfl, c3, c4, c5, rfl, c7, c8⟩ := id hC
  obtain ⟨rfl, rfl, rfl, rfl, m5, m6, m7, m8, m9, m10⟩ := id hM
  have w1 := wh25 b2 b4
  have w2 := wh4 b1 b3
  have hNB : 1000000000000 ≤ N := hN
  unfold f_X10_reach f_X11_reach
  rw [p_isStart y1 y2 (by omega), m_isCell y1 (by omega) (by omega), m_isStance]
  simp only [Option.bind_some, bI_0]
  cases hb : inb y1 (w * h) with
  | false => exact ⟨-1, _, _, rfl, rfl, hR⟩
  | true =>
    obtain ⟨c, hc, rfl⟩ := inb_of hb (by omega)
    cases hb2 : inb y2 24 with
    | false => exact ⟨-1, _, _, rfl, rfl, hR⟩
    | true =>
      obtain ⟨s, hs, rfl⟩ := inb_of hb2 (by omega)
      unfold f_X4_at f_X5_cellsReached
      simp only [Bool.and_self, Bool.true_eq_false, if_false, Option.bind_some, at24]
      obtain ⟨y1, y2, S, q1, q2, q3, q4⟩ := p_dsearch hB hC (reached, dist, lastW, par, ord, paths) (N := N) (s0 := 24 * c + s) (by omega) (by omega)
      have hD := DS_isD q4
      have hD6 := Sr_d6 q3
      obtain ⟨z, z1, z2⟩ := m_layFrom hB hM (s0 := 24 * c + s) (by omega) hD (BI_isC q4.1) hD6 (N := N) (rolls := rolls) (many := many) (by omega)
      have hob : ∀ i, i < S.1 → S.2.1 i / 24 < w * h := fun i hi => by have := (q4.1.2.1 i hi).1; omega
      rw [show f_X8_begin N (nI (24 * c + s)) reached dist lastW par ord paths = some y1 from q1, Option.bind_some, q2, Option.bind_some, p_reLoop q3 (by omega), z1, Option.bind_some, Option.bind_some, bc_n (ob_lt _ (fun i hi => by have := hob i hi; omega)), Option.bind_some]
      rw [m_re32 (p := fun o => (ob S.2.1 S.1).testBit o) (by omega) w1 (fun t ht => (z2 t ht).1) hD6 (fun o ho => (ob_t S.1).trans ⟨fun ⟨i, hi, e⟩ => ⟨S.2.1 i, e, (q4.1.2.1 i hi).2⟩, fun ⟨t, e, ht⟩ => by
        obtain ⟨i, hi, e2⟩ := q4.1.2.2.1 t ht
        exact ⟨i, hi, by rw [e2]; exact e⟩⟩)]
      have e1 := ctn_add (p := fun o => (ob S.2.1 S.1).testBit o) (a := w * h) (25 - w * h)
      rw [show w * h + (25 - w * h) = 25 by omega] at e1
      rw [e1, ctn_cong (p := fun j => (ob S.2.1 S.1).testBit (w * h + j)) (q := fun _ => false) (fun k hk => by
        cases hz : (ob S.2.1 S.1).testBit (w * h + k) with
        | false => rfl
        | true =>
          obtain ⟨i, hi, e⟩ := (ob_t S.1).mp hz
          have := hob i hi
          omega), ctn_0 (fun _ => rfl), Nat.add_zero]
      exact ⟨_, _, _, rfl, rfl, hR⟩
