/-! whence: the search back from home -/
def bk (w h : Nat) (K : Nat → Nat) (st d : Nat) : Option Nat := match tip w h (st / 8) d with
  | none => none
  | some q => if snd w h K ((st % 8) ^^^ tda K (st / 8)) q then some (8 * q + ((st % 8) ^^^ tda K (st / 8))) else none
def fw (F : Nat → Option Nat) : Nat → Option (Nat × Nat)
  | 0 => none
  | n + 1 => match F n with
    | none => fw F n
    | some v => match fw F n with
      | none => some (n, v)
      | some q => if v ≤ q.2 then some q else some (n, v)
def fb (o : Option (Nat × Nat)) : Int32 := match o with
  | none => -9
  | some q => nI q.1
def fm (o : Option (Nat × Nat)) : Int32 := match o with
  | none => -1
  | some q => nI q.2
theorem fw_n {F : Nat → Option Nat} {n : Nat} (h : F n = none) : fw F (n + 1) = fw F n := by rw [fw, h]
theorem fw_0 {F : Nat → Option Nat} {n v : Nat} (h : F n = some v) (h2 : fw F n = none) : fw F (n + 1) = some (n, v) := by rw [fw, h, h2]
theorem fw_s {F : Nat → Option Nat} {n v : Nat} {q : Nat × Nat} (h : F n = some v) (h2 : fw F n = some q) : fw F (n + 1) = if v ≤ q.2 then some q else some (n, v) := by rw [fw, h, h2]
theorem fw_6 {F : Nat → Option Nat} (hF : ∀ k v, F k = some v → v < 600) : ∀ n q, fw F n = some q → q.2 < 600
  | 0, q, h => by cases h
  | n + 1, q, h => by
    cases e : F n with
    | none => rw [fw_n e] at h; exact fw_6 hF n q h
    | some v =>
      cases e2 : fw F n with
      | none => rw [fw_0 e e2] at h; cases h; exact hF n v e
      | some q2 =>
        rw [fw_s e e2] at h
        by_cases z : v ≤ q2.2
        · rw [if_pos z] at h; cases h; exact fw_6 hF n _ e2
        · rw [if_neg z] at h; cases h; exact hF n v e
theorem m1_le {o : Option (Nat × Nat)} (h : ∀ q, o = some q → q.2 < 600) : en none ≤ fm o := by
  cases o with
  | none => exact Int32.le_refl _
  | some q =>
    have := h q rfl
    rw [Int32.le_iff_toInt_le, show fm (some q) = nI q.2 from rfl, nI_toInt (by omega), show (en none).toInt = -1 from rfl]
    omega
theorem nle_m1 {v : Nat} (h : v < 2 ^ 31) : ¬ nI v ≤ (-1 : Int32) := fun z => by
  rw [Int32.le_iff_toInt_le, nI_toInt h, show (-1 : Int32).toInt = -1 from rfl] at z
  omega
section WH
variable {w h g n : Nat} {K M rw_ rs : Nat → Nat} {size on : Int32} {kinds marks nb : Nat → Int32} {plen : Int32} {rowW rowS : Nat → Int32} {wide tall groups rowMany : Int32} {top east south rolled kind mark rowWay rowSeen : Nat → Int32}
theorem bk_i (hB : Bd w h g n K M rw_ rs) {s d t : Nat} (hs : s < 24 * (w * h)) (hd : d < 4) (e : bk w h K s d = some t) : ∃ q, tip w h (s / 8) d = some q ∧ q < 3 * (w * h) ∧ snd w h K ((s % 8) ^^^ tda K (s / 8)) q = true ∧ t / 8 = q ∧ t % 8 = (s % 8) ^^^ tda K (s / 8) := by
  obtain ⟨b1, b2, b3, b4, b5, b6, b7, b8, b9, b10⟩ := id hB
  unfold bk at e
  cases hq : tip w h (s / 8) d with
  | none => rw [hq] at e; cases e
  | some q =>
    rw [hq] at e
    have e : (if snd w h K ((s % 8) ^^^ tda K (s / 8)) q = true then some (8 * q + ((s % 8) ^^^ tda K (s / 8))) else none) = some t := e
    have hx := xor8 (Nat.mod_lt s (show 0 < 8 by decide)) (tda_8 (K := K) (p := s / 8) (b7 _))
    have hq3 := ((tip_f b1 b2 b3 b4 (show s / 8 < 3 * (w * h) by omega) hd).1 q hq).2.1
    cases hsn : snd w h K ((s % 8) ^^^ tda K (s / 8)) q with
    | false => rw [hsn] at e; cases e
    | true =>
      rw [hsn, if_pos rfl] at e
      have e : 8 * q + ((s % 8) ^^^ tda K (s / 8)) = t := by cases e; rfl
      exact ⟨q, rfl, hq3, hsn, by omega, by omega⟩
theorem bk_lt (hB : Bd w h g n K M rw_ rs) {s d t : Nat} (hs : s < 24 * (w * h)) (hd : d < 4) (e : bk w h K s d = some t) : t < 24 * (w * h) := by
  obtain ⟨q, h1, h2, h3, h4, h5⟩ := bk_i hB hs hd e
  omega
theorem bk_sd (hB : Bd w h g n K M rw_ rs) {s d t : Nat} (hs : s < 24 * (w * h)) (hd : d < 4) (e : bk w h K s d = some t) : sd w h K t = true := by
  obtain ⟨q, h1, h2, h3, h4, h5⟩ := bk_i hB hs hd e
  unfold sd
  rw [h4, h5]; exact h3
theorem p_bback (hB : Bd w h g n K M rw_ rs) (hC : Rc w h g n K M rw_ rs size on kinds marks nb plen rowW rowS) {st d : Nat} (hs : st < 24 * (w * h)) (hd : d < 4) : f_X0_after_23 (nI st) (nI d) size kinds nb = some (en (bk w h K st d)) := by
  obtain ⟨b1, b2, b3, b4, b5, b6, b7, b8, b9, b10⟩ := id hB
  have w1 := wh25 b2 b4
  have hp : st / 8 < 3 * (w * h) := by omega
  have hx := xor8 (Nat.mod_lt st (show 0 < 8 by decide)) (tda_8 (K := K) (p := st / 8) (b7 _))
  unfold f_X0_after_23 f_X0_placeOf f_X0_groupsOf f_X0_at
  rw [show f_X0_tipped_23 = f_X0_tipped_22 from rfl, show f_X0_isSound_23 = f_X0_isSound_22 from rfl, show f_X0_turnedAt_23 = f_X0_turnedAt_22 from rfl]
  simp only [Option.bind_some, dv8 (show st < 2 ^ 31 by omega), rq8 (show st < 2 ^ 31 by omega), p_tipped hB hC hp hd, p_turnedAt hB hC hp, xorI]
  rw [if_neg (show ¬ (1 : Int32) = 0 by decide)]
  unfold bk
  cases ht : tip w h (st / 8) d with
  | none => obtain ⟨rfl, rfl, c3, c4, c5, rfl, c7, c8⟩ := hC; rfl
  | some q =>
    have hq := ((tip_f b1 b2 b3 b4 hp hd).1 q ht).2.1
    rw [show en (some q) = nI q from rfl, p_isSound hB hC hx hq]
    simp only [Option.bind_some, bI_0, at8]
    cases snd w h K ((st % 8) ^^^ tda K (st / 8)) q <;> rfl
theorem bk_bl (hB : Bd w h g n K M rw_ rs) {s t : Nat} (hs : s < 24 * (w * h)) (ht : t < 24 * (w * h)) (hsd : sd w h K s = true) : RA (bk w h K) s t ↔ RA (bl w h K) t s := by
  obtain ⟨b1, b2, b3, b4, b5, b6, b7, b8, b9, b10⟩ := id hB
  constructor
  · rintro ⟨d, hd, e⟩
    obtain ⟨q, hq, hq3, hsn, t8, tm⟩ := bk_i hB hs hd e
    obtain ⟨_, _, hv⟩ := (tip_f b1 b2 b3 b4 (show s / 8 < 3 * (w * h) by omega) hd).1 q hq
    have hv : tip w h q ((d + 2) % 4) = some (s / 8) := by
      rcases hv with hv | ⟨z1, z2⟩ | ⟨z1, z2⟩
      · exact hv
      · unfold sd at hsd; rw [snd_out z1 z2] at hsd; cases hsd
      · rw [snd_out z1 z2] at hsn; cases hsn
    refine ⟨(d + 2) % 4, Nat.mod_lt _ (by decide), ?_⟩
    unfold bl bf sd
    rw [t8, tm, hsn, if_pos rfl, hv]
    show (if snd w h K ((s % 8) ^^^ tda K (s / 8)) (s / 8) = true then some (8 * (s / 8) + (((s % 8) ^^^ tda K (s / 8)) ^^^ tda K (s / 8))) else none) = some s
    rw [snd_flip, show snd w h K (s % 8) (s / 8) = true from hsd, if_pos rfl, Nat.xor_assoc, Nat.xor_self, Nat.xor_zero, show 8 * (s / 8) + s % 8 = s by omega]
  · rintro ⟨d, hd, e⟩
    unfold bl at e
    cases hst : sd w h K t with
    | false => rw [hst] at e; cases e
    | true =>
      rw [hst, if_pos rfl] at e
      unfold bf at e
      cases hq : tip w h (t / 8) d with
      | none => rw [hq] at e; cases e
      | some q =>
        rw [hq] at e
        have e : (if snd w h K (t % 8) q = true then some (8 * q + ((t % 8) ^^^ tda K q)) else none) = some s := e
        have hx := xor8 (Nat.mod_lt t (show 0 < 8 by decide)) (tda_8 (K := K) (p := q) (b7 _))
        cases hsn : snd w h K (t % 8) q with
        | false => rw [hsn] at e; cases e
        | true =>
          rw [hsn, if_pos rfl] at e
          have e : 8 * q + ((t % 8) ^^^ tda K q) = s := by cases e; rfl
          obtain ⟨_, hq3, hv⟩ := (tip_f b1 b2 b3 b4 (show t / 8 < 3 * (w * h) by omega) hd).1 q hq
          have hv : tip w h q ((d + 2) % 4) = some (t / 8) := by
            rcases hv with hv | ⟨z1, z2⟩ | ⟨z1, z2⟩
            · exact hv
            · unfold sd at hst; rw [snd_out z1 z2] at hst; cases hst
            · rw [snd_out z1 z2] at hsn; cases hsn
          have s8 : s / 8 = q := by omega
          have sx : (s % 8) ^^^ tda K q = t % 8 := by rw [show s % 8 = (t % 8) ^^^ tda K q by omega, Nat.xor_assoc, Nat.xor_self, Nat.xor_zero]
          refine ⟨(d + 2) % 4, Nat.mod_lt _ (by decide), ?_⟩
          unfold bk
          rw [s8, sx, hv]
          show (if snd w h K (t % 8) (t / 8) = true then some (8 * (t / 8) + t % 8) else none) = some t
          rw [show snd w h K (t % 8) (t / 8) = true from hst, if_pos rfl, show 8 * (t / 8) + t % 8 = t by omega]
theorem p_sb9 (hB : Bd w h g n K M rw_ rs) (hC : Rc w h g n K M rw_ rs size on kinds marks nb plen rowW rowS) {N c : Nat} (y : AR) (hN : 1000 < N) (hc : c < w * h) (hS : SrT a0 y) : ∃ y2, f_X1_spreadBack_l9 (nI c) size kinds nb N (0, y) = some y2 ∧ ∃ S, SrT S y2 ∧ BI (bk w h K) (24 * (w * h)) S.1 0 S ∧ ∀ s, S.2.2.1 s ≠ none ↔ (s / 8 = 3 * c ∧ s % 8 < 8 ∧ snd w h K (s % 8) (3 * c) = true) := by
  have w1 := wh25 hB.2.1 hB.2.2.2.1
  refine lp_ex (b := fun rec z => f_X1_spreadBack_b9 (nI c) size kinds nb rec z.1 z.2.1 z.2.2.1 z.2.2.2.1 z.2.2.2.2.1 z.2.2.2.2.2.1 z.2.2.2.2.2.2) (fun m (x : Int32 × AR) => ∃ j S, m + j = 8 ∧ x.1 = nI j ∧ SrT S x.2 ∧ BI (bk w h K) (24 * (w * h)) S.1 0 S ∧ ∀ s, S.2.2.1 s ≠ none ↔ (s / 8 = 3 * c ∧ s % 8 < j ∧ snd w h K (s % 8) (3 * c) = true)) (fun y2 => ∃ S, SrT S y2 ∧ BI (bk w h K) (24 * (w * h)) S.1 0 S ∧ ∀ s, S.2.2.1 s ≠ none ↔ (s / 8 = 3 * c ∧ s % 8 < 8 ∧ snd w h K (s % 8) (3 * c) = true)) ?_ N 8 (0, y) ⟨0, a0, rfl, rfl, hS, BI_0 _ _, fun s => ⟨fun z => absurd rfl z, fun z => absurd z.2.1 (Nat.not_lt_zero _)⟩⟩ (by omega)
  rintro m ⟨x2, y1⟩ ⟨j, S, hm1, hx, h1, h2, h3⟩ rec hrec
  have hx : x2 = nI j := hx
  subst hx
  have h1 : SrT S y1 := h1
  show ∃ y, f_X1_spreadBack_b9 (nI c) size kinds nb rec (nI j) y1.1 y1.2.1 y1.2.2.1 y1.2.2.2.1 y1.2.2.2.2.1 y1.2.2.2.2.2 = some y ∧ _
  unfold f_X1_spreadBack_b9 f_X0_standingOn f_X0_at
  by_cases e : j = 8
  · subst e
    rw [if_pos (by decide)]
    exact ⟨_, rfl, S, h1, h2, h3⟩
  · rw [if_neg (show ¬ (8 : Int32) ≤ nI j from nI_ge (show j < 8 by omega) (by decide)), Option.bind_some, Option.bind_some, show (3 : Int32) * nI c = nI (3 * c) by rw [li 3, pk_mul], p_isSound hB hC (show j < 8 by omega) (show 3 * c < 3 * (w * h) by omega), Option.bind_some, Option.bind_some, at8, nI_1]
    cases hsn : snd w h K j (3 * c) with
    | false =>
      rw [if_pos (show bI false = 0 from rfl)]
      refine hrec (m - 1) _ (by omega) ⟨j + 1, S, by omega, rfl, h1, h2, fun s => (h3 s).trans ⟨fun z => ⟨z.1, by omega, z.2.2⟩, fun z => ⟨z.1, ?_, z.2.2⟩⟩⟩
      refine Nat.lt_of_le_of_ne (by omega) (fun q => ?_)
      have := z.2.2
      rw [q, hsn] at this; cases this
    | true =>
      rw [if_neg (show ¬ bI true = 0 by decide)]
      have hn : S.2.2.1 (8 * (3 * c) + j) = none := by
        cases q : S.2.2.1 (8 * (3 * c) + j) with
        | none => rfl
        | some v =>
          have := ((h3 _).mp (some_ne q)).2.1
          omega
      obtain ⟨y2, q1, q2⟩ := p_enter h1 (s := 8 * (3 * c) + j) (by omega) hn
      rw [q1, Option.bind_some]
      refine hrec (m - 1) _ (by omega) ⟨j + 1, aent (8 * (3 * c) + j) S, by omega, rfl, q2, BI_ent h2 (by omega) hn, fun s => ?_⟩
      show (if s = 8 * (3 * c) + j then some 0 else S.2.2.1 s) ≠ none ↔ _
      by_cases es : s = 8 * (3 * c) + j
      · rw [if_pos es]
        refine ⟨fun _ => ⟨by omega, by omega, ?_⟩, fun _ => some_ne rfl⟩
        rw [show s % 8 = j by omega]; exact hsn
      · rw [if_neg es]
        exact (h3 s).trans ⟨fun z => ⟨z.1, by omega, z.2.2⟩, fun z => ⟨z.1, by omega, z.2.2⟩⟩
theorem p_spreadBack (hB : Bd w h g n K M rw_ rs) (hC : Rc w h g n K M rw_ rs size on kinds marks nb plen rowW rowS) {N c : Nat} (y : AR) (hN : 1000 < N) (hc : c < w * h) : ∃ y2 S r0, f_X1_spreadBack N (nI c) size kinds nb y.1 y.2.1 y.2.2.1 y.2.2.2.1 y.2.2.2.2.1 y.2.2.2.2.2 = some y2 ∧ SrT S y2 ∧ BI (bk w h K) (24 * (w * h)) r0 (4 * S.1) S ∧ ∀ s, s < 24 * (w * h) → ((∃ i, i < r0 ∧ S.2.1 i = s) ↔ hm w h K c s = true) := by
  have w1 := wh25 hB.2.1 hB.2.2.2.1
  obtain ⟨f1, f2⟩ := p_forget (N := N) (y := y) (by omega)
  obtain ⟨y1, q1, S1, q2, q3, q4⟩ := p_sb9 hB hC (N := N) (c := c) (0, fil (-1) 600 y.2.1, y.2.2) hN hc f2
  obtain ⟨y2, z1, S, z2, z3, z4, z5⟩ := p_spread (A := bk w h K) (M := 24 * (w * h)) (af := fun a b => f_X0_after_23 a b size kinds nb) (by omega) (fun s d hs hd => ⟨p_bback hB hC hs hd, fun t ht => bk_lt hB hs hd ht⟩) hN q3 q2
  refine ⟨y2, S, S1.1, ?_, z2, z3, fun s hs => ?_⟩
  · unfold f_X1_spreadBack
    rw [f1, Option.bind_some]
    rw [show f_X1_spreadBack_l9 (nI c) size kinds nb N (0, ((0 : Int32), fil (-1) 600 y.2.1).1, ((0 : Int32), fil (-1) 600 y.2.1).2, y.2.2.1, y.2.2.2.1, y.2.2.2.2.1, y.2.2.2.2.2) = some y1 from q1, Option.bind_some, gsp_23, z1]
    rfl
  · have e1 : (∃ i, i < S1.1 ∧ S.2.1 i = s) ↔ S1.2.2.1 s ≠ none := ⟨fun ⟨i, hi, e⟩ => by rw [← e, z5 i hi]; exact (q3.2.1 i hi).2, fun z => by
      obtain ⟨i, hi, e⟩ := q3.2.2.1 s z
      exact ⟨i, hi, by rw [z5 i hi]; exact e⟩⟩
    refine e1.trans ((q4 s).trans ⟨fun z => ?_, fun z => ?_⟩)
    · unfold hm sd
      rw [z.1, beq_self_eq_true, Bool.true_and]; exact z.2.2
    · obtain ⟨a1, a2⟩ := Bool.and_eq_true_iff.mp z
      have a1 := beq_iff_eq.mp a1
      unfold sd at a2
      rw [a1] at a2
      exact ⟨a1, Nat.mod_lt _ (by decide), a2⟩
theorem wh_D (hB : Bd w h g n K M rw_ rs) {c : Nat} {src : Nat → Prop} {D : Nat → Option Nat} {V : Nat → Nat} (hD : IsD (24 * (w * h)) src (RA (bk w h K)) D) (hsrc : ∀ s, s < 24 * (w * h) → (src s ↔ hm w h K c s = true)) (hI : RI (bl w h K) (fun _ => 1) (24 * (w * h)) (fun t => decide (t < 24 * (w * h)) && hm w h K c t) V) (hX : RX (bl w h K) (fun _ => 1) (24 * (w * h)) V) (hD6 : ∀ s v, D s = some v → v < 600) : ∀ t, t < 24 * (w * h) → (D t = none ∧ V t = FAR) ∨ ∃ v, v < 600 ∧ D t = some v ∧ V t = v := by
  have hsd : ∀ s, s < 24 * (w * h) → D s ≠ none → sd w h K s = true := fun s hs e => by
    obtain ⟨k, ek⟩ := Option.ne_none_iff_exists'.mp e
    cases k with
    | zero => exact (Bool.and_eq_true_iff.mp ((hsrc s hs).mp ((hD.1 s hs).mp ek))).2
    | succ k =>
      obtain ⟨u, hu, _, d, hd, ha⟩ := hD.2.2 s k hs ek
      exact bk_sd hB hu hd ha
  have h1 : ∀ k t, t < 24 * (w * h) → D t = some k → V t ≤ k := by
    intro k
    induction k with
    | zero =>
      intro t ht e
      have := hI.2.2 t ht (by
        show (decide (t < 24 * (w * h)) && hm w h K c t) = true
        rw [decide_eq_true ht]; exact (hsrc t ht).mp ((hD.1 t ht).mp e))
      omega
    | succ k ih =>
      intro t ht e
      obtain ⟨u, hu, e1, hR⟩ := hD.2.2 t k ht e
      have h2 := ih u hu e1
      obtain ⟨d, hd, ha⟩ := (bk_bl hB hu ht (hsd u hu (some_ne e1))).mp hR
      have h3 : V t ≤ V u + 1 := hX t d u ht hd ha
      omega
  have h2 : ∀ k x t q, t < 24 * (w * h) → hm w h K c q = true → wk (bl w h K) (fun _ => 1) k x t q → ∃ m, m ≤ k ∧ D t = some m := by
    intro k
    induction k with
    | zero =>
      intro x t q ht hq hw
      have e := hw.2
      rw [← e] at hq
      exact ⟨0, Nat.le_refl _, (hD.1 t ht).mpr ((hsrc t ht).mpr hq)⟩
    | succ k ih =>
      intro x t q ht hq hw
      obtain ⟨u, d, y, hd, ha, hw, _⟩ := hw
      have hu := bl_b hB t d ht hd u ha
      obtain ⟨m, hmk, e⟩ := ih y u q hu hq hw
      obtain ⟨m2, hm2, e2⟩ := hD.2.1 u t m hu ht e ((bk_bl hB hu ht (hsd u hu (some_ne e))).mpr ⟨d, hd, ha⟩)
      exact ⟨m2, by omega, e2⟩
  intro t ht
  cases e : D t with
  | none =>
    refine Or.inl ⟨rfl, Nat.le_antisymm (hI.1 t ht) (Nat.le_of_not_lt (fun z => ?_))⟩
    obtain ⟨k, q, hq, hw⟩ := hI.2.1 t ht z
    obtain ⟨m, _, e2⟩ := h2 k _ t q ht (Bool.and_eq_true_iff.mp hq).2 hw
    rw [e] at e2; cases e2
  | some v =>
    have v6 := hD6 t v e
    have hv := h1 v t ht e
    refine Or.inr ⟨v, v6, rfl, Nat.le_antisymm hv ?_⟩
    obtain ⟨k, q, hq, hw⟩ := hI.2.1 t ht (by unfold FAR; omega)
    obtain ⟨m, hmk, e2⟩ := h2 k _ t q ht (Bool.and_eq_true_iff.mp hq).2 hw
    rw [e] at e2
    cases e2
    have := wk_1 _ _ _ _ hw
    omega
theorem p_dh {S : AS} {y : AR} {k : Nat} (hS : SrT S y) (hon : on = nI g) (hk : 8 * k + g < 600) : f_X1_distanceHome (nI k) on y.2.1 = some (en (S.2.2.1 (8 * k + g))) := by
  unfold f_X1_distanceHome f_X2_groupsOn f_X0_at
  rw [Option.bind_some, Option.bind_some, hon, at8, p_distTo hS hk, Option.bind_some]
theorem p_wh9 (hB : Bd w h g n K M rw_ rs) (hC : Rc w h g n K M rw_ rs size on kinds marks nb plen rowW rowS) {N : Nat} {S : AS} {y : AR} (hS : SrT S y) (hN : 1000 < N) : f_X1_placesWhence_l9 size on y.2.1 N (0, 0) = some (nI (ctn (fun k => (S.2.2.1 (8 * k + g)).isSome) (3 * (w * h)))) := by
  have w1 := wh25 hB.2.1 hB.2.2.2.1
  have b5 := hB.2.2.2.2.1
  have hz := hC.1
  have e3 : 3 * nI (w * h) = nI (3 * (w * h)) := by rw [li 3, pk_mul]
  refine lp_cnt (b := fun rec z => f_X1_placesWhence_b9 size on y.2.1 rec z.1 z.2) (fun k => (S.2.2.1 (8 * k + g)).isSome) (3 * (w * h)) (fun i c rec hi => ?_) (fun c rec => ?_) N (by omega)
  · show f_X1_placesWhence_b9 size on y.2.1 rec (nI c) (nI i) = _
    unfold f_X1_placesWhence_b9 f_X1_allPlaces f_X2_size f_X1_placesWhence_j32
    rw [hz, Option.bind_some, Option.bind_some, e3, if_neg (nI_ge hi (by omega)), p_dh hS hC.2.1 (show 8 * i + g < 600 by omega), Option.bind_some, nI_1]
    cases e : S.2.2.1 (8 * i + g) with
    | none => rw [if_pos (show en none = -1 from rfl)]; rfl
    | some v =>
      have := Sr_d6 hS _ _ e
      rw [if_neg (show ¬ en (some v) = -1 from nI_m1 (by omega))]; rfl
  · show f_X1_placesWhence_b9 size on y.2.1 rec (nI c) (nI (3 * (w * h))) = _
    unfold f_X1_placesWhence_b9 f_X1_allPlaces f_X2_size
    rw [hz, Option.bind_some, Option.bind_some, e3, if_pos (Int32.le_refl _)]
theorem p_fp13 (hB : Bd w h g n K M rw_ rs) (hC : Rc w h g n K M rw_ rs size on kinds marks nb plen rowW rowS) {N : Nat} {S : AS} {y : AR} (hS : SrT S y) (hN : 1000 < N) : f_X1_farthestPlace_l13 size on y.2.1 N ((-9), (-1), 0) = some (fb (fw (fun k => S.2.2.1 (8 * k + g)) (3 * (w * h)))) := by
  have w1 := wh25 hB.2.1 hB.2.2.2.1
  have b5 := hB.2.2.2.2.1
  have hz := hC.1
  have e3 : 3 * nI (w * h) = nI (3 * (w * h)) := by rw [li 3, pk_mul]
  have h6 := fw_6 (F := fun k => S.2.2.1 (8 * k + g)) (fun k v e => Sr_d6 hS _ v e)
  refine lp_run (b := fun rec z => f_X1_farthestPlace_b13 size on y.2.1 rec z.1 z.2.1 z.2.2) (fun k => (fb (fw (fun k => S.2.2.1 (8 * k + g)) k), fm (fw (fun k => S.2.2.1 (8 * k + g)) k), nI k)) (3 * (w * h)) (fun i hi rec => ?_) (fun rec => ?_) N (by omega)
  · show f_X1_farthestPlace_b13 size on y.2.1 rec (fb (fw (fun k => S.2.2.1 (8 * k + g)) i)) (fm (fw (fun k => S.2.2.1 (8 * k + g)) i)) (nI i) = rec (fb (fw (fun k => S.2.2.1 (8 * k + g)) (i + 1)), fm (fw (fun k => S.2.2.1 (8 * k + g)) (i + 1)), nI (i + 1))
    unfold f_X1_farthestPlace_b13 f_X1_allPlaces f_X2_size
    rw [hz, Option.bind_some, Option.bind_some, e3, if_neg (nI_ge hi (by omega)), p_dh hS hC.2.1 (show 8 * i + g < 600 by omega), Option.bind_some, Option.bind_some, nI_1]
    cases e : S.2.2.1 (8 * i + g) with
    | none => rw [if_pos (m1_le (h6 i)), fw_n (F := fun k => S.2.2.1 (8 * k + g)) e]
    | some v =>
      have hv := Sr_d6 hS _ _ e
      cases e2 : fw (fun k => S.2.2.1 (8 * k + g)) i with
      | none => rw [if_neg (show ¬ en (some v) ≤ fm none from nle_m1 (by omega)), fw_0 (F := fun k => S.2.2.1 (8 * k + g)) e e2]; rfl
      | some q =>
        have hq := h6 i q e2
        rw [fw_s (F := fun k => S.2.2.1 (8 * k + g)) e e2]
        by_cases z : v ≤ q.2
        · rw [if_pos (show en (some v) ≤ fm (some q) from nI_le z (by omega)), if_pos z]
        · rw [if_neg (show ¬ en (some v) ≤ fm (some q) from nI_ge (by omega) (by omega)), if_neg z]; rfl
  · show f_X1_farthestPlace_b13 size on y.2.1 rec (fb (fw (fun k => S.2.2.1 (8 * k + g)) (3 * (w * h)))) (fm (fw (fun k => S.2.2.1 (8 * k + g)) (3 * (w * h)))) (nI (3 * (w * h))) = _
    unfold f_X1_farthestPlace_b13 f_X1_allPlaces f_X2_size
    rw [hz, Option.bind_some, Option.bind_some, e3, if_pos (Int32.le_refl _)]
theorem m_wh27 (hB : Bd w h g n K M rw_ rs) (hM : Rm w h g n K M rw_ rs wide tall groups rowMany top east south rolled kind mark rowWay rowSeen) {N : Nat} {x2 : Int32} {F : Nat → Option Nat} {V : Nat → Nat} {z : Nat → Int32} (hN : 1000 < N) (hz : ∀ t, t < 24 * (w * h) → z t = nI (V t)) (hF : ∀ k, k < 3 * (w * h) → (F k = none ∧ V (8 * k + g) = FAR) ∨ ∃ v, v < 600 ∧ F k = some v ∧ V (8 * k + g) = v) (hF6 : ∀ k v, F k = some v → v < 600) : f_X11_whence_l27 x2 wide tall groups z N (0, (-9), (-1), 0) = some (nI (ctn (fun k => (F k).isSome) (3 * (w * h))), fb (fw F (3 * (w * h)))) := by
  have w1 := wh25 hB.2.1 hB.2.2.2.1
  have b5 := hB.2.2.2.2.1
  have m1 : wide = nI w := hM.1
  have m2 : tall = nI h := hM.2.1
  have m3 : groups = nI g := hM.2.2.1
  have e3 : 3 * (wide * tall) = nI (3 * (w * h)) := by rw [m1, m2, pk_mul, li 3, pk_mul]
  have h6 := fw_6 hF6
  refine lp_run (b := fun rec z2 => f_X11_whence_b27 x2 wide tall groups z rec z2.1 z2.2.1 z2.2.2.1 z2.2.2.2) (fun k => (nI (ctn (fun k => (F k).isSome) k), fb (fw F k), fm (fw F k), nI k)) (3 * (w * h)) (fun i hi rec => ?_) (fun rec => ?_) N (by omega)
  · show f_X11_whence_b27 x2 wide tall groups z rec (nI (ctn (fun k => (F k).isSome) i)) (fb (fw F i)) (fm (fw F i)) (nI i) = rec (nI (ctn (fun k => (F k).isSome) i + if (F i).isSome then 1 else 0), fb (fw F (i + 1)), fm (fw F (i + 1)), nI (i + 1))
    unfold f_X11_whence_b27 f_X11_cells
    rw [Option.bind_some, e3, if_neg (nI_ge hi (by omega)), m3, at8, rdn (show 8 * i + g < 600 by omega) (by decide), Option.bind_some, cln (by omega), hz _ (by omega)]
    unfold f_X11_whence_j68 f_X11_whence_j91
    simp only [nI_1]
    rcases hF i hi with ⟨e, eV⟩ | ⟨v, hv, e, eV⟩
    · rw [eV, if_pos (show (100000000 : Int32) ≤ nI FAR from Int32.le_refl _), if_pos (show (100000000 : Int32) ≤ nI FAR from Int32.le_refl _), if_pos (show (100000000 : Int32) ≤ nI FAR from Int32.le_refl _), fw_n e, e]
      show rec (nI (ctn (fun k => (F k).isSome) i) + nI 0, _) = _
      rw [nI_add]; rfl
    · have hv8 : ¬ (100000000 : Int32) ≤ nI v := nI_ge (b := 100000000) (by omega) (by decide)
      rw [eV, if_neg hv8, if_neg hv8, e]
      show _ = rec (nI (ctn (fun k => (F k).isSome) i + 1), fb (fw F (i + 1)), fm (fw F (i + 1)), nI (i + 1))
      cases e2 : fw F i with
      | none =>
        have hc : ¬ nI v ≤ fm none := nle_m1 (by omega)
        rw [if_neg hc, if_neg hv8, if_neg hc, fw_0 e e2]; rfl
      | some q =>
        have hq := h6 i q e2
        rw [fw_s e e2]
        by_cases c : v ≤ q.2
        · have hc : nI v ≤ fm (some q) := nI_le c (by omega)
          rw [if_pos hc, if_neg hv8, if_pos hc, if_pos c]
        · have hc : ¬ nI v ≤ fm (some q) := nI_ge (show q.2 < v by omega) (by omega)
          rw [if_neg hc, if_neg hv8, if_neg hc, if_neg c]; rfl
  · show f_X11_whence_b27 x2 wide tall groups z rec (nI (ctn (fun k => (F k).isSome) (3 * (w * h)))) (fb (fw F (3 * (w * h)))) (fm (fw F (3 * (w * h)))) (nI (3 * (w * h))) = _
    unfold f_X11_whence_b27 f_X11_cells
    rw [Option.bind_some, e3, if_pos (Int32.le_refl _)]
end WH
theorem s_whence (N : Nat) (hN : NB ≤ N) {size : Int32} {on : Int32} {kinds : Nat → Int32} {marks : Nat → Int32} {nb : Nat → Int32} {reached : Int32} {dist : Nat → Int32} {lastW : Nat → Int32} {par : Nat → Int32} {ord : Nat → Int32} {paths : Nat → Int64} {plen : Int32} {rowW : Nat → Int32} {rowS : Nat → Int32} {wide : Int32} {tall : Int32} {groups : Int32} {rowMany : Int32} {top : Nat → Int32} {east : Nat → Int32} {south : Nat → Int32} {rolled : Nat → Int32} {kind : Nat → Int32} {mark : Nat → Int32} {rowWay : Nat → Int32} {rowSeen : Nat → Int32} {homeward : Nat → Int32} (hR : Rl size on kinds marks nb plen rowW rowS wide tall groups rowMany top east south rolled kind mark rowWay rowSeen) (y1 : Int32) (y2 : Int32) (hz2 : y2 = 0 ∨ y2 = 1) : ∃ (r : Int32) (oc : Int32 × (Nat → Int32) × (Nat → Int32) × (Nat → Int32) × (Nat → Int32) × (Nat → Int64)) (om : (Nat → Int32)), f_X10_whence N y1 y2 size on kinds nb reached dist lastW par ord paths = some (r, oc) ∧ f_X11_whence N y1 y2 wide tall groups kind homeward = some (r, om) ∧ Rl size on kinds marks nb plen rowW rowS wide tall groups rowMany top east south rolled kind mark rowWay rowSeen := by
  obtain ⟨w, h, g, n, K, M, rw_, rs, hB, hC, hM⟩ := id hR
  obtain ⟨b1, b2, b3, b4, b5, b6, b7, b8, b9, b10⟩ := id hB
  obtain ⟨rfl, rfl, c3, c4, c5, rfl, c7, c8⟩ := id hC
  obtain ⟨rfl, rfl, rfl, rfl, m5, m6, m7, m8, m9, m10⟩ := id hM
  have w1 := wh25 b2 b4
  have w2 := wh4 b1 b3
  have hNB : 1000000000000 ≤ N := hN
  unfold f_X10_whence f_X11_whence
  rw [p_has y1 (by omega), m_isCell y1 (by omega) (by omega)]
  simp only [Option.bind_some, bI_0]
  cases hb : inb y1 (w * h) with
  | false => exact ⟨-1, _, _, rfl, rfl, hR⟩
  | true =>
    obtain ⟨c, hc, rfl⟩ := inb_of hb (by omega)
    simp only [Bool.true_eq_false, if_false]
    obtain ⟨yy, S, r0, q1, q2, q3, q4⟩ := p_spreadBack hB hC (N := N) (c := c) (reached, dist, lastW, par, ord, paths) (by omega) hc
    obtain ⟨z, z1, V, z2, z3, z4⟩ := m_layHome hB hM (N := N) (c := c) (homeward := homeward) hNB (by omega)
    have hD := wh_D hB (BI_isD q3) q4 z3 z4 (Sr_d6 q2)
    rw [z1, Option.bind_some, m_wh27 hB hM (F := fun k => S.2.2.1 (8 * k + g)) (by omega) z2 (fun k hk => hD _ (by omega)) (fun k v e => Sr_d6 q2 _ v e), Option.bind_some]
    unfold f_X1_placesWhence f_X1_farthestPlace
    rw [show f_X1_spreadBack N (nI c) (nI (w * h)) kinds nb reached dist lastW par ord paths = some yy from q1, Option.bind_some, Option.bind_some, p_wh9 hB hC q2 (by omega), p_fp13 hB hC q2 (by omega), Option.bind_some, Option.bind_some]
    rcases hz2 with rfl | rfl
    · exact ⟨_, _, _, rfl, rfl, hR⟩
    · exact ⟨_, _, _, rfl, rfl, hR⟩
