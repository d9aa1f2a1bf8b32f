/-! spread: the loop does the events one after the other until the order is used up -/
theorem lp_ex {α β : Type} {b : (α → Option β) → α → Option β} (P : Nat → α → Prop) (Q : β → Prop) (hs : ∀ m x, P m x → ∀ rec, (∀ m' x', m' < m → P m' x' → ∃ y, rec x' = some y ∧ Q y) → ∃ y, b rec x = some y ∧ Q y) : ∀ N m x, P m x → m < N → ∃ y, nx_lp b N x = some y ∧ Q y := by
  intro N
  induction N with
  | zero => exact fun m x _ h => absurd h (Nat.not_lt_zero m)
  | succ N ih => exact fun m x hP h => hs m x hP (nx_lp b N) (fun m' x' hm hP' => ih m' x' hP' (by omega))
abbrev AR : Type := Int32 × (Nat → Int32) × (Nat → Int32) × (Nat → Int32) × (Nat → Int32) × (Nat → Int64)
def SrT (S : AS) (y : AR) : Prop := Sr S y.1 y.2.1 y.2.2.1 y.2.2.2.1 y.2.2.2.2.1 y.2.2.2.2.2
def g27 (af : Int32 → Int32 → Option Int32) (x3 : Int32) (rec : (Int32 × AR) → Option AR) (x4 reached : Int32) (dist lastW par ord : Nat → Int32) (paths : Nat → Int64) : Option AR :=
  if 4 ≤ x4 then (some (reached, dist, lastW, par, ord, paths)) else ((af x3 x4).bind fun r_2 => (f_X8_meet x3 x4 r_2 reached dist lastW par ord paths).bind fun t_10 => rec ((x4 + 1), t_10.1, t_10.2.1, t_10.2.2.1, t_10.2.2.2.1, t_10.2.2.2.2.1, t_10.2.2.2.2.2))
def gl27 (af : Int32 → Int32 → Option Int32) (x3 : Int32) : Nat → (Int32 × AR) → Option AR := nx_lp (fun rec z => g27 af x3 rec z.1 z.2.1 z.2.2.1 z.2.2.2.1 z.2.2.2.2.1 z.2.2.2.2.2.1 z.2.2.2.2.2.2)
def g2 (af : Int32 → Int32 → Option Int32) (N : Nat) (rec : (Int32 × AR) → Option AR) (x2 reached : Int32) (dist lastW par ord : Nat → Int32) (paths : Nat → Int64) : Option AR :=
  if reached ≤ x2 then (some (reached, dist, lastW, par, ord, paths)) else (if 600 ≤ x2 then (some (reached, dist, lastW, par, ord, paths)) else ((nx_rd ord 600 x2).bind fun _ => (gl27 af (ord x2.toNatClampNeg) N (0, reached, dist, lastW, par, ord, paths)).bind fun z_13 => rec ((x2 + 1), z_13.1, z_13.2.1, z_13.2.2.1, z_13.2.2.2.1, z_13.2.2.2.2.1, z_13.2.2.2.2.2)))
def gl2 (af : Int32 → Int32 → Option Int32) (N : Nat) : Nat → (Int32 × AR) → Option AR := nx_lp (fun rec z => g2 af N rec z.1 z.2.1 z.2.2.1 z.2.2.2.1 z.2.2.2.2.1 z.2.2.2.2.2.1 z.2.2.2.2.2.2)
def gsp (af : Int32 → Int32 → Option Int32) (N : Nat) (reached : Int32) (dist lastW par ord : Nat → Int32) (paths : Nat → Int64) : Option AR :=
  (gl2 af N N (0, reached, dist, lastW, par, ord, paths)).bind fun z_15 => some (z_15.1, z_15.2.1, z_15.2.2.1, z_15.2.2.2.1, z_15.2.2.2.2.1, z_15.2.2.2.2.2)
theorem gsp_5 {N : Nat} : f_X8_spread_r5 N = gsp f_X3_after N := rfl
theorem gsp_12 {N : Nat} {size on : Int32} {kinds marks nb : Nat → Int32} : f_X8_spread_r12 N size on kinds marks nb = gsp (fun a b => f_X4_after a b size on kinds marks nb) N := rfl
theorem gsp_22 {N : Nat} {size : Int32} {kinds nb : Nat → Int32} : f_X8_spread_r22 N size kinds nb = gsp (fun a b => f_X0_after_22 a b size kinds nb) N := rfl
theorem gsp_23 {N : Nat} {size : Int32} {kinds nb : Nat → Int32} : f_X8_spread_r23 N size kinds nb = gsp (fun a b => f_X0_after_23 a b size kinds nb) N := rfl
theorem amt_le (f d : Nat) (o : Option Nat) (S : AS) : S.1 ≤ (amt f d o S).1 ∧ ∀ i, i < S.1 → (amt f d o S).2.1 i = S.2.1 i := by
  have h1 : ∀ t, S.1 ≤ (anew f d t S).1 ∧ ∀ i, i < S.1 → (anew f d t S).2.1 i = S.2.1 i := fun t => by
    unfold anew
    split
    · refine ⟨by show S.1 ≤ S.1 + 1; omega, fun i hi => ?_⟩
      show (if i = S.1 then t else S.2.1 i) = _
      rw [if_neg (by omega)]
    · exact ⟨Nat.le_refl _, fun _ _ => rfl⟩
  cases o with
  | none => exact ⟨Nat.le_refl _, fun _ _ => rfl⟩
  | some t =>
    unfold amt
    dsimp only
    split
    · exact h1 t
    · exact h1 t
section SP
variable {A : Nat → Nat → Option Nat} {M r0 : Nat} {af : Int32 → Int32 → Option Int32}
theorem p_in4 (hM : M ≤ 600) (hA : ∀ s d, s < M → d < 4 → af (nI s) (nI d) = some (en (A s d)) ∧ ∀ t, A s d = some t → t < M) {N k f : Nat} {S : AS} {y : AR} (hN : 4 < N) (hB : BI A M r0 (4 * k) S) (hk : k < S.1) (hf : S.2.1 k = f) (hS : SrT S y) : ∃ y2, gl27 af (nI f) N (0, y) = some y2 ∧ ∃ S2, SrT S2 y2 ∧ BI A M r0 (4 * (k + 1)) S2 ∧ S.1 ≤ S2.1 ∧ ∀ i, i < S.1 → S2.2.1 i = S.2.1 i := by
  refine lp_ex (fun m (x : Int32 × AR) => ∃ d S1, m + d = 4 ∧ x.1 = nI d ∧ SrT S1 x.2 ∧ BI A M r0 (4 * k + d) S1 ∧ S.1 ≤ S1.1 ∧ (∀ i, i < S.1 → S1.2.1 i = S.2.1 i) ∧ S1.2.1 k = f) (fun y2 => ∃ S2, SrT S2 y2 ∧ BI A M r0 (4 * (k + 1)) S2 ∧ S.1 ≤ S2.1 ∧ ∀ i, i < S.1 → S2.2.1 i = S.2.1 i) ?_ N 4 (0, y) ⟨0, S, rfl, rfl, hS, hB, Nat.le_refl _, fun _ _ => rfl, hf⟩ hN
  rintro m ⟨x4, y1⟩ ⟨d, S1, hm, hx, h1, h2, h3, h5, h4⟩ rec hrec
  have hx : x4 = nI d := hx
  subst hx
  show ∃ y, g27 af (nI f) rec (nI d) y1.1 y1.2.1 y1.2.2.1 y1.2.2.2.1 y1.2.2.2.2.1 y1.2.2.2.2.2 = some y ∧ _
  unfold g27
  by_cases e : d = 4
  · subst e
    rw [if_pos (by decide)]
    exact ⟨_, rfl, S1, h1, h2, h3, h5⟩
  · rw [if_neg (show ¬ (4 : Int32) ≤ nI d from nI_ge (show d < 4 by omega) (by decide))]
    have hfM : f < M := by rw [← h4]; exact (h2.2.1 k (by omega)).1
    obtain ⟨a1, a2⟩ := hA f d hfM (by omega)
    rw [a1, Option.bind_some]
    have e1 : (4 * k + d) / 4 = k := by omega
    have e2 : (4 * k + d) % 4 = d := by omega
    have hst := BI_step h2 (by rw [e1]; omega) (by rw [e1, e2, h4]; exact a2)
    rw [e1, e2, h4] at hst
    obtain ⟨v, hv⟩ := Option.ne_none_iff_exists'.mp (h2.2.1 k (by omega)).2
    rw [h4] at hv
    obtain ⟨r2, d2, l2, p2, o2, c2, q1, q2⟩ := p_meet h1 (f := f) (d := d) (to := A f d) (by omega) hv (fun t ht => by have := a2 t ht; omega)
    rw [q1, Option.bind_some, nI_1]
    have hle := amt_le f d (A f d) S1
    exact hrec (m - 1) _ (by omega) ⟨d + 1, amt f d (A f d) S1, by omega, rfl, q2, hst, by omega, fun i hi => by rw [hle.2 i (by omega)]; exact h5 i hi, by rw [hle.2 k (by omega)]; exact h4⟩
theorem p_spread (hM : M ≤ 600) (hA : ∀ s d, s < M → d < 4 → af (nI s) (nI d) = some (en (A s d)) ∧ ∀ t, A s d = some t → t < M) {N : Nat} {S : AS} {y : AR} (hN : 1000 < N) (hB : BI A M r0 0 S) (hS : SrT S y) : ∃ y2, gsp af N y.1 y.2.1 y.2.2.1 y.2.2.2.1 y.2.2.2.2.1 y.2.2.2.2.2 = some y2 ∧ ∃ S2, SrT S2 y2 ∧ BI A M r0 (4 * S2.1) S2 ∧ S.1 ≤ S2.1 ∧ ∀ i, i < S.1 → S2.2.1 i = S.2.1 i := by
  have hl : ∃ y2, gl2 af N N (0, y) = some y2 ∧ ∃ S2, SrT S2 y2 ∧ BI A M r0 (4 * S2.1) S2 ∧ S.1 ≤ S2.1 ∧ ∀ i, i < S.1 → S2.2.1 i = S.2.1 i := by
    refine lp_ex (fun m (x : Int32 × AR) => ∃ k S1, m + k = 600 ∧ x.1 = nI k ∧ SrT S1 x.2 ∧ BI A M r0 (4 * k) S1 ∧ k ≤ S1.1 ∧ S.1 ≤ S1.1 ∧ ∀ i, i < S.1 → S1.2.1 i = S.2.1 i) (fun y2 => ∃ S2, SrT S2 y2 ∧ BI A M r0 (4 * S2.1) S2 ∧ S.1 ≤ S2.1 ∧ ∀ i, i < S.1 → S2.2.1 i = S.2.1 i) ?_ N 600 (0, y) ⟨0, S, rfl, rfl, hS, hB, Nat.zero_le _, Nat.le_refl _, fun _ _ => rfl⟩ (by omega)
    rintro m ⟨x2, y1⟩ ⟨k, S1, hm, hx, h1, h2, h3, h4, h5⟩ rec hrec
    have hx : x2 = nI k := hx
    subst hx
    show ∃ y, g2 af N rec (nI k) y1.1 y1.2.1 y1.2.2.1 y1.2.2.2.1 y1.2.2.2.2.1 y1.2.2.2.2.2 = some y ∧ _
    unfold g2
    have h6 := Sr_600 h1
    have hr : y1.1 = nI S1.1 := h1.2.1
    rw [hr]
    by_cases e : k < S1.1
    · rw [if_neg (nI_ge e (by omega)), if_neg (show ¬ (600 : Int32) ≤ nI k from nI_ge (show k < 600 by omega) (by decide)), rdn (by omega) (by decide), Option.bind_some, cln (by omega), (h1.2.2.1 k e).1]
      obtain ⟨y2, q1, S2, q2, q3, q4, q5⟩ := p_in4 hM hA (N := N) (by omega) h2 e rfl h1
      rw [← hr]
      rw [show gl27 af (nI (S1.2.1 k)) N (0, y1.1, y1.2.1, y1.2.2.1, y1.2.2.2.1, y1.2.2.2.2.1, y1.2.2.2.2.2) = some y2 from q1, Option.bind_some, nI_1]
      exact hrec (m - 1) _ (by omega) ⟨k + 1, S2, by omega, rfl, q2, q3, by omega, by omega, fun i hi => by rw [q5 i (by omega)]; exact h5 i hi⟩
    · have ek : S1.1 = k := by omega
      rw [if_pos (by rw [ek]; exact Int32.le_refl _), ← hr]
      exact ⟨_, rfl, S1, h1, by rw [ek]; exact h2, h4, h5⟩
  obtain ⟨y2, q1, q2⟩ := hl
  refine ⟨y2, ?_, q2⟩
  unfold gsp
  rw [show gl2 af N N (0, y.1, y.2.1, y.2.2.1, y.2.2.2.1, y.2.2.2.2.1, y.2.2.2.2.2) = some y2 from q1]
  rfl
end SP
