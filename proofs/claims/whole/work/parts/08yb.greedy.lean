/-! the greedy way home is the first of the shortest -/
def okd (A : Nat → Nat → Option Nat) (V : Nat → Nat) (s d : Nat) : Bool := match A s d with
  | none => false
  | some o => V o + 1 == V s
def gdw (A : Nat → Nat → Option Nat) (V : Nat → Nat) (s : Nat) : Nat := if okd A V s 0 then 0 else if okd A V s 1 then 1 else if okd A V s 2 then 2 else 3
def gX (A : Nat → Nat → Option Nat) (V : Nat → Nat) (s0 : Nat) : Nat → Nat
  | 0 => s0
  | i + 1 => (A (gX A V s0 i) (gdw A V (gX A V s0 i))).getD 0
theorem okd_i {A : Nat → Nat → Option Nat} {V : Nat → Nat} {s d o : Nat} (h : A s d = some o) : okd A V s d = true ↔ V o + 1 = V s := by
  unfold okd; rw [h]; exact beq_iff_eq
theorem okd_o {A : Nat → Nat → Option Nat} {V : Nat → Nat} {s d : Nat} (h : okd A V s d = true) : ∃ o, A s d = some o ∧ V o + 1 = V s := by
  cases e : A s d with
  | none => unfold okd at h; rw [e] at h; cases h
  | some o => exact ⟨o, rfl, (okd_i e).mp h⟩
theorem gdw_l {A : Nat → Nat → Option Nat} {V : Nat → Nat} {s d : Nat} (hd : d < 4) (h : okd A V s d = true) : okd A V s (gdw A V s) = true ∧ gdw A V s ≤ d ∧ gdw A V s < 4 ∧ ∀ e, e < gdw A V s → okd A V s e = false := by
  have hb : ∀ b : Bool, b = true ∨ b = false := fun b => by cases b <;> simp
  unfold gdw
  rcases hb (okd A V s 0) with h0 | h0
  · rw [if_pos h0]; exact ⟨h0, by omega, by omega, fun e he => absurd he (Nat.not_lt_zero e)⟩
  · rw [if_neg (by rw [h0]; decide)]
    rcases hb (okd A V s 1) with h1 | h1
    · rw [if_pos h1]; refine ⟨h1, Nat.le_of_not_lt (fun z => ?_), by omega, fun e he => ?_⟩
      · rw [show d = 0 by omega, h0] at h; cases h
      · rw [show e = 0 by omega]; exact h0
    · rw [if_neg (by rw [h1]; decide)]
      rcases hb (okd A V s 2) with h2 | h2
      · rw [if_pos h2]; refine ⟨h2, Nat.le_of_not_lt (fun z => ?_), by omega, fun e he => ?_⟩
        · have : d = 0 ∨ d = 1 := by omega
          rcases this with q | q
          · rw [q, h0] at h; cases h
          · rw [q, h1] at h; cases h
        · have : e = 0 ∨ e = 1 := by omega
          rcases this with q | q
          · rw [q]; exact h0
          · rw [q]; exact h1
      · rw [if_neg (by rw [h2]; decide)]
        have : d = 0 ∨ d = 1 ∨ d = 2 ∨ d = 3 := by omega
        rcases this with q | q | q | q
        · rw [q, h0] at h; cases h
        · rw [q, h1] at h; cases h
        · rw [q, h2] at h; cases h
        · rw [q] at h; refine ⟨h, by omega, by omega, fun e he => ?_⟩
          have : e = 0 ∨ e = 1 ∨ e = 2 := by omega
          rcases this with q | q | q
          · rw [q]; exact h0
          · rw [q]; exact h1
          · rw [q]; exact h2
section GR
variable {A : Nat → Nat → Option Nat} {M : Nat} {G : Nat → Bool} {V : Nat → Nat} {s0 : Nat} {S : AS}
theorem gry_ok (hAM : ∀ s d, s < M → d < 4 → ∀ t, A s d = some t → t < M) (hI : RI A (fun _ => 1) M G V) (hX : RX A (fun _ => 1) M V) (hG : ∀ t, G t = true → t < M) {s : Nat} (hs : s < M) (h0 : 0 < V s) (hF : V s < FAR) : ∃ d, d < 4 ∧ okd A V s d = true := by
  obtain ⟨k, q, hq, hw⟩ := hI.2.1 s hs hF
  cases k with
  | zero => have := hw.1; omega
  | succ k =>
    obtain ⟨u, d, y, hd, ha, hw, e⟩ := hw
    have hu := hAM s d hs hd u ha
    have h1 := (wk_le hAM hX k y u q hu hw).2
    have h2 := hI.2.2 q (hG q hq) hq
    have h3 := hX s d u hs hd ha
    have e : V s = y + 1 := e
    have h3 : V s ≤ V u + 1 := h3
    exact ⟨d, hd, (okd_i ha).mpr (by omega)⟩
theorem gry_X (hAM : ∀ s d, s < M → d < 4 → ∀ t, A s d = some t → t < M) (hI : RI A (fun _ => 1) M G V) (hX : RX A (fun _ => 1) M V) (hG : ∀ t, G t = true → t < M) (hs : s0 < M) (hF : V s0 < FAR) : ∀ i, i ≤ V s0 → gX A V s0 i < M ∧ V (gX A V s0 i) + i = V s0 ∧ (i < V s0 → A (gX A V s0 i) (gdw A V (gX A V s0 i)) = some (gX A V s0 (i + 1)) ∧ gdw A V (gX A V s0 i) < 4 ∧ ∀ d, d < 4 → okd A V (gX A V s0 i) d = true → gdw A V (gX A V s0 i) ≤ d) := by
  intro i
  have hstep : ∀ i, gX A V s0 i < M → V (gX A V s0 i) + i = V s0 → i < V s0 → A (gX A V s0 i) (gdw A V (gX A V s0 i)) = some (gX A V s0 (i + 1)) ∧ gdw A V (gX A V s0 i) < 4 ∧ V (gX A V s0 (i + 1)) + 1 = V (gX A V s0 i) ∧ ∀ d, d < 4 → okd A V (gX A V s0 i) d = true → gdw A V (gX A V s0 i) ≤ d := fun i h1 h2 h3 => by
    obtain ⟨d, hd, hk⟩ := gry_ok hAM hI hX hG h1 (by omega) (by omega)
    obtain ⟨g1, g2, g3, g4⟩ := gdw_l hd hk
    obtain ⟨o, o1, o2⟩ := okd_o g1
    have e : gX A V s0 (i + 1) = o := by
      show (A (gX A V s0 i) (gdw A V (gX A V s0 i))).getD 0 = o
      rw [o1]; rfl
    rw [e]
    exact ⟨o1, g3, o2, fun d2 hd2 hk2 => (gdw_l hd2 hk2).2.1⟩
  induction i with
  | zero =>
    intro h
    refine ⟨hs, by show V s0 + 0 = V s0; omega, fun h3 => ?_⟩
    obtain ⟨a, b, c, d⟩ := hstep 0 hs (by show V s0 + 0 = V s0; omega) h3
    exact ⟨a, b, d⟩
  | succ i ih =>
    intro h
    obtain ⟨a1, a2, a3⟩ := ih (by omega)
    obtain ⟨b1, b2, b3, b4⟩ := hstep i a1 a2 (by omega)
    have c1 := hAM _ _ a1 b2 _ b1
    have c2 : V (gX A V s0 (i + 1)) + (i + 1) = V s0 := by omega
    refine ⟨c1, c2, fun h3 => ?_⟩
    obtain ⟨a, b, c, d⟩ := hstep (i + 1) c1 c2 h3
    exact ⟨a, b, d⟩
/-- the greedy way runs along the parents -/
theorem gry_P (hAM : ∀ s d, s < M → d < 4 → ∀ t, A s d = some t → t < M) (hS : DS A M s0 S) (hI : RI A (fun _ => 1) M G V) (hX : RX A (fun _ => 1) M V) (hG : ∀ t, G t = true → t < M) (hs : s0 < M) (hF : V s0 < FAR) : ∀ i, i ≤ V s0 → S.2.2.1 (gX A V s0 i) = some i ∧ (∃ p, p < S.1 ∧ S.2.1 p = gX A V s0 i ∧ ∀ j, j < S.1 → S.2.2.1 (S.2.1 j) = some i → V (S.2.1 j) + i = V s0 → p ≤ j) ∧ (0 < i → S.2.2.2.1 (gX A V s0 i) = some (gX A V s0 (i - 1), gdw A V (gX A V s0 (i - 1)))) := by
  have hD := DS_isD hS
  have hle : ∀ t n, t < M → S.2.2.1 t = some n → V s0 ≤ n + V t := fun t n ht e => by
    obtain ⟨s, hs2, hs3, x, hw⟩ := D_wk (c := fun _ => 1) hD n t ht e
    subst hs3
    have h1 := wk_1 n x s t hw
    have := (wk_le hAM hX n x s t hs2 hw).2
    omega
  intro i
  induction i with
  | zero =>
    intro _
    refine ⟨(hD.1 s0 hs).mpr rfl, ⟨0, ?_, hS.2, fun j _ _ _ => Nat.zero_le j⟩, fun z => absurd z (Nat.lt_irrefl 0)⟩
    obtain ⟨p, hp, _⟩ := hS.1.2.2.1 s0 (some_ne ((hD.1 s0 hs).mpr rfl))
    omega
  | succ i ih =>
    intro hi
    obtain ⟨d1, ⟨p, hp, ep, pm⟩, _⟩ := ih (by omega)
    obtain ⟨x1, x2, x3⟩ := gry_X hAM hI hX hG hs hF i (by omega)
    obtain ⟨x4, x5, x6⟩ := x3 (by omega)
    obtain ⟨y1, y2, _⟩ := gry_X hAM hI hX hG hs hF (i + 1) hi
    have hDt : S.2.2.1 (gX A V s0 (i + 1)) = some (i + 1) := by
      obtain ⟨m, hm, e⟩ := hD.2.1 _ _ i x1 y1 d1 ⟨_, x5, x4⟩
      have := hle _ m y1 e
      rw [e, show m = i + 1 by omega]
    have hmono := BI_mono hS.1
    obtain ⟨i1, i2, i3, i4, i5, i6, ev, i7, i8⟩ := hS.1
    have hpar : ∀ j, j < S.1 → S.2.2.1 (S.2.1 j) = some (i + 1) → V (S.2.1 j) + (i + 1) = V s0 → 1 ≤ j ∧ p ≤ ev j / 4 ∧ (ev j / 4 = p → gdw A V (gX A V s0 i) ≤ ev j % 4) := fun j hj hdj hvj => by
      have j1 : 1 ≤ j := Nat.le_of_not_lt (fun z => by rw [show j = 0 by omega, (i5 0 Nat.zero_lt_one).1] at hdj; cases hdj)
      obtain ⟨z1, z2, z3, z4, ⟨u, z5, z6⟩, z7, z8⟩ := i7 j j1 hj
      rw [hdj] at z6
      have z6 : i = u := by cases z6; rfl
      subst z6
      have hpm := (i2 (ev j / 4) (by omega)).1
      have e4 : ev j % 4 < 4 := Nat.mod_lt _ (by decide)
      have f1 : V (S.2.1 (ev j / 4)) ≤ V (S.2.1 j) + 1 := hX _ _ _ hpm e4 z4
      have f2 := hle _ _ hpm z5
      refine ⟨j1, pm _ (by omega) z5 (by omega), fun ee => ?_⟩
      rw [ee, ep] at z4 f1 f2
      exact x6 _ e4 ((okd_i z4).mpr (by omega))
    obtain ⟨q, hq, eq⟩ := i3 _ (some_ne hDt)
    obtain ⟨q1, q2, q3⟩ := hpar q hq (by rw [eq]; exact hDt) (by rw [eq]; exact y2)
    obtain ⟨z1, z2, z3, z4, z5, z7, z8⟩ := i7 q q1 hq
    have hev : ev q = 4 * p + gdw A V (gX A V s0 i) := by
      have hle2 : ev q ≤ 4 * p + gdw A V (gX A V s0 i) := Nat.le_of_not_lt (fun z => z7 _ z (by
        rw [show (4 * p + gdw A V (gX A V s0 i)) / 4 = p by omega, show (4 * p + gdw A V (gX A V s0 i)) % 4 = gdw A V (gX A V s0 i) by omega, ep, eq]; exact x4))
      have h4 : ev q / 4 = p := by omega
      have := q3 h4
      omega
    refine ⟨hDt, ⟨q, hq, eq, fun j hj hdj hvj => Nat.le_of_not_lt (fun z => ?_)⟩, fun _ => ?_⟩
    · obtain ⟨w1, w2, w3⟩ := hpar j hj hdj hvj
      have := i8 j q w1 z hq
      have h4 : ev j / 4 = p := by omega
      have := w3 h4
      omega
    · rw [eq, show ev q / 4 = p by omega, show ev q % 4 = gdw A V (gX A V s0 i) by omega, ep] at z3
      exact z3
/-- what the goal's first state and the values say of each other -/
theorem gry_E (hAM : ∀ s d, s < M → d < 4 → ∀ t, A s d = some t → t < M) (hS : DS A M s0 S) (hI : RI A (fun _ => 1) M G V) (hX : RX A (fun _ => 1) M V) (hG : ∀ t, G t = true → t < M) (hs : s0 < M) {P : Nat → Bool} (hP : ∀ t, t < M → P t = G t) {o : Option Nat} (hF : FE P S o) (hD6 : ∀ s v, S.2.2.1 s = some v → v < 600) : (o = none ∧ V s0 = FAR) ∨ (V s0 < 600 ∧ o = some (gX A V s0 (V s0)) ∧ S.2.2.1 (gX A V s0 (V s0)) = some (V s0) ∧ G (gX A V s0 (V s0)) = true) := by
  have hD := DS_isD hS
  have hVl := hI.1 s0 hs
  have hreal : V s0 < FAR → ∃ q b, G q = true ∧ q < M ∧ S.2.2.1 q = some b ∧ b ≤ V s0 := fun hf => by
    obtain ⟨k, q, hq, hw⟩ := hI.2.1 s0 hs hf
    have e := wk_1 _ _ _ _ hw
    obtain ⟨h1, b, h2, h3⟩ := wk_D hAM hD k _ s0 q 0 hs ((hD.1 s0 hs).mpr rfl) hw
    exact ⟨q, b, hq, h1, h3, by omega⟩
  rcases FE_D hS.1 hF with ⟨e, f1⟩ | ⟨x, v, e, hx, f1, f2, f3⟩
  · refine Or.inl ⟨e, Nat.le_antisymm hVl (Nat.le_of_not_lt (fun z => ?_))⟩
    obtain ⟨q, b, a1, a2, a3, _⟩ := hreal z
    have := f1 q (by rw [hP q a2]; exact a1)
    rw [this] at a3; cases a3
  · have hv6 := hD6 x v f2
    have hxG : G x = true := by rw [← hP x hx]; exact f1
    have hle : V s0 ≤ v := by
      obtain ⟨s, hs2, hs3, y, hw⟩ := D_wk (c := fun _ => 1) hD v x hx f2
      subst hs3
      have h1 := wk_1 _ _ _ _ hw
      have h2 := (wk_le hAM hX _ _ _ _ hs2 hw).2
      have := hI.2.2 x hx hxG
      omega
    have hf : V s0 < FAR := by unfold FAR; omega
    have hve : V s0 = v := by
      obtain ⟨q, b, a1, a2, a3, a4⟩ := hreal hf
      have := f3 q b (by rw [hP q a2]; exact a1) a3
      omega
    refine Or.inr ⟨by omega, ?_⟩
    obtain ⟨g1, ⟨p, hp, ep, pm⟩, _⟩ := gry_P hAM hS hI hX hG hs hf (V s0) (Nat.le_refl _)
    obtain ⟨g2, g3, _⟩ := gry_X hAM hI hX hG hs hf (V s0) (Nat.le_refl _)
    have hGx : G (gX A V s0 (V s0)) = true := by
      have hz : V (gX A V s0 (V s0)) = 0 := by omega
      obtain ⟨k, q, hq, hw⟩ := hI.2.1 _ g2 (by rw [hz]; decide)
      have := wk_1 _ _ _ _ hw
      rw [hz] at this hw
      subst this
      rw [hw.2]; exact hq
    refine ⟨?_, g1, hGx⟩
    rcases hF with ⟨e2, _⟩ | ⟨k, hk, e2, hPk, hFk⟩
    · rw [e] at e2; cases e2
    · have ek : S.2.1 k = x := by rw [e] at e2; cases e2; rfl
      have h1 : p ≤ k := pm k hk (by rw [ek, hve]; exact f2) (by rw [ek, hI.2.2 x hx hxG]; omega)
      have h2 : k ≤ p := Nat.le_of_not_lt (fun z => by
        have := hFk p z
        rw [ep, hP _ g2, hGx] at this; cases this)
      rw [e2, show k = p by omega, ep]
end GR
/-- the class's steps along the parents -/
theorem p_stepTo {S : AS} {y : AR} {N n i : Nat} {X W : Nat → Nat} (hS : SrT S y) (hN : 1000 < N) (hn : n < 600) (hX : ∀ i, i ≤ n → X i < 600 ∧ S.2.2.1 (X i) = some i ∧ (0 < i → S.2.2.2.1 (X i) = some (X (i - 1), W (i - 1)))) (hi : i < n) : f_X8_stepTo N (nI (X n)) (nI i) y.2.1 y.2.2.1 y.2.2.2.1 = some (nI (W i)) := by
  unfold f_X8_stepTo
  have hl : f_X8_stepTo_l26 (nI i) y.2.2.2.1 N (nI (X n), nI (n - 1)) = some (nI (X (i + 1))) := by
    have := lp_run (b := fun rec z => f_X8_stepTo_b26 (nI i) y.2.2.2.1 rec z.1 z.2) (fun k => (nI (X (n - k)), nI (n - 1 - k))) (n - 1 - i) (fin := nI (X (i + 1))) (fun k hk rec => ?_) (fun rec => ?_) N (by omega)
    · exact this
    · show f_X8_stepTo_b26 (nI i) y.2.2.2.1 rec (nI (X (n - k))) (nI (n - 1 - k)) = _
      unfold f_X8_stepTo_b26
      obtain ⟨h1, h2, h3⟩ := hX (n - k) (by omega)
      rw [if_neg (nI_ge (by omega) (by omega)), p_isState h1, Option.bind_some, if_neg (by decide), rdn h1 (by decide), Option.bind_some, cln (by omega), (hS.2.2.2.2.2 _ h1 (some_ne h2)).2.1, h3 (by omega)]
      show rec (nI (X (n - k - 1)), nI (n - 1 - k) + -1) = rec (nI (X (n - (k + 1))), nI (n - 1 - (k + 1)))
      rw [show n - (k + 1) = n - k - 1 by omega, show nI (n - 1 - k) + -1 = nI (n - 1 - (k + 1)) by
        rw [show n - 1 - k = (n - 1 - (k + 1)) + 1 by omega]
        exact (Int32.sub_eq_add_neg (nI _) 1).symm.trans (nI_pred _)]
    · show f_X8_stepTo_b26 (nI i) y.2.2.2.1 rec (nI (X (n - (n - 1 - i)))) (nI (n - 1 - (n - 1 - i))) = _
      unfold f_X8_stepTo_b26
      rw [show n - 1 - (n - 1 - i) = i by omega, show n - (n - 1 - i) = i + 1 by omega, if_pos (Int32.le_refl _)]
  obtain ⟨h1, h2, h3⟩ := hX n (Nat.le_refl _)
  obtain ⟨g1, g2, g3⟩ := hX (i + 1) (by omega)
  rw [p_distTo hS h1, h2, Option.bind_some, if_neg (nI_pos (by omega)), if_pos (show nI i < en (some n) from nI_lt hi (by omega)), show en (some n) - 1 = nI (n - 1) from pk_sub (b := 1) (by omega), hl, Option.bind_some, p_isState g1, Option.bind_some, if_neg (by decide), rdn g1 (by decide), Option.bind_some, cln (by omega), (hS.2.2.2.2.2 _ g1 (some_ne g2)).1, g3 (by omega)]
  rfl
theorem p_stepN {S : AS} {y : AR} {N : Nat} {o : Option Nat} {x : Int32} (hS : SrT S y) (ho : ∀ s, o = some s → s < 600) (hx : ∀ i n, x = nI i → i < 2 ^ 31 → o.bind S.2.2.1 = some n → n < 600 → n ≤ i) : f_X8_stepTo N (en o) x y.2.1 y.2.2.1 y.2.2.2.1 = some (-9) := by
  unfold f_X8_stepTo
  rw [p_distO hS ho, Option.bind_some]
  by_cases h0 : x < 0
  · rw [if_pos h0]
  · rw [if_neg h0]
    obtain ⟨j, hj, rfl⟩ := nI_of h0
    cases e : o.bind S.2.2.1 with
    | none => rw [if_neg (show ¬ nI j < en none from fun z => by
        have h1 := Int32.lt_iff_toInt_lt.mp z
        rw [nI_toInt hj] at h1
        have h2 : (en none).toInt = -1 := rfl
        omega)]
    | some n =>
      have hn : n < 600 := by
        cases o with
        | none => cases e
        | some s => exact Sr_d6 hS s n e
      rw [if_neg (show ¬ nI j < en (some n) from nI_nlt (hx j n rfl hj e hn) hj)]
