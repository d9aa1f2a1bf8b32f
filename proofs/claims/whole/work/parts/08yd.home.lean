/-! home, homeWay, homeGroups -/
theorem BI_cong {A A2 : Nat → Nat → Option Nat} {M r0 E : Nat} {S : AS} (h : BI A M r0 E S) (hE : E ≤ 4 * S.1) (hA : ∀ i d, i < S.1 → d < 4 → A (S.2.1 i) d = A2 (S.2.1 i) d) : BI A2 M r0 E S := by
  obtain ⟨i1, i2, i3, i4, i5, i6, ev, i7, i8⟩ := h
  have hA2 : ∀ e, e < E → A (S.2.1 (e / 4)) (e % 4) = A2 (S.2.1 (e / 4)) (e % 4) := fun e he => hA (e / 4) (e % 4) (by omega) (Nat.mod_lt _ (by decide))
  refine ⟨i1, i2, i3, i4, i5, fun e t he ha => i6 e t he (by rw [hA2 e he]; exact ha), ev, fun i hi hr => ?_, i8⟩
  obtain ⟨x1, x2, x3, x4, x5, x7, x8⟩ := i7 i hi hr
  refine ⟨x1, x2, x3, by rw [← hA2 _ x1]; exact x4, x5, fun e he z => x7 e he (by rw [hA2 e (by omega)]; exact z), ?_⟩
  rw [x8]
  exact sm_cong (fun e he => by rw [hA2 e he])
theorem BI_good {A : Nat → Nat → Option Nat} {M r0 E : Nat} {S : AS} {P : Nat → Prop} (h : BI A M r0 E S) (h0 : ∀ i, i < r0 → P (S.2.1 i)) (hA : ∀ s d t, s < M → d < 4 → A s d = some t → P t) : ∀ i, i < S.1 → P (S.2.1 i) := fun i hi => by
  obtain ⟨i1, i2, i3, i4, i5, i6, ev, i7, i8⟩ := h
  by_cases e : i < r0
  · exact h0 i e
  · obtain ⟨x1, x2, x3, x4, x5, x7, x8⟩ := i7 i (by omega) hi
    exact hA _ _ _ (i2 _ (by omega)).1 (Nat.mod_lt _ (by decide)) x4
theorem FE_cong {P P2 : Nat → Bool} {S : AS} {o : Option Nat} (h : FE P S o) (hP : ∀ k, k < S.1 → P (S.2.1 k) = P2 (S.2.1 k)) : FE P2 S o := by
  rcases h with ⟨e, h⟩ | ⟨k, hk, e, h1, h2⟩
  · exact Or.inl ⟨e, fun k hk => by rw [← hP k hk]; exact h k hk⟩
  · exact Or.inr ⟨k, hk, e, by rw [← hP k hk]; exact h1, fun j hj => by rw [← hP j (by omega)]; exact h2 j hj⟩
def sd (w h : Nat) (K : Nat → Nat) (st : Nat) : Bool := snd w h K (st % 8) (st / 8)
def bl (w h : Nat) (K : Nat → Nat) (st d : Nat) : Option Nat := if sd w h K st then bf w h K st d else none
def hm (w h : Nat) (K : Nat → Nat) (c st : Nat) : Bool := st / 8 == 3 * c && sd w h K st
theorem p_stepM1 {N : Nat} {x : Int32} {a b c : Nat → Int32} : f_X8_stepTo N (-1) x a b c = some (-9) := by
  unfold f_X8_stepTo
  rw [show f_X8_distanceTo (-1) a = some (-1) from rfl, Option.bind_some]
  by_cases h0 : x < 0
  · rw [if_pos h0]
  · rw [if_neg h0, if_neg (fun z => h0 (Int32.lt_iff_toInt_lt.mpr (by
      have := Int32.lt_iff_toInt_lt.mp z
      have e1 : (-1 : Int32).toInt = -1 := rfl
      have e2 : (0 : Int32).toInt = 0 := rfl
      omega)))]
section HO
variable {w h g n : Nat} {K M rw_ rs : Nat → Nat} {size on : Int32} {kinds marks nb : Nat → Int32} {plen : Int32} {rowW rowS : Nat → Int32} {wide tall groups rowMany : Int32} {top east south rolled kind mark rowWay rowSeen : Nat → Int32}
theorem bf_sd (hB : Bd w h g n K M rw_ rs) {s d t : Nat} (e : bf w h K s d = some t) : sd w h K t = true := by
  unfold bf at e
  cases ht : tip w h (s / 8) d with
  | none => rw [ht] at e; cases e
  | some q =>
    rw [ht] at e
    have e : (if snd w h K (s % 8) q = true then some (8 * q + ((s % 8) ^^^ tda K q)) else none) = some t := e
    cases hs : snd w h K (s % 8) q with
    | false => rw [hs] at e; cases e
    | true =>
      rw [hs, if_pos rfl] at e
      have hx := xor8 (Nat.mod_lt s (show 0 < 8 by decide)) (tda_8 (K := K) (p := q) (hB.2.2.2.2.2.2.1 _))
      have e : 8 * q + ((s % 8) ^^^ tda K q) = t := by cases e; rfl
      unfold sd
      rw [← e, show (8 * q + ((s % 8) ^^^ tda K q)) % 8 = (s % 8) ^^^ tda K q by omega, show (8 * q + ((s % 8) ^^^ tda K q)) / 8 = q by omega, snd_flip]
      exact hs
theorem bl_b (hB : Bd w h g n K M rw_ rs) : ∀ s d, s < 24 * (w * h) → d < 4 → ∀ t, bl w h K s d = some t → t < 24 * (w * h) := fun s d hs hd t e => by
  unfold bl at e
  cases hsd : sd w h K s with
  | false => rw [hsd] at e; cases e
  | true => rw [hsd, if_pos rfl] at e; exact bf_lt hB hs hd e
theorem m_bl (hB : Bd w h g n K M rw_ rs) (hM : Rm w h g n K M rw_ rs wide tall groups rowMany top east south rolled kind mark rowWay rowSeen) : ∀ s d, s < 24 * (w * h) → d < 4 → f_X11_blockRoll (nI s) (nI d) wide tall kind = some (en9 (bl w h K s d)) ∧ ∀ t, bl w h K s d = some t → t < 24 * (w * h) := fun s d hs hd => ⟨m_blockRoll hB hM hs hd, bl_b hB s d hs hd⟩
theorem p_endLoop1 {c : Nat} {S : AS} {y : AR} {N : Nat} (hS : SrT S y) (hN : 1000 < N) (hc : c < 25) : ∃ z, f_X1_endOf_l41 (nI c) y.1 y.2.1 y.2.2.1 y.2.2.2.1 y.2.2.2.2.1 y.2.2.2.2.2 N 0 = some z ∧ ∃ o, FE (fun t => t / 8 == 3 * c) S o ∧ Sum.elim (fun rr => some rr) (fun (_ : Unit) => some ((-1 : Int32), y)) z = some (en o, y) := by
  have h6 := Sr_600 hS
  refine lp_ex (b := fun rec z => f_X1_endOf_b41 (nI c) y.1 y.2.1 y.2.2.1 y.2.2.2.1 y.2.2.2.2.1 y.2.2.2.2.2 rec z) (fun m x => ∃ k, m + k = S.1 ∧ x = nI k ∧ ∀ j, j < k → (S.2.1 j / 8 == 3 * c) = false) (fun z => ∃ o, FE (fun t => t / 8 == 3 * c) S o ∧ Sum.elim (fun rr => some rr) (fun (_ : Unit) => some ((-1 : Int32), y)) z = some (en o, y)) ?_ N S.1 0 ⟨0, by omega, rfl, fun j hj => absurd hj (Nat.not_lt_zero j)⟩ (by omega)
  rintro m x ⟨k, hm, rfl, h1⟩ rec hrec
  show ∃ z, f_X1_endOf_b41 (nI c) y.1 y.2.1 y.2.2.1 y.2.2.2.1 y.2.2.2.2.1 y.2.2.2.2.2 rec (nI k) = some z ∧ _
  unfold f_X1_endOf_b41 f_X8_reached f_X0_placeOf f_X0_standingOn
  rw [Option.bind_some]
  by_cases e : k < S.1
  · have ho := (hS.2.2.1 k e).2
    rw [p_reachedAt hS e, show y.1 = nI S.1 from hS.2.1, if_neg (nI_ge e (by omega)), Option.bind_some, Option.bind_some, Option.bind_some, dv8 (by omega), show (3 : Int32) * nI c = nI (3 * c) by rw [li 3, pk_mul], nI_1]
    by_cases hp : S.2.1 k / 8 = 3 * c
    · rw [if_pos (by rw [hp])]
      refine ⟨_, rfl, some (S.2.1 k), Or.inr ⟨k, e, rfl, beq_iff_eq.mpr hp, h1⟩, ?_⟩
      rw [← show y.1 = nI S.1 from hS.2.1]
      rfl
    · rw [if_neg (fun z => hp ((nI_eq (by omega) (by omega)).mp z))]
      refine hrec (m - 1) _ (by omega) ⟨k + 1, by omega, rfl, fun j hj => ?_⟩
      by_cases e2 : j = k
      · rw [e2]; exact beq_eq_false_iff_ne.mpr hp
      · exact h1 j (by omega)
  · rw [show y.1 = nI S.1 from hS.2.1, show k = S.1 by omega, if_pos (Int32.le_refl _)]
    exact ⟨_, rfl, none, Or.inl ⟨rfl, fun j hj => h1 j (by omega)⟩, rfl⟩
theorem p_endOf1 (hB : Bd w h g n K M rw_ rs) (hC : Rc w h g n K M rw_ rs size on kinds marks nb plen rowW rowS) {N p c : Nat} (y : AR) (hN : 1000 < N) (hp : p < 3 * (w * h)) (hc : c < 25) : (snd w h K g p = false ∧ f_X1_endOf N (nI p) (nI c) size on kinds nb y.1 y.2.1 y.2.2.1 y.2.2.2.1 y.2.2.2.2.1 y.2.2.2.2.2 = some (-1, y)) ∨ (snd w h K g p = true ∧ ∃ y2 S o, f_X1_endOf N (nI p) (nI c) size on kinds nb y.1 y.2.1 y.2.2.1 y.2.2.2.1 y.2.2.2.2.1 y.2.2.2.2.2 = some (en o, y2) ∧ SrT S y2 ∧ DS (bl w h K) (24 * (w * h)) (8 * p + g) S ∧ FE (hm w h K c) S o) := by
  have w1 := wh25 hB.2.1 hB.2.2.2.1
  have b5 := hB.2.2.2.2.1
  have hon : on = nI g := hC.2.1
  unfold f_X1_endOf f_X2_groupsOn f_X0_at
  rw [p_isSoundNow hB hC hp, Option.bind_some]
  cases hsn : snd w h K g p with
  | false => exact Or.inl ⟨rfl, rfl⟩
  | true =>
    refine Or.inr ⟨rfl, ?_⟩
    have hs0 : 8 * p + g < 24 * (w * h) := by omega
    obtain ⟨y1, y2, q1, q2, S, q3, q4, q5⟩ := p_search (A := bf w h K) (M := 24 * (w * h)) (af := fun a b => f_X0_after_22 a b size kinds nb) (by omega) (fun s d hs hd => ⟨p_bafter hB hC hs hd, fun t ht => bf_lt hB hs hd ht⟩) (N := N) (y := y) hN hs0
    obtain ⟨z, z1, o, z2, z3⟩ := p_endLoop1 (c := c) (N := N) q3 hN hc
    have hgood := BI_good (P := fun t => sd w h K t = true) q4 (fun i hi => by
      rw [show i = 0 by omega, q5]
      unfold sd
      rw [show (8 * p + g) % 8 = g by omega, show (8 * p + g) / 8 = p by omega]; exact hsn) (fun s d t _ _ e => bf_sd hB e)
    refine ⟨y2, S, o, ?_, q3, ⟨BI_cong q4 (Nat.le_refl _) (fun i d hi hd => ?_), q5⟩, FE_cong z2 (fun k hk => ?_)⟩
    · rw [if_neg (show ¬ bI true = 0 by decide), hon, Option.bind_some, at8, Option.bind_some, q1, Option.bind_some, gsp_22, q2, Option.bind_some, z1, Option.bind_some]
      exact z3
    · unfold bl
      rw [hgood i hi, if_pos rfl]
    · unfold hm
      rw [hgood k hk, Bool.and_true]
theorem m_ho10 (hB : Bd w h g n K M rw_ rs) (hM : Rm w h g n K M rw_ rs wide tall groups rowMany top east south rolled kind mark rowWay rowSeen) {N c : Nat} {x3 : Nat → Int32} (hN : 1000 < N) (hc : c < 25) : ∃ y, f_X11_layHome_l10 (nI c) (nI (24 * (w * h))) wide tall kind N (0, x3) = some y ∧ ∀ t, t < 24 * (w * h) → y t = nI (if hm w h K c t then 0 else 100000000) := by
  have w1 := wh25 hB.2.1 hB.2.2.2.1
  refine lp_ex (b := fun rec z => f_X11_layHome_b10 (nI c) (nI (24 * (w * h))) wide tall kind rec z.1 z.2) (fun m x => ∃ k, m + k = 24 * (w * h) ∧ x.1 = nI k ∧ ∀ t, t < k → x.2 t = nI (if hm w h K c t then 0 else 100000000)) (fun y => ∀ t, t < 24 * (w * h) → y t = nI (if hm w h K c t then 0 else 100000000)) ?_ N (24 * (w * h)) (0, x3) ⟨0, by omega, rfl, fun t ht => absurd ht (Nat.not_lt_zero t)⟩ (by omega)
  rintro m ⟨x4, ro⟩ ⟨k, hm1, hx, h1⟩ rec hrec
  have hx : x4 = nI k := hx
  subst hx
  show ∃ y, f_X11_layHome_b10 (nI c) (nI (24 * (w * h))) wide tall kind rec (nI k) ro = some y ∧ _
  unfold f_X11_layHome_b10 f_X11_layHome_j49 f_X11_layHome_j51
  by_cases e : k = 24 * (w * h)
  · subst e
    rw [if_pos (Int32.le_refl _)]
    exact ⟨_, rfl, h1⟩
  · have hk8 : k % 8 < 8 := Nat.mod_lt _ (by decide)
    have hup : ∀ b, hm w h K c k = b → ∃ y, rec (nI (k + 1), upd ro k (nI (if b then 0 else 100000000))) = some y ∧ ∀ t, t < 24 * (w * h) → y t = nI (if hm w h K c t then 0 else 100000000) := fun b hb => by
      refine hrec (m - 1) _ (by omega) ⟨k + 1, by omega, rfl, fun t ht => ?_⟩
      show upd ro k (nI (if b then 0 else 100000000)) t = _
      rw [updn]
      by_cases e2 : t = k
      · rw [if_pos e2, e2, hb]
      · rw [if_neg e2]; exact h1 t (by omega)
    rw [if_neg (nI_ge (show k < 24 * (w * h) by omega) (by omega)), dv8 (by omega), rq8 (by omega), show (3 : Int32) * nI c = nI (3 * c) by rw [li 3, pk_mul], m_isSound hB hM hk8 (by omega), Option.bind_some, ckn (show k < 600 by omega) (by decide), Option.bind_some, Option.bind_some, cln (by omega), nI_1]
    by_cases e3 : k / 8 = 3 * c
    · rw [if_pos (by rw [e3])]
      cases hsn : snd w h K (k % 8) (k / 8) with
      | false =>
        rw [if_pos (show bI false = 0 from rfl)]
        exact hup false (by unfold hm sd; rw [hsn, Bool.and_false])
      | true =>
        rw [if_neg (show ¬ bI true = 0 by decide)]
        exact hup true (by unfold hm sd; rw [hsn, Bool.and_true]; exact beq_iff_eq.mpr e3)
    · rw [if_neg (fun z => e3 ((nI_eq (by omega) (by omega)).mp z))]
      exact hup false (by unfold hm; rw [beq_eq_false_iff_ne.mpr e3, Bool.false_and])
theorem m_layHome (hB : Bd w h g n K M rw_ rs) (hM : Rm w h g n K M rw_ rs wide tall groups rowMany top east south rolled kind mark rowWay rowSeen) {N c : Nat} {homeward : Nat → Int32} (hN : 1000000000000 ≤ N) (hc : c < 25) : ∃ y, f_X11_layHome N (nI c) wide tall kind homeward = some y ∧ ∃ V, (∀ t, t < 24 * (w * h) → y t = nI (V t)) ∧ RI (bl w h K) (fun _ => 1) (24 * (w * h)) (fun t => decide (t < 24 * (w * h)) && hm w h K c t) V ∧ RX (bl w h K) (fun _ => 1) (24 * (w * h)) V := by
  have w1 := wh25 hB.2.1 hB.2.2.2.1
  unfold f_X11_layHome f_X11_cells
  have m1 : wide = nI w := hM.1
  have m2 : tall = nI h := hM.2.1
  obtain ⟨y, q1, q2⟩ := m_ho10 hB hM (N := N) (c := c) (x3 := homeward) (by omega) hc
  rw [Option.bind_some, show (24 : Int32) * (wide * tall) = nI (24 * (w * h)) by rw [m1, m2, pk_mul, al24], q1, Option.bind_some, grl_ho]
  obtain ⟨y2, p1, V, p2, p3, p4⟩ := m_grl (A := bl w h K) (c := fun _ => 1) (M := 24 * (w * h)) (G := fun t => decide (t < 24 * (w * h)) && hm w h K c t) (rf := fun a b => f_X11_blockRoll a b wide tall kind) (cf := fun _ => some 1) (by omega) (m_bl hB hM) (fun t _ => ⟨rfl, by omega, by omega⟩) hN q2 RI_0
  rw [p1]
  exact ⟨_, rfl, V, p2, p3, p4⟩
/-- what is not sound is far -/
theorem hm_un {V : Nat → Nat} {c s : Nat} (hI : RI (bl w h K) (fun _ => 1) (24 * (w * h)) (fun t => decide (t < 24 * (w * h)) && hm w h K c t) V) (hs : s < 24 * (w * h)) (hu : sd w h K s = false) : V s = FAR := by
  refine Nat.le_antisymm (hI.1 s hs) (Nat.le_of_not_lt (fun z => ?_))
  obtain ⟨k, q, hq, hw⟩ := hI.2.1 s hs z
  cases k with
  | zero =>
    rw [← hw.2] at hq
    have := (Bool.and_eq_true_iff.mp (Bool.and_eq_true_iff.mp hq).2).2
    rw [hu] at this; cases this
  | succ k =>
    obtain ⟨u, d, y, hd, ha, _⟩ := hw
    unfold bl at ha
    rw [hu] at ha; cases ha
/-- both sides of a search home -/
theorem hm_both (hB : Bd w h g n K M rw_ rs) (hC : Rc w h g n K M rw_ rs size on kinds marks nb plen rowW rowS) (hM : Rm w h g n K M rw_ rs wide tall groups rowMany top east south rolled kind mark rowWay rowSeen) {N p c : Nat} (y : AR) (homeward : Nat → Int32) (hN : 1000000000000 ≤ N) (hp : p < 3 * (w * h)) (hc : c < 25) : ∃ o y2 z V, f_X1_endOf N (nI p) (nI c) size on kinds nb y.1 y.2.1 y.2.2.1 y.2.2.2.1 y.2.2.2.2.1 y.2.2.2.2.2 = some (en o, y2) ∧ f_X11_layHome N (nI c) wide tall kind homeward = some z ∧ (∀ t, t < 24 * (w * h) → z t = nI (V t)) ∧ RI (bl w h K) (fun _ => 1) (24 * (w * h)) (fun t => decide (t < 24 * (w * h)) && hm w h K c t) V ∧ RX (bl w h K) (fun _ => 1) (24 * (w * h)) V ∧ ((o = none ∧ V (8 * p + g) = FAR) ∨ (∃ S, SrT S y2 ∧ DS (bl w h K) (24 * (w * h)) (8 * p + g) S ∧ V (8 * p + g) < 600 ∧ o = some (gX (bl w h K) V (8 * p + g) (V (8 * p + g))) ∧ S.2.2.1 (gX (bl w h K) V (8 * p + g) (V (8 * p + g))) = some (V (8 * p + g)))) := by
  have w1 := wh25 hB.2.1 hB.2.2.2.1
  have b5 := hB.2.2.2.2.1
  have hs0 : 8 * p + g < 24 * (w * h) := by omega
  obtain ⟨z, z1, V, z2, z3, z4⟩ := m_layHome hB hM (N := N) (c := c) (homeward := homeward) hN hc
  rcases p_endOf1 hB hC (N := N) (c := c) y (by omega) hp hc with ⟨e, q⟩ | ⟨e, y2, S, o, q1, q2, q3, q4⟩
  · refine ⟨none, y, z, V, q, z1, z2, z3, z4, Or.inl ⟨rfl, hm_un z3 hs0 ?_⟩⟩
    unfold sd
    rw [show (8 * p + g) % 8 = g by omega, show (8 * p + g) / 8 = p by omega]; exact e
  · refine ⟨o, y2, z, V, q1, z1, z2, z3, z4, ?_⟩
    rcases gry_E (bl_b hB) q3 z3 z4 hG_0 hs0 (fun t ht => by rw [decide_eq_true ht]; rfl) q4 (Sr_d6 q2) with ⟨e1, e2⟩ | ⟨e1, e2, e3, e4⟩
    · exact Or.inl ⟨e1, e2⟩
    · exact Or.inr ⟨S, q2, q3, e1, e2, e3⟩
end HO
theorem s_home (N : Nat) (hN : NB ≤ N) {size : Int32} {on : Int32} {kinds : Nat → Int32} {marks : Nat → Int32} {nb : Nat → Int32} {reached : Int32} {dist : Nat → Int32} {lastW : Nat → Int32} {par : Nat → Int32} {ord : Nat → Int32} {paths : Nat → Int64} {plen : Int32} {rowW : Nat → Int32} {rowS : Nat → Int32} {wide : Int32} {tall : Int32} {groups : Int32} {rowMany : Int32} {top : Nat → Int32} {east : Nat → Int32} {south : Nat → Int32} {rolled : Nat → Int32} {kind : Nat → Int32} {mark : Nat → Int32} {rowWay : Nat → Int32} {rowSeen : Nat → Int32} {homeward : Nat → Int32} (hR : Rl size on kinds marks nb plen rowW rowS wide tall groups rowMany top east south rolled kind mark rowWay rowSeen) (y1 : Int32) (y2 : Int32) : ∃ (r : Int32) (oc : Int32 × (Nat → Int32) × (Nat → Int32) × (Nat → Int32) × (Nat → Int32) × (Nat → Int64)) (om : (Nat → Int32)), f_X10_home N y1 y2 size on kinds nb reached dist lastW par ord paths = some (r, oc) ∧ f_X11_home N y1 y2 wide tall groups kind homeward = some (r, om) ∧ Rl size on kinds marks nb plen rowW rowS wide tall groups rowMany top east south rolled kind mark rowWay rowSeen := by
  obtain ⟨w, h, g, n, K, M, rw_, rs, hB, hC, hM⟩ := id hR
  obtain ⟨b1, b2, b3, b4, b5, b6, b7, b8, b9, b10⟩ := id hB
  obtain ⟨rfl, rfl, c3, c4, c5, rfl, c7, c8⟩ := id hC
  obtain ⟨rfl, rfl, rfl, rfl, m5, m6, m7, m8, m9, m10⟩ := id hM
  have w1 := wh25 b2 b4
  have w2 := wh4 b1 b3
  have hNB : 1000000000000 ≤ N := hN
  unfold f_X10_home f_X11_home
  rw [p_isPlace y1 (by omega), m_isPlace y1 (by omega) (by omega), p_has y2 (by omega), m_isCell y2 (by omega) (by omega)]
  simp only [Option.bind_some, bI_0]
  cases hb : inb y1 (3 * (w * h)) with
  | false => exact ⟨-1, _, _, rfl, rfl, hR⟩
  | true =>
    obtain ⟨p, hp, rfl⟩ := inb_of hb (by omega)
    cases hb2 : inb y2 (w * h) with
    | false => exact ⟨-1, _, _, rfl, rfl, hR⟩
    | true =>
      obtain ⟨c, hc, rfl⟩ := inb_of hb2 (by omega)
      simp only [Bool.true_eq_false, if_false, at8]
      unfold f_X1_length
      obtain ⟨o, y2, z, V, q1, q2, q3, q4, q5, q6⟩ := hm_both hB hC hM (N := N) (p := p) (c := c) (reached, dist, lastW, par, ord, paths) homeward hNB hp (by omega)
      rw [show f_X1_endOf N (nI p) (nI c) (nI (w * h)) (nI g) kinds nb reached dist lastW par ord paths = some (en o, y2) from q1, Option.bind_some, q2, Option.bind_some, rdn (show 8 * p + g < 600 by omega) (by decide), Option.bind_some, cln (by omega), q3 _ (by omega)]
      rcases q6 with ⟨rfl, e⟩ | ⟨S, s1, s2, s3, rfl, s5⟩
      · rw [e, if_pos (show nI FAR = 100000000 from rfl)]
        exact ⟨-9, _, _, rfl, rfl, hR⟩
      · have hgx := (gry_X (bl_b hB) q4 q5 hG_0 (show 8 * p + g < 24 * (w * h) by omega) (by unfold FAR; omega) (V (8 * p + g)) (Nat.le_refl _)).1
        rw [if_neg (show ¬ nI (V (8 * p + g)) = 100000000 from fun q => by have := (nI_eq (b := 100000000) (by omega) (by decide)).mp q; omega)]
        rw [p_distO s1 (fun s hs => by cases hs; omega), Option.bind_some, Option.bind_some, s5, p_nine _ (fun q hq => by cases hq; omega), Option.bind_some]
        exact ⟨_, _, _, rfl, rfl, hR⟩
