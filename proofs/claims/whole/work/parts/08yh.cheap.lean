/-! cheapest: least walks -/
theorem wk_last {A : Nat → Nat → Option Nat} {c : Nat → Nat} : ∀ k x s t, wk A c (k + 1) x s t → ∃ u d y, d < 4 ∧ wk A c k y s u ∧ A u d = some t ∧ x = y + c t
  | 0, x, s, t, h => by
    obtain ⟨u, d, y, hd, ha, ⟨h1, h2⟩, e⟩ := h
    subst h1; subst h2
    exact ⟨s, d, 0, hd, ⟨rfl, rfl⟩, ha, e⟩
  | k + 1, x, s, t, h => by
    obtain ⟨u, d, y, hd, ha, hw, e⟩ := h
    obtain ⟨u2, d2, y2, hd2, hw2, ha2, e2⟩ := wk_last k y u t hw
    exact ⟨u2, d2, y2 + c u, hd2, ⟨u, d, y2, hd, ha, hw2, rfl⟩, ha2, by omega⟩
theorem wk_6 {A : Nat → Nat → Option Nat} {c : Nat → Nat} (hc : ∀ t, c t ≤ 6) : ∀ k x s t, wk A c k x s t → x ≤ 6 * k
  | 0, x, s, t, h => by have := h.1; omega
  | k + 1, x, s, t, h => by
    obtain ⟨u, d, y, hd, ha, hw, e⟩ := h
    have := wk_6 hc k y u t hw
    have := hc u
    omega
def Mn (A : Nat → Nat → Option Nat) (c : Nat → Nat) (s0 t x : Nat) : Prop := (∃ k, wk A c k x s0 t) ∧ ∀ y k, wk A c k y s0 t → x ≤ y
theorem Mn_ex {A : Nat → Nat → Option Nat} {c : Nat → Nat} {s0 t : Nat} : ∀ x k, wk A c k x s0 t → ∃ y, y ≤ x ∧ Mn A c s0 t y := by
  intro x
  induction x using Nat.strongRecOn with
  | ind x ih =>
    intro k hw
    by_cases e : ∃ y j, y < x ∧ wk A c j y s0 t
    · obtain ⟨y, j, hy, hj⟩ := e
      obtain ⟨z, hz, hm⟩ := ih y hy j hj
      exact ⟨z, by omega, hm⟩
    · exact ⟨x, Nat.le_refl _, ⟨k, hw⟩, fun y j hj => Nat.le_of_not_lt (fun z => e ⟨y, j, z, hj⟩)⟩
theorem Mn_st {A : Nat → Nat → Option Nat} {c : Nat → Nat} {s0 t x : Nat} (h : Mn A c s0 t x) : (x = 0 ∧ t = s0) ∨ ∃ u d y, d < 4 ∧ A u d = some t ∧ x = y + c t ∧ Mn A c s0 u y := by
  obtain ⟨⟨k, hw⟩, hm⟩ := h
  cases k with
  | zero => exact Or.inl ⟨hw.1, hw.2.symm⟩
  | succ k =>
    obtain ⟨u, d, y, hd, hw2, ha, e⟩ := wk_last k x s0 t hw
    refine Or.inr ⟨u, d, y, hd, ha, e, ⟨k, hw2⟩, fun z j hj => ?_⟩
    have := hm _ _ (wk_sn hd ha j z s0 hj)
    omega
noncomputable def rkp (A : Nat → Nat → Option Nat) (c : Nat → Nat) (s0 x u : Nat) : Bool := @decide (∃ y, y < x ∧ Mn A c s0 u y) (Classical.propDecidable _)
noncomputable def rk (A : Nat → Nat → Option Nat) (c : Nat → Nat) (s0 T x : Nat) : Nat := ctn (rkp A c s0 x) T
theorem rkp_i {A : Nat → Nat → Option Nat} {c : Nat → Nat} {s0 x u : Nat} : rkp A c s0 x u = true ↔ ∃ y, y < x ∧ Mn A c s0 u y := by
  unfold rkp
  exact @decide_eq_true_iff _ (Classical.propDecidable _)
theorem ctn_mn {p q : Nat → Bool} : ∀ n, (∀ k, k < n → p k = true → q k = true) → ctn p n ≤ ctn q n
  | 0, _ => Nat.le_refl _
  | n + 1, h => by
    have h1 := ctn_mn n (fun k hk => h k (by omega))
    have h2 := h n (by omega)
    rw [ctn, ctn]
    cases hp : p n with
    | false => rw [if_neg (by decide)]; split <;> omega
    | true => rw [h2 hp, if_pos rfl]; omega
theorem ctn_ml {p q : Nat → Bool} {t : Nat} (hp : p t = false) (hq : q t = true) : ∀ n, t < n → (∀ k, k < n → p k = true → q k = true) → ctn p n < ctn q n
  | 0, h, _ => absurd h (Nat.not_lt_zero t)
  | n + 1, h, hm => by
    by_cases e : t = n
    · subst e
      have h1 := ctn_mn t (fun k hk => hm k (by omega))
      rw [ctn, ctn, hp, hq, if_neg (by decide), if_pos rfl]; omega
    · have h1 := ctn_ml hp hq n (by omega) (fun k hk => hm k (by omega))
      have h2 := hm n (by omega)
      rw [ctn, ctn]
      cases hpn : p n with
      | false => rw [if_neg (by decide)]; split <;> omega
      | true => rw [h2 hpn, if_pos rfl]; omega
theorem rk_lt {A : Nat → Nat → Option Nat} {c : Nat → Nat} {s0 T u x y : Nat} (hu : u < T) (hM : Mn A c s0 u y) (hx : y < x) : rk A c s0 T y < rk A c s0 T x := by
  refine ctn_ml (t := u) ?_ (rkp_i.mpr ⟨y, hx, hM⟩) T hu (fun k _ hk => ?_)
  · cases e : rkp A c s0 y u with
    | false => rfl
    | true =>
      obtain ⟨z, hz, hm⟩ := rkp_i.mp e
      obtain ⟨j, hj⟩ := hm.1
      have := hM.2 z j hj
      omega
  · obtain ⟨z, hz, hm⟩ := rkp_i.mp hk
    exact rkp_i.mpr ⟨z, by omega, hm⟩
theorem prt_6 (q : Nat) : prt q ≤ 6 ∧ 1 ≤ prt q := by
  have := tp_m q
  unfold prt
  omega
/-- the class's costs in a round that began with C0 -/
def RLc (A : Nat → Nat → Option Nat) (s0 : Nat) (C0 C : Nat → Nat) (x : Int32) (costs : Nat → Int32) : Prop := (∀ t, t < 600 → costs t = nI (C t) ∧ C t ≤ C0 t ∧ C t ≤ 1000000) ∧ (∀ t, t < 600 → C t < 1000000 → ∃ k, wk A prt k (C t) s0 t) ∧ (x = 1 ∨ (x = 0 ∧ ∀ t, t < 600 → C t = C0 t))
theorem p_lowerCost {A : Nat → Nat → Option Nat} {s0 f d : Nat} {C0 C : Nat → Nat} {x : Int32} {costs : Nat → Int32} (h : RLc A s0 C0 C x costs) (hf : f < 600) (hd : d < 4) (ht : ∀ t, A f d = some t → t < 600) : ∃ r costs2, f_X5_lowerCost (nI f) (en (A f d)) costs = some (r, costs2) ∧ ∃ C2, RLc A s0 C0 C2 (if r = 0 then x else 1) costs2 ∧ (∀ t, t < 600 → C2 t ≤ C t) ∧ ∀ t, A f d = some t → C2 t ≤ C f + prt t := by
  obtain ⟨h1, h2, h3⟩ := h
  unfold f_X5_lowerCost
  rw [if_neg (nI_pos (by omega)), if_neg (show ¬ (600 : Int32) ≤ nI f from nI_ge hf (by decide))]
  cases e : A f d with
  | none => exact ⟨0, costs, if_pos (show en none < 0 by decide), C, by rw [if_pos (show (0 : Int32) = 0 from rfl)]; exact ⟨h1, h2, h3⟩, fun _ _ => Nat.le_refl _, fun t z => by cases z⟩
  | some t =>
    have ht6 := ht t e
    have hp := prt_6 t
    have hCf := (h1 f hf).2.2
    have hCt := (h1 t ht6).2.2
    rw [show en (some t) = nI t from rfl, if_neg (nI_pos (by omega)), if_pos (show nI t < 600 from nI_lt ht6 (by decide)), rdn hf (by decide), Option.bind_some, p_printOf (by omega), Option.bind_some, rdn ht6 (by decide), Option.bind_some, cln (by omega), cln (by omega), (h1 f hf).1, (h1 t ht6).1, nI_add]
    by_cases hl : C f + prt t < C t
    · rw [if_pos (nI_lt hl (by omega)), ckn ht6 (by decide), Option.bind_some]
      refine ⟨1, _, rfl, fun u => if u = t then C f + prt t else C u, ?_, fun u hu => ?_, fun u hu => ?_⟩
      · rw [if_neg (show ¬ (1 : Int32) = 0 by decide)]
        refine ⟨fun u hu => ?_, fun u hu hc => ?_, Or.inl rfl⟩
        · rw [updn]
          show (if u = t then nI (C f + prt t) else costs u) = nI (if u = t then C f + prt t else C u) ∧ (if u = t then C f + prt t else C u) ≤ C0 u ∧ (if u = t then C f + prt t else C u) ≤ 1000000
          by_cases z : u = t
          · rw [if_pos z, if_pos z]
            have := (h1 t ht6).2.1
            rw [z]
            exact ⟨rfl, by omega, by omega⟩
          · rw [if_neg z, if_neg z]; exact h1 u hu
        · have hc : (if u = t then C f + prt t else C u) < 1000000 := hc
          show ∃ k, wk A prt k (if u = t then C f + prt t else C u) s0 u
          by_cases z : u = t
          · rw [if_pos z]
            obtain ⟨k, hk⟩ := h2 f hf (by omega)
            exact ⟨k + 1, by rw [z]; exact wk_sn hd e k _ s0 hk⟩
          · rw [if_neg z] at hc ⊢
            exact h2 u hu hc
      · show (if u = t then C f + prt t else C u) ≤ C u
        by_cases z : u = t
        · rw [if_pos z, z]; omega
        · rw [if_neg z]; omega
      · have hu : t = u := by cases hu; rfl
        show (if u = t then C f + prt t else C u) ≤ C f + prt u
        rw [if_pos hu.symm, hu]; omega
    · rw [if_neg (nI_nlt (by omega) (by omega))]
      refine ⟨0, costs, rfl, C, by rw [if_pos (show (0 : Int32) = 0 from rfl)]; exact ⟨h1, h2, h3⟩, fun _ _ => Nat.le_refl _, fun u hu => ?_⟩
      have hu : t = u := by cases hu; rfl
      rw [← hu]; omega
section CH
variable {w h g n : Nat} {K M rw_ rs : Nat → Nat} {size on : Int32} {kinds marks nb : Nat → Int32} {plen : Int32} {rowW rowS : Nat → Int32} {wide tall groups rowMany : Int32} {top east south rolled kind mark rowWay rowSeen : Nat → Int32}
theorem p_lc27 (hB : Bd w h g n K M rw_ rs) (hC : Rc w h g n K M rw_ rs size on kinds marks nb plen rowW rowS) {N s0 f : Nat} {C0 C1 : Nat → Nat} {x x2 : Int32} {costs : Nat → Int32} (hN : 1000 < N) (hf : f < 24 * (w * h)) (hR0 : RLc (rl w h K M g) s0 C0 C1 x costs) : ∃ y, f_X5_lowerCosts_l27 x2 (nI f) size on kinds marks nb N (x, 0, costs) = some y ∧ ∃ C, RLc (rl w h K M g) s0 C0 C y.1 y.2 ∧ (∀ t, t < 600 → C t ≤ C1 t) ∧ ∀ d t, d < 4 → rl w h K M g f d = some t → C t ≤ C1 f + prt t := by
  have w1 := wh25 hB.2.1 hB.2.2.2.1
  refine lp_ex (b := fun rec z => f_X5_lowerCosts_b27 x2 (nI f) size on kinds marks nb rec z.1 z.2.1 z.2.2) (fun m z => ∃ d C, m + d = 4 ∧ z.2.1 = nI d ∧ RLc (rl w h K M g) s0 C0 C z.1 z.2.2 ∧ (∀ t, t < 600 → C t ≤ C1 t) ∧ ∀ d' t, d' < d → rl w h K M g f d' = some t → C t ≤ C1 f + prt t) (fun y => ∃ C, RLc (rl w h K M g) s0 C0 C y.1 y.2 ∧ (∀ t, t < 600 → C t ≤ C1 t) ∧ ∀ d t, d < 4 → rl w h K M g f d = some t → C t ≤ C1 f + prt t) ?_ N 4 (x, 0, costs) ⟨0, C1, rfl, rfl, hR0, fun _ _ => Nat.le_refl _, fun d' t hd => absurd hd (Nat.not_lt_zero d')⟩ (by omega)
  rintro m ⟨x1, x4, cs⟩ ⟨d, C, hm1, hx, h1, h2, h3⟩ rec hrec
  have hx : x4 = nI d := hx
  subst hx
  have h1 : RLc (rl w h K M g) s0 C0 C x1 cs := h1
  show ∃ y, f_X5_lowerCosts_b27 x2 (nI f) size on kinds marks nb rec x1 (nI d) cs = some y ∧ _
  unfold f_X5_lowerCosts_b27
  by_cases e : d = 4
  · subst e
    rw [if_pos (by decide)]
    exact ⟨_, rfl, C, h1, h2, fun d t hd => h3 d t hd⟩
  · have hd : d < 4 := by omega
    rw [if_neg (show ¬ (4 : Int32) ≤ nI d from nI_ge hd (by decide)), p_after hB hC hf hd, Option.bind_some]
    obtain ⟨r, cs2, q1, C2, q2, q3, q4⟩ := p_lowerCost h1 (show f < 600 by omega) hd (fun t ht => by have := rl_b hB f d hf hd t ht; omega)
    rw [q1, Option.bind_some, nI_1]
    have q5 : ∀ d' t, d' < d + 1 → rl w h K M g f d' = some t → C2 t ≤ C1 f + prt t := fun d' t hd' ha => by
      have ht : t < 600 := by have := rl_b hB f d' hf (by omega) t ha; omega
      by_cases z : d' = d
      · rw [z] at ha
        have a1 := q4 t ha
        have a2 := h2 f (by omega)
        omega
      · exact Nat.le_trans (q3 t ht) (h3 d' t (by omega) ha)
    by_cases hr : r = 0
    · rw [if_pos hr] at q2
      rw [if_pos (show (r, cs2).1 = 0 from hr)]
      exact hrec (m - 1) _ (by omega) ⟨d + 1, C2, by omega, rfl, q2, fun t ht => Nat.le_trans (q3 t ht) (h2 t ht), q5⟩
    · rw [if_neg hr] at q2
      rw [if_neg (show ¬ (r, cs2).1 = 0 from hr)]
      exact hrec (m - 1) _ (by omega) ⟨d + 1, C2, by omega, rfl, q2, fun t ht => Nat.le_trans (q3 t ht) (h2 t ht), q5⟩
theorem p_lowerCosts (hB : Bd w h g n K M rw_ rs) (hC : Rc w h g n K M rw_ rs size on kinds marks nb plen rowW rowS) {N s0 : Nat} {C0 : Nat → Nat} {costs : Nat → Int32} {S : AS} {y : AR} (hS : SrT S y) (hD : DS (rl w h K M g) (24 * (w * h)) s0 S) (hN : 1000 < N) (hR0 : RLc (rl w h K M g) s0 C0 C0 0 costs) : ∃ x cs, f_X5_lowerCosts N size on kinds marks nb y.1 y.2.2.2.2.1 costs = some (x, cs) ∧ ∃ C, RLc (rl w h K M g) s0 C0 C x cs ∧ ∀ s d t, S.2.2.1 s ≠ none → d < 4 → rl w h K M g s d = some t → C t ≤ C0 s + prt t := by
  have w1 := wh25 hB.2.1 hB.2.2.2.1
  have h6 := Sr_600 hS
  have hl : ∃ z, f_X5_lowerCosts_l4 N size on kinds marks nb y.1 y.2.2.2.2.1 N (0, 0, costs) = some z ∧ ∃ C, RLc (rl w h K M g) s0 C0 C z.1 z.2 ∧ ∀ j d t, j < S.1 → d < 4 → rl w h K M g (S.2.1 j) d = some t → C t ≤ C0 (S.2.1 j) + prt t := by
    refine lp_ex (b := fun rec z => f_X5_lowerCosts_b4 N size on kinds marks nb y.1 y.2.2.2.2.1 rec z.1 z.2.1 z.2.2) (fun m z => ∃ k C, m + k = S.1 ∧ z.2.1 = nI k ∧ RLc (rl w h K M g) s0 C0 C z.1 z.2.2 ∧ ∀ j d t, j < k → d < 4 → rl w h K M g (S.2.1 j) d = some t → C t ≤ C0 (S.2.1 j) + prt t) (fun z => ∃ C, RLc (rl w h K M g) s0 C0 C z.1 z.2 ∧ ∀ j d t, j < S.1 → d < 4 → rl w h K M g (S.2.1 j) d = some t → C t ≤ C0 (S.2.1 j) + prt t) ?_ N S.1 (0, 0, costs) ⟨0, C0, by omega, rfl, hR0, fun j d t hj => absurd hj (Nat.not_lt_zero j)⟩ (by omega)
    rintro m ⟨x1, x2, cs⟩ ⟨k, C, hm1, hx, h1, h3⟩ rec hrec
    have hx : x2 = nI k := hx
    subst hx
    have h1 : RLc (rl w h K M g) s0 C0 C x1 cs := h1
    show ∃ z, f_X5_lowerCosts_b4 N size on kinds marks nb y.1 y.2.2.2.2.1 rec x1 (nI k) cs = some z ∧ _
    unfold f_X5_lowerCosts_b4 f_X8_reached
    rw [Option.bind_some]
    by_cases e : k < S.1
    · have hk := (hD.1.2.1 k e).1
      obtain ⟨z, q1, C2, q2, q3, q4⟩ := p_lc27 hB hC (N := N) (x2 := nI k) hN hk h1
      rw [p_reachedAt hS e, show y.1 = nI S.1 from hS.2.1, if_neg (nI_ge e (by omega)), Option.bind_some, q1, Option.bind_some, nI_1]
      refine hrec (m - 1) _ (by omega) ⟨k + 1, C2, by omega, rfl, q2, fun j d t hj hd ha => ?_⟩
      have ht : t < 600 := by have := rl_b hB _ d (hD.1.2.1 j (by omega)).1 hd t ha; omega
      by_cases z : j = k
      · rw [z] at ha ⊢
        have a1 := q4 d t hd ha
        have a2 := (h1.1 (S.2.1 k) (by omega)).2.1
        omega
      · exact Nat.le_trans (q3 t ht) (h3 j d t (by omega) hd ha)
    · rw [show y.1 = nI S.1 from hS.2.1, show k = S.1 by omega, if_pos (Int32.le_refl _)]
      exact ⟨_, rfl, C, h1, fun j d t hj => h3 j d t (by omega)⟩
  obtain ⟨⟨x, cs⟩, q1, C, q2, q3⟩ := hl
  refine ⟨x, cs, ?_, C, q2, fun s d t hs hd ha => ?_⟩
  · unfold f_X5_lowerCosts
    have hx : nx_b x = some x := by
      rcases q2.2.2 with e | ⟨e, _⟩
      · have e : x = 1 := e
        subst e; rfl
      · have e : x = 0 := e
        subst e; rfl
    rw [q1, Option.bind_some]
    show (nx_b x).bind _ = _
    rw [hx]; rfl
  · obtain ⟨j, hj, e⟩ := hD.1.2.2.1 s hs
    rw [← e] at ha ⊢
    exact q3 j d t hj hd ha
theorem p_lp52 (hB : Bd w h g n K M rw_ rs) (hC : Rc w h g n K M rw_ rs size on kinds marks nb plen rowW rowS) {N s0 : Nat} {C0 : Nat → Nat} {costs : Nat → Int32} {S : AS} {y : AR} {x2 x3 : Int32} (hS : SrT S y) (hD : DS (rl w h K M g) (24 * (w * h)) s0 S) (hN : 1000 < N) (hs : s0 < 24 * (w * h)) (hR0 : RLc (rl w h K M g) s0 C0 C0 0 costs) (h0 : C0 s0 = 0) : ∃ cs, f_X5_leastPrints_l52 N x2 x3 size on kinds marks nb y.1 y.2.2.2.2.1 N (1, 0, costs) = some cs ∧ ∃ C, RLc (rl w h K M g) s0 C C 0 cs ∧ ∀ t x, Mn (rl w h K M g) prt s0 t x → C t ≤ x := by
  have w1 := wh25 hB.2.1 hB.2.2.2.1
  have hisD := DS_isD hD
  have hre : ∀ k x u, wk (rl w h K M g) prt k x s0 u → u < 24 * (w * h) ∧ S.2.2.1 u ≠ none := fun k x u hw => by
    obtain ⟨a1, b, _, a2⟩ := wk_D (rl_b hB) hisD k x s0 u 0 hs ((hisD.1 s0 hs).mpr rfl) hw
    exact ⟨a1, some_ne a2⟩
  have hself : ∀ C C1 x cs, RLc (rl w h K M g) s0 C1 C x cs → RLc (rl w h K M g) s0 C C 0 cs := fun C C1 x cs q => ⟨fun t ht => ⟨(q.1 t ht).1, Nat.le_refl _, (q.1 t ht).2.2⟩, q.2.1, Or.inr ⟨rfl, fun _ _ => rfl⟩⟩
  refine lp_ex (b := fun rec z => f_X5_leastPrints_b52 N x2 x3 size on kinds marks nb y.1 y.2.2.2.2.1 rec z.1 z.2.1 z.2.2) (fun m z => ∃ r C, m + r = 600 ∧ z.2.1 = nI r ∧ RLc (rl w h K M g) s0 C C 0 z.2.2 ∧ C s0 = 0 ∧ (∀ t x, Mn (rl w h K M g) prt s0 t x → rk (rl w h K M g) prt s0 (24 * (w * h)) x ≤ r → C t ≤ x) ∧ (z.1 = 1 ∨ (z.1 = 0 ∧ ∀ s d t, S.2.2.1 s ≠ none → d < 4 → rl w h K M g s d = some t → C t ≤ C s + prt t))) (fun cs => ∃ C, RLc (rl w h K M g) s0 C C 0 cs ∧ ∀ t x, Mn (rl w h K M g) prt s0 t x → C t ≤ x) ?_ N 600 (1, 0, costs) ⟨0, C0, rfl, rfl, hR0, h0, fun t x hm hr => ?_, Or.inl rfl⟩ (by omega)
  · rintro m ⟨x4, x5, cs⟩ ⟨r, C, hm1, hx, h1, h2, h3, h4⟩ rec hrec
    have hx : x5 = nI r := hx
    subst hx
    have h1 : RLc (rl w h K M g) s0 C C 0 cs := h1
    show ∃ z, f_X5_leastPrints_b52 N x2 x3 size on kinds marks nb y.1 y.2.2.2.2.1 rec x4 (nI r) cs = some z ∧ _
    unfold f_X5_leastPrints_b52
    rcases h4 with e | ⟨e, hfix⟩
    · have e : x4 = 1 := e
      subst e
      rw [if_neg (by decide)]
      by_cases e6 : r = 600
      · subst e6
        rw [if_pos (by decide)]
        refine ⟨_, rfl, C, h1, fun t x hm => h3 t x hm ?_⟩
        have : rk (rl w h K M g) prt s0 (24 * (w * h)) x ≤ 24 * (w * h) := ctn_le _ _
        omega
      · rw [if_neg (show ¬ (600 : Int32) ≤ nI r from nI_ge (show r < 600 by omega) (by decide))]
        obtain ⟨x, cs2, q1, C2, q2, q3⟩ := p_lowerCosts hB hC hS hD hN h1
        rw [q1, Option.bind_some, nI_1]
        have c20 : C2 s0 = 0 := by have := (q2.1 s0 (by omega)).2.1; omega
        refine hrec (m - 1) _ (by omega) ⟨r + 1, C2, by omega, rfl, hself _ _ _ _ q2, c20, fun t x hm hr => ?_, ?_⟩
        · rcases Mn_st hm with ⟨e0, e1⟩ | ⟨u, d, v, hd, ha, e0, hmu⟩
          · rw [e0, e1, c20]; omega
          · obtain ⟨k, hk⟩ := hmu.1
            obtain ⟨hu, hun⟩ := hre k v u hk
            have hp := (prt_6 t).2
            have hlt := rk_lt hu hmu (show v < x by omega)
            have a1 := h3 u v hmu (by omega)
            have a2 := q3 u d t hun hd ha
            omega
        · rcases q2.2.2 with e | ⟨e, hC2⟩
          · exact Or.inl e
          · refine Or.inr ⟨e, fun s d t hs2 hd ha => ?_⟩
            obtain ⟨j, hj, ej⟩ := hD.1.2.2.1 s hs2
            have hsT := (hD.1.2.1 j hj).1
            rw [hC2 s (by omega)]
            exact q3 s d t hs2 hd ha
    · have e : x4 = 0 := e
      subst e
      rw [if_pos rfl]
      refine ⟨_, rfl, C, h1, fun t x hm => ?_⟩
      have key : ∀ k x t, wk (rl w h K M g) prt k x s0 t → C t ≤ x := by
        intro k
        induction k with
        | zero => intro x t hw; rw [← hw.2, h2]; omega
        | succ k ih =>
          intro x t hw
          obtain ⟨u, d, v, hd, hw2, ha, e⟩ := wk_last k x s0 t hw
          have a1 := ih v u hw2
          have a2 := hfix u d t (hre k v u hw2).2 hd ha
          omega
      obtain ⟨k, hk⟩ := hm.1
      exact key k x t hk
  · rcases Mn_st hm with ⟨e0, e1⟩ | ⟨u, d, v, hd, ha, e0, hmu⟩
    · rw [e0, e1, h0]; omega
    · obtain ⟨k, hk⟩ := hmu.1
      have hp := (prt_6 t).2
      have hlt := rk_lt (hre k v u hk).1 hmu (show v < x by omega)
      omega
def lmn (C : Nat → Nat) (P : Nat → Bool) : Nat → Nat
  | 0 => 1000000
  | n + 1 => if P n then (if C n < lmn C P n then C n else lmn C P n) else lmn C P n
theorem lmn_b {C : Nat → Nat} {P : Nat → Bool} : ∀ n, lmn C P n ≤ 1000000 ∧ (∀ t, t < n → P t = true → lmn C P n ≤ C t) ∧ (lmn C P n = 1000000 ∨ ∃ t, t < n ∧ P t = true ∧ lmn C P n = C t)
  | 0 => ⟨Nat.le_refl _, fun t ht => absurd ht (Nat.not_lt_zero t), Or.inl rfl⟩
  | n + 1 => by
    obtain ⟨h1, h2, h3⟩ := lmn_b (C := C) (P := P) n
    cases hp : P n with
    | false =>
      rw [lmn, hp, if_neg (by decide)]
      refine ⟨h1, fun t ht hpt => ?_, ?_⟩
      · by_cases e : t = n
        · rw [e, hp] at hpt; cases hpt
        · exact h2 t (by omega) hpt
      · rcases h3 with e | ⟨t, ht, a, b⟩
        · exact Or.inl e
        · exact Or.inr ⟨t, by omega, a, b⟩
    | true =>
      rw [lmn, hp, if_pos rfl]
      by_cases hc : C n < lmn C P n
      · rw [if_pos hc]
        refine ⟨by omega, fun t ht hpt => ?_, Or.inr ⟨n, by omega, hp, rfl⟩⟩
        by_cases e : t = n
        · rw [e]; omega
        · have := h2 t (by omega) hpt; omega
      · rw [if_neg hc]
        refine ⟨h1, fun t ht hpt => ?_, ?_⟩
        · by_cases e : t = n
          · rw [e]; omega
          · exact h2 t (by omega) hpt
        · rcases h3 with e | ⟨t, ht, a, b⟩
          · exact Or.inl e
          · exact Or.inr ⟨t, by omega, a, b⟩
theorem p_lp84 {N : Nat} {x2 x3 : Int32} {C : Nat → Nat} {P : Nat → Bool} {cs : Nat → Int32} (hN : 1000 < N) (hP : ∀ s, s < 600 → f_X5_meets (nI s) x2 x3 = some (bI (P s))) (hc : ∀ t, t < 600 → cs t = nI (C t) ∧ C t ≤ 1000000) : f_X5_leastPrints_l84 x2 x3 cs N (1000000, 0) = some (nI (lmn C P 600)) := by
  refine lp_run (b := fun rec z => f_X5_leastPrints_b84 x2 x3 cs rec z.1 z.2) (fun k => (nI (lmn C P k), nI k)) 600 (fun k hk rec => ?_) (fun rec => ?_) N (by omega)
  · show f_X5_leastPrints_b84 x2 x3 cs rec (nI (lmn C P k)) (nI k) = rec (nI (lmn C P (k + 1)), nI (k + 1))
    unfold f_X5_leastPrints_b84
    have hb := (lmn_b (C := C) (P := P) k).1
    obtain ⟨a1, a2⟩ := hc k hk
    rw [if_neg (show ¬ (600 : Int32) ≤ nI k from nI_ge hk (by decide)), hP k hk, Option.bind_some, rdn hk (by decide), Option.bind_some, cln (by omega), a1, nI_1, lmn]
    cases hp : P k with
    | false => rw [if_pos (show bI false = 0 from rfl), if_neg (by decide)]
    | true =>
      rw [if_neg (show ¬ bI true = 0 by decide), if_pos rfl]
      by_cases e : C k < lmn C P k
      · rw [if_pos (nI_lt e (by omega)), if_pos e]
      · rw [if_neg (nI_nlt (by omega) (by omega)), if_neg e]
  · show f_X5_leastPrints_b84 x2 x3 cs rec (nI (lmn C P 600)) (nI 600) = _
    unfold f_X5_leastPrints_b84
    rw [if_pos (show (600 : Int32) ≤ nI 600 from Int32.le_refl _)]
theorem m_cheap (hB : Bd w h g n K M rw_ rs) (hM : Rm w h g n K M rw_ rs wide tall groups rowMany top east south rolled kind mark rowWay rowSeen) {N goal v : Nat} {x1 x2 : Int32} {onward : Nat → Int32} (hN : 1000000000000 ≤ N) (hg : goal < 25) (hv : v < 34) (hv2 : v < 7 ∨ 9 < v) : ∃ y1 y, f_X11_cheapest_l31 x1 x2 (nI goal) (nI v) (nI (24 * (w * h))) top N (0, onward) = some y1 ∧ f_X11_cheapest_l72 N x1 x2 (nI (24 * (w * h))) wide tall groups top rolled kind mark N (1, y1) = some y ∧ ∃ V, (∀ t, t < 24 * (w * h) → y t = nI (V t)) ∧ RI (rl w h K M g) prt (24 * (w * h)) (fun t => decide (t < 24 * (w * h)) && gl goal v t) V ∧ RX (rl w h K M g) prt (24 * (w * h)) V := by
  have w1 := wh25 hB.2.1 hB.2.2.2.1
  have m5 := hM.2.2.2.2.1
  obtain ⟨y, q1, q2⟩ := m_on11 (top := top) (N := N) (T := 24 * (w * h)) (x3 := onward) (by omega) (fun s hs => (m5 s hs).1) (by omega) hg hv hv2
  obtain ⟨y2, p1, V, p2, p3, p4⟩ := m_grl (A := rl w h K M g) (c := prt) (M := 24 * (w * h)) (G := fun t => decide (t < 24 * (w * h)) && gl goal v t) (rf := fun a b => f_X11_rollOf a b wide tall groups top rolled kind mark) (cf := fun a => f_X11_print a top) (by omega) (fun s d hs hd => ⟨m_rollOf hB hM hs hd, rl_b hB s d hs hd⟩) (fun t ht => ⟨m_print hM (by omega), (prt_6 t).1, (prt_6 t).2⟩) hN q2 RI_0
  exact ⟨y, y2, q1, p1, V, p2, p3, p4⟩
end CH
theorem s_cheapest (N : Nat) (hN : NB ≤ N) {size : Int32} {on : Int32} {kinds : Nat → Int32} {marks : Nat → Int32} {nb : Nat → Int32} {reached : Int32} {dist : Nat → Int32} {lastW : Nat → Int32} {par : Nat → Int32} {ord : Nat → Int32} {paths : Nat → Int64} {costs : Nat → Int32} {plen : Int32} {rowW : Nat → Int32} {rowS : Nat → Int32} {wide : Int32} {tall : Int32} {groups : Int32} {rowMany : Int32} {top : Nat → Int32} {east : Nat → Int32} {south : Nat → Int32} {rolled : Nat → Int32} {kind : Nat → Int32} {mark : Nat → Int32} {onward : Nat → Int32} {rowWay : Nat → Int32} {rowSeen : Nat → Int32} (hR : Rl size on kinds marks nb plen rowW rowS wide tall groups rowMany top east south rolled kind mark rowWay rowSeen) (y1 : Int32) (y2 : Int32) (y3 : Int32) (y4 : Int32) : ∃ (r : Int32) (oc : Int32 × (Nat → Int32) × (Nat → Int32) × (Nat → Int32) × (Nat → Int32) × (Nat → Int64) × (Nat → Int32)) (om : (Nat → Int32)), f_X10_cheapest N y1 y2 y3 y4 size on kinds marks nb reached dist lastW par ord paths costs = some (r, oc) ∧ f_X11_cheapest N y1 y2 y3 y4 wide tall groups top rolled kind mark onward = some (r, om) ∧ Rl size on kinds marks nb plen rowW rowS wide tall groups rowMany top east south rolled kind mark rowWay rowSeen := by
  obtain ⟨w, h, g, n, K, M, rw_, rs, hB, hC, hM⟩ := id hR
  obtain ⟨b1, b2, b3, b4, b5, b6, b7, b8, b9, b10⟩ := id hB
  obtain ⟨rfl, rfl, c3, c4, c5, rfl, c7, c8⟩ := id hC
  obtain ⟨rfl, rfl, rfl, rfl, m5, m6, m7, m8, m9, m10⟩ := id hM
  have w1 := wh25 b2 b4
  have w2 := wh4 b1 b3
  have hNB : 1000000000000 ≤ N := hN
  unfold f_X10_cheapest f_X11_cheapest
  rw [p_ref w1, m_ref (by omega) (by omega), Option.bind_some, Option.bind_some]
  rcases may_c w1 y1 y2 y3 y4 with ⟨e1, e2⟩ | ⟨e1, c, s, gg, v, hc, hs, hg, hv, hv2, rfl, rfl, rfl, rfl⟩
  · rw [if_neg e1, if_neg e2]
    exact ⟨_, _, _, rfl, rfl, hR⟩
  · rw [if_pos e1, e1, if_pos (by decide)]
    unfold f_X4_at f_X5_leastPrints f_X11_cells
    have hs0 : 24 * c + s < 24 * (w * h) := by omega
    have hg25 : gg < 25 := by omega
    obtain ⟨y1, y2, S, q1, q2, q3, q4⟩ := p_dsearch hB hC (reached, dist, lastW, par, ord, paths) (N := N) (s0 := 24 * c + s) (by omega) hs0
    have hisD := DS_isD q4
    obtain ⟨z1, z, r1, r2, V, r3, r4, r5⟩ := m_cheap hB hM (N := N) (x1 := nI c) (x2 := nI s) (onward := onward) hNB hg25 hv hv2
    have hRL0 : RLc (rl w h K M g) (24 * c + s) (fun t => if t = 24 * c + s then 0 else 1000000) (fun t => if t = 24 * c + s then 0 else 1000000) 0 (upd (fil 1000000 600 costs) (24 * c + s) 0) := by
      refine ⟨fun t ht => ⟨?_, Nat.le_refl _, ?_⟩, fun t ht hl => ?_, Or.inr ⟨rfl, fun _ _ => rfl⟩⟩
      · show upd (fil 1000000 600 costs) (24 * c + s) 0 t = nI (if t = 24 * c + s then 0 else 1000000)
        rw [updn]
        by_cases e : t = 24 * c + s
        · rw [if_pos e, if_pos e]; rfl
        · rw [if_neg e, if_neg e, fil_lt ht]; rfl
      · show (if t = 24 * c + s then 0 else 1000000) ≤ 1000000
        split <;> omega
      · have hl : (if t = 24 * c + s then 0 else 1000000) < 1000000 := hl
        by_cases e : t = 24 * c + s
        · exact ⟨0, by show (if t = 24 * c + s then 0 else 1000000) = 0; rw [if_pos e], e.symm⟩
        · rw [if_neg e] at hl; omega
    obtain ⟨cs, u1, C, u2, u3⟩ := p_lp52 hB hC (N := N) (x2 := nI gg) (x3 := nI v) q3 q4 (by omega) hs0 hRL0 (if_pos rfl)
    have u4 := p_lp84 (N := N) (x2 := nI gg) (x3 := nI v) (P := gl gg v) (C := C) (cs := cs) (by omega) (fun s hs => p_meets hs hg25 hv hv2) (fun t ht => ⟨(u2.1 t ht).1, (u2.1 t ht).2.2⟩)
    obtain ⟨l1, l2, l3⟩ := lmn_b (C := C) (P := gl gg v) 600
    have hglT : ∀ t, gl gg v t = true → t < 24 * (w * h) := fun t ht => by
      have := beq_iff_eq.mp (Bool.and_eq_true_iff.mp ht).1
      omega
    have hVle : ∀ t, gl gg v t = true → C t < 1000000 → V (24 * c + s) ≤ C t := fun t ht hl => by
      have htT := hglT t ht
      obtain ⟨k, hk⟩ := u2.2.1 t (by omega) hl
      have a1 := (wk_le (rl_b hB) r5 k _ _ _ hs0 hk).2
      have a2 := r4.2.2 t htT (by
        show (decide (t < 24 * (w * h)) && gl gg v t) = true
        rw [decide_eq_true htT, ht]; rfl)
      omega
    have hVF : V (24 * c + s) < FAR → lmn C (gl gg v) 600 ≤ V (24 * c + s) ∧ lmn C (gl gg v) 600 < 1000000 := fun hF => by
      obtain ⟨k, q, hq, hw⟩ := r4.2.1 _ hs0 hF
      have hgq := (Bool.and_eq_true_iff.mp hq).2
      obtain ⟨a1, b, _, a2⟩ := wk_D (rl_b hB) hisD k _ _ q 0 hs0 ((hisD.1 _ hs0).mpr rfl) hw
      obtain ⟨x, hx, hm⟩ := Mn_ex _ k hw
      have a3 := u3 q x hm
      have a4 := l2 q (by omega) hgq
      obtain ⟨s2, hs2, hs3, x2, hw2⟩ := D_wk (c := prt) hisD b q a1 a2
      subst hs3
      have a5 := wk_6 (fun t => (prt_6 t).1) _ _ _ _ hw2
      have a6 := hm.2 _ _ hw2
      have a7 := Sr_d6 q3 _ _ a2
      exact ⟨by omega, by omega⟩
    rw [at24, Option.bind_some, Option.bind_some, show (24 : Int32) * (nI w * nI h) = nI (24 * (w * h)) by rw [pk_mul, al24], r1, Option.bind_some, r2, Option.bind_some, rdn (show 24 * c + s < 600 by omega) (by decide), Option.bind_some, Option.bind_some, cln (by omega), r3 _ hs0]
    rw [show f_X8_begin N (nI (24 * c + s)) reached dist lastW par ord paths = some y1 from q1, Option.bind_some, q2, Option.bind_some, p_fill14 (by omega), Option.bind_some, if_neg (nI_pos (by omega)), if_neg (show ¬ (600 : Int32) ≤ nI (24 * c + s) from nI_ge (show 24 * c + s < 600 by omega) (by decide)), ckn (show 24 * c + s < 600 by omega) (by decide), Option.bind_some]
    unfold f_X5_leastPrints_j46
    rw [u1, Option.bind_some, u4, Option.bind_some]
    have hVl := r4.1 _ hs0
    by_cases hF : V (24 * c + s) < FAR
    · obtain ⟨a1, a2⟩ := hVF hF
      have hE : lmn C (gl gg v) 600 = V (24 * c + s) := by
        rcases l3 with e | ⟨t, ht, a3, a4⟩
        · omega
        · have := hVle t a3 (by omega)
          omega
      rw [hE, if_neg (show ¬ nI (V (24 * c + s)) = 1000000 from fun q => by have := (nI_eq (b := 1000000) (by omega) (by decide)).mp q; omega), if_neg (show ¬ nI (V (24 * c + s)) = 100000000 from fun q => by have := (nI_eq (b := 100000000) (by omega) (by decide)).mp q; omega)]
      exact ⟨_, _, _, rfl, rfl, hR⟩
    · have hE : lmn C (gl gg v) 600 = 1000000 := by
        rcases l3 with e | ⟨t, ht, a3, a4⟩
        · exact e
        · refine Nat.le_antisymm l1 (Nat.le_of_not_lt (fun z => ?_))
          have := hVle t a3 (by omega)
          unfold FAR at hF
          omega
      rw [hE, if_pos (show nI 1000000 = 1000000 from rfl), show V (24 * c + s) = FAR by omega, if_pos (show nI FAR = 100000000 from rfl)]
      exact ⟨-9, _, _, rfl, rfl, hR⟩
