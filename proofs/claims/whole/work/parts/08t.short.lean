/-! shortest, ways, stances -/
/-- the first of the order for which P holds -/
def FE (P : Nat → Bool) (S : AS) (o : Option Nat) : Prop := (o = none ∧ ∀ k, k < S.1 → P (S.2.1 k) = false) ∨ ∃ k, k < S.1 ∧ o = some (S.2.1 k) ∧ P (S.2.1 k) = true ∧ ∀ j, j < k → P (S.2.1 j) = false
def DS (A : Nat → Nat → Option Nat) (M s0 : Nat) (S : AS) : Prop := BI A M 1 (4 * S.1) S ∧ S.2.1 0 = s0
theorem DS_isD {A : Nat → Nat → Option Nat} {M s0 : Nat} {S : AS} (h : DS A M s0 S) : IsD M (fun s => s = s0) (RA A) S.2.2.1 :=
  IsD_cong (BI_isD h.1) (fun s _ => ⟨fun ⟨i, hi, e⟩ => by rw [← e, show i = 0 by omega]; exact h.2, fun e => ⟨0, Nat.zero_lt_one, by rw [e]; exact h.2⟩⟩) (fun _ _ _ _ _ z => z) (fun _ _ _ _ _ z => z)
theorem FE_D {A : Nat → Nat → Option Nat} {M r0 : Nat} {S : AS} {P : Nat → Bool} {o : Option Nat} (h : BI A M r0 (4 * S.1) S) (hF : FE P S o) : (o = none ∧ ∀ t, P t = true → S.2.2.1 t = none) ∨ ∃ x v, o = some x ∧ x < M ∧ P x = true ∧ S.2.2.1 x = some v ∧ ∀ t u, P t = true → S.2.2.1 t = some u → v ≤ u := by
  rcases hF with ⟨e, hF⟩ | ⟨k, hk, e, hP, hF⟩
  · refine Or.inl ⟨e, fun t ht => ?_⟩
    cases hd : S.2.2.1 t with
    | none => rfl
    | some u =>
      obtain ⟨i, hi, e2⟩ := h.2.2.1 t (some_ne hd)
      have := hF i hi
      rw [e2, ht] at this; cases this
  · obtain ⟨v, hv⟩ := Option.ne_none_iff_exists'.mp (h.2.1 k hk).2
    refine Or.inr ⟨S.2.1 k, v, e, (h.2.1 k hk).1, hP, hv, fun t u ht hu => ?_⟩
    obtain ⟨i, hi, e2⟩ := h.2.2.1 t (some_ne hu)
    have hki : k ≤ i := Nat.le_of_not_lt (fun z => by have := hF i z; rw [e2, ht] at this; cases this)
    exact BI_mono h i k hki hi v u hv (by rw [e2]; exact hu)
theorem p_reachedAt {S : AS} {y : AR} {k : Nat} (hS : SrT S y) (hk : k < S.1) : f_X8_reachedAt (nI k) y.1 y.2.2.2.2.1 = some (nI (S.2.1 k)) := by
  have h6 := Sr_600 hS
  unfold f_X8_reachedAt
  rw [show y.1 = nI S.1 from hS.2.1, if_neg (nI_pos (by omega)), if_neg (nI_ge hk (by omega)), if_neg (show ¬ (600 : Int32) ≤ nI k from nI_ge (show k < 600 by omega) (by decide)), rdn (show k < 600 by omega) (by decide), Option.bind_some, cln (by omega), (hS.2.2.1 k hk).1]
theorem p_distTo {S : AS} {y : AR} {s : Nat} (hS : SrT S y) (hs : s < 600) : f_X8_distanceTo (nI s) y.2.1 = some (en (S.2.2.1 s)) := by
  unfold f_X8_distanceTo
  rw [p_isState hs, Option.bind_some, if_neg (by decide), rdn hs (by decide), Option.bind_some, cln (by omega), hS.2.2.2.1 s hs]
theorem p_distO {S : AS} {y : AR} {o : Option Nat} (hS : SrT S y) (hs : ∀ s, o = some s → s < 600) : f_X8_distanceTo (en o) y.2.1 = some (en (o.bind S.2.2.1)) := by
  cases o with
  | none => rfl
  | some s => exact p_distTo hS (hs s rfl)
theorem p_pathsTo {S : AS} {y : AR} {s : Nat} (hS : SrT S y) (hs : s < 600) (hd : S.2.2.1 s ≠ none) : f_X8_pathsTo (nI s) y.2.2.2.2.2 = some (lN (S.2.2.2.2 s)) := by
  unfold f_X8_pathsTo
  rw [p_isState hs, Option.bind_some, if_neg (by decide), rdn hs (by decide), Option.bind_some, cln (by omega), (hS.2.2.2.2.2 s hs hd).2.2]
theorem Sr_d6 {S : AS} {y : AR} (hS : SrT S y) : ∀ s v, S.2.2.1 s = some v → v < 600 := fun s v e => by
  have := hS.2.2.2.2.1 s v e
  have := Sr_600 hS
  omega
section SH
variable {w h g n : Nat} {K M rw_ rs : Nat → Nat} {size on : Int32} {kinds marks nb : Nat → Int32} {plen : Int32} {rowW rowS : Nat → Int32} {wide tall groups rowMany : Int32} {top east south rolled kind mark rowWay rowSeen : Nat → Int32}
theorem p_dsearch (hB : Bd w h g n K M rw_ rs) (hC : Rc w h g n K M rw_ rs size on kinds marks nb plen rowW rowS) {N s0 : Nat} (y : AR) (hN : 1000 < N) (hs : s0 < 24 * (w * h)) : ∃ y1 y2 S, f_X8_begin N (nI s0) y.1 y.2.1 y.2.2.1 y.2.2.2.1 y.2.2.2.2.1 y.2.2.2.2.2 = some y1 ∧ f_X8_spread_r12 N size on kinds marks nb y1.1 y1.2.1 y1.2.2.1 y1.2.2.2.1 y1.2.2.2.2.1 y1.2.2.2.2.2 = some y2 ∧ SrT S y2 ∧ DS (rl w h K M g) (24 * (w * h)) s0 S := by
  have w1 := wh25 hB.2.1 hB.2.2.2.1
  obtain ⟨y1, y2, q1, q2, S, q3, q4, q5⟩ := p_search (A := rl w h K M g) (M := 24 * (w * h)) (af := fun a b => f_X4_after a b size on kinds marks nb) (by omega) (fun s d hs hd => ⟨p_after hB hC hs hd, rl_b hB s d hs hd⟩) (y := y) hN hs
  exact ⟨y1, y2, S, q1, q2, q3, q4, q5⟩
theorem p_endLoop {x2 x3 : Int32} {S : AS} {y : AR} {N : Nat} {P : Nat → Bool} (hS : SrT S y) (hN : 1000 < N) (hP : ∀ s, s < 600 → f_X5_meets (nI s) x2 x3 = some (bI (P s))) : ∃ z, f_X5_endOf_l22 x2 x3 y.1 y.2.1 y.2.2.1 y.2.2.2.1 y.2.2.2.2.1 y.2.2.2.2.2 N 0 = some z ∧ ∃ o, FE P S o ∧ Sum.elim (fun rr => some rr) (fun (_ : Unit) => some ((-1 : Int32), y)) z = some (en o, y) := by
  have h6 := Sr_600 hS
  refine lp_ex (b := fun rec z => f_X5_endOf_b22 x2 x3 y.1 y.2.1 y.2.2.1 y.2.2.2.1 y.2.2.2.2.1 y.2.2.2.2.2 rec z) (fun m x => ∃ k, m + k = S.1 ∧ x = nI k ∧ ∀ j, j < k → P (S.2.1 j) = false) (fun z => ∃ o, FE P S o ∧ Sum.elim (fun rr => some rr) (fun (_ : Unit) => some ((-1 : Int32), y)) z = some (en o, y)) ?_ N S.1 0 ⟨0, by omega, rfl, fun j hj => absurd hj (Nat.not_lt_zero j)⟩ (by omega)
  rintro m x ⟨k, hm, rfl, h1⟩ rec hrec
  show ∃ z, f_X5_endOf_b22 x2 x3 y.1 y.2.1 y.2.2.1 y.2.2.2.1 y.2.2.2.2.1 y.2.2.2.2.2 rec (nI k) = some z ∧ _
  unfold f_X5_endOf_b22 f_X8_reached
  rw [Option.bind_some]
  by_cases e : k < S.1
  · rw [p_reachedAt hS e, show y.1 = nI S.1 from hS.2.1, if_neg (nI_ge e (by omega)), Option.bind_some, hP _ (hS.2.2.1 k e).2, Option.bind_some, nI_1]
    cases hp : P (S.2.1 k) with
    | false =>
      rw [if_pos (show bI false = 0 from rfl)]
      refine hrec (m - 1) _ (by omega) ⟨k + 1, by omega, rfl, fun j hj => ?_⟩
      by_cases e2 : j = k
      · rw [e2]; exact hp
      · exact h1 j (by omega)
    | true =>
      rw [if_neg (show ¬ bI true = 0 by decide)]
      refine ⟨_, rfl, some (S.2.1 k), Or.inr ⟨k, e, rfl, hp, h1⟩, ?_⟩
      rw [← show y.1 = nI S.1 from hS.2.1]
      rfl
  · rw [show y.1 = nI S.1 from hS.2.1, show k = S.1 by omega, if_pos (Int32.le_refl _)]
    exact ⟨_, rfl, none, Or.inl ⟨rfl, fun j hj => h1 j (by omega)⟩, rfl⟩
theorem p_endOf5 (hB : Bd w h g n K M rw_ rs) (hC : Rc w h g n K M rw_ rs size on kinds marks nb plen rowW rowS) {N s0 goal v : Nat} (y : AR) (hN : 1000 < N) (hs : s0 < 24 * (w * h)) (hg : goal < 25) (hv : v < 34) (hv2 : v < 7 ∨ 9 < v) : ∃ y2 S o, f_X5_endOf N (nI s0) (nI goal) (nI v) size on kinds marks nb y.1 y.2.1 y.2.2.1 y.2.2.2.1 y.2.2.2.2.1 y.2.2.2.2.2 = some (en o, y2) ∧ SrT S y2 ∧ DS (rl w h K M g) (24 * (w * h)) s0 S ∧ FE (gl goal v) S o := by
  obtain ⟨y1, y2, S, q1, q2, q3, q4⟩ := p_dsearch hB hC y hN hs
  obtain ⟨z, z1, o, z2, z3⟩ := p_endLoop (x2 := nI goal) (x3 := nI v) (N := N) (P := gl goal v) q3 hN (fun s hs => p_meets hs hg hv hv2)
  refine ⟨y2, S, o, ?_, q3, q4, z2⟩
  unfold f_X5_endOf
  rw [q1, Option.bind_some, q2, Option.bind_some, z1, Option.bind_some]
  exact z3
theorem m_shortOf {N goal v : Nat} {D : Nat → Option Nat} {rolls : Nat → Int32} {T : Nat} (hN : 1000 < N) (ht : ∀ s, s < 24 → top s = nI (tp s)) (hT : T ≤ 600) (hg : 24 * goal + 24 ≤ T) (hv : v < 34) (hv2 : v < 7 ∨ 9 < v) (hr : ∀ t, t < T → rolls t = fr (D t)) (hD6 : ∀ s v, D s = some v → v < 600) : ∃ b, f_X11_shortestOf N (nI goal) (nI v) top rolls = some (nI b) ∧ (b = 100000000 ∨ ∃ t, t < T ∧ gl goal v t = true ∧ D t = some b) ∧ ∀ t u, gl goal v t = true → D t = some u → b ≤ u := by
  have hl : ∃ x, f_X11_shortestOf_l9 (nI goal) (nI v) top rolls N (100000000, 24 * nI goal) = some x ∧ ∃ b, x = nI b ∧ (b = 100000000 ∨ ∃ t, t < T ∧ gl goal v t = true ∧ D t = some b) ∧ ∀ t u, t < 24 * goal + 24 → gl goal v t = true → D t = some u → b ≤ u := by
    refine lp_ex (b := fun rec z => f_X11_shortestOf_b9 (nI goal) (nI v) top rolls rec z.1 z.2) (fun m x => ∃ k b, m + k = 24 * goal + 24 ∧ x.2 = nI k ∧ x.1 = nI b ∧ (b = 100000000 ∨ ∃ t, t < T ∧ gl goal v t = true ∧ D t = some b) ∧ ∀ t u, t < k → gl goal v t = true → D t = some u → b ≤ u) (fun x => ∃ b, x = nI b ∧ (b = 100000000 ∨ ∃ t, t < T ∧ gl goal v t = true ∧ D t = some b) ∧ ∀ t u, t < 24 * goal + 24 → gl goal v t = true → D t = some u → b ≤ u) ?_ N 24 (100000000, 24 * nI goal) ⟨24 * goal, 100000000, by omega, al24 goal, rfl, Or.inl rfl, fun t u ht hgl => ?_⟩ (by omega)
    · rintro m ⟨x3, x4⟩ ⟨k, b, hm, hx, hx3, h1, h2⟩ rec hrec
      have hx : x4 = nI k := hx
      have hx3 : x3 = nI b := hx3
      subst hx; subst hx3
      have hb : b ≤ 100000000 := by
        rcases h1 with q | ⟨t, _, _, q⟩
        · omega
        · have := hD6 t b q; omega
      show ∃ x, f_X11_shortestOf_b9 (nI goal) (nI v) top rolls rec (nI b) (nI k) = some x ∧ _
      unfold f_X11_shortestOf_b9
      rw [al24, show nI (24 * goal) + 24 = nI (24 * goal + 24) from nI_add _ 24]
      by_cases e : k = 24 * goal + 24
      · rw [e, if_pos (Int32.le_refl _)]
        exact ⟨_, rfl, b, rfl, h1, fun t u ht => h2 t u (by omega)⟩
      · rw [if_neg (nI_ge (show k < 24 * goal + 24 by omega) (by omega)), m_isGoal ht (by omega) (by omega) hv hv2, Option.bind_some, nI_1]
        cases hgk : gl goal v k with
        | false =>
          rw [if_pos (show bI false = 0 from rfl)]
          refine hrec (m - 1) _ (by omega) ⟨k + 1, b, by omega, rfl, rfl, h1, fun t u htk hgt hu => ?_⟩
          by_cases e2 : t = k
          · rw [e2, hgk] at hgt; cases hgt
          · exact h2 t u (by omega) hgt hu
        | true =>
          rw [if_neg (show ¬ bI true = 0 by decide), rdn (show k < 600 by omega) (by decide), Option.bind_some, Option.bind_some, cln (by omega), hr k (by omega)]
          cases hd : D k with
          | none =>
            rw [if_pos (show nI b ≤ fr none from nI_le (show b ≤ 100000000 by omega) (by decide))]
            refine hrec (m - 1) _ (by omega) ⟨k + 1, b, by omega, rfl, rfl, h1, fun t u htk hgt hu => ?_⟩
            by_cases e2 : t = k
            · rw [e2, hd] at hu; cases hu
            · exact h2 t u (by omega) hgt hu
          | some u0 =>
            have hu0 := hD6 k u0 hd
            by_cases hle : b ≤ u0
            · rw [if_pos (show nI b ≤ fr (some u0) from nI_le hle (by omega))]
              refine hrec (m - 1) _ (by omega) ⟨k + 1, b, by omega, rfl, rfl, h1, fun t u htk hgt hu => ?_⟩
              by_cases e2 : t = k
              · rw [e2, hd] at hu; cases hu; exact hle
              · exact h2 t u (by omega) hgt hu
            · rw [if_neg (show ¬ nI b ≤ fr (some u0) from nI_ge (by omega) (by omega))]
              refine hrec (m - 1) _ (by omega) ⟨k + 1, u0, by omega, rfl, rfl, Or.inr ⟨k, by omega, hgk, hd⟩, fun t u htk hgt hu => ?_⟩
              by_cases e2 : t = k
              · rw [e2, hd] at hu; cases hu; exact Nat.le_refl _
              · have := h2 t u (by omega) hgt hu; omega
    · unfold gl at hgl
      have := beq_iff_eq.mp (Bool.and_eq_true_iff.mp hgl).1
      omega
  obtain ⟨x, q1, b, rfl, q2, q3⟩ := hl
  refine ⟨b, ?_, q2, fun t u hgt hu => q3 t u ?_ hgt hu⟩
  · unfold f_X11_shortestOf
    rw [q1]; rfl
  · unfold gl at hgt
    have := beq_iff_eq.mp (Bool.and_eq_true_iff.mp hgt).1
    omega
end SH
theorem s_shortest (N : Nat) (hN : NB ≤ N) {size : Int32} {on : Int32} {kinds : Nat → Int32} {marks : Nat → Int32} {nb : Nat → Int32} {reached : Int32} {dist : Nat → Int32} {lastW : Nat → Int32} {par : Nat → Int32} {ord : Nat → Int32} {paths : Nat → Int64} {plen : Int32} {rowW : Nat → Int32} {rowS : Nat → Int32} {wide : Int32} {tall : Int32} {groups : Int32} {rowMany : Int32} {top : Nat → Int32} {east : Nat → Int32} {south : Nat → Int32} {rolled : Nat → Int32} {kind : Nat → Int32} {mark : Nat → Int32} {rolls : Nat → Int32} {many : Nat → Int64} {rowWay : Nat → Int32} {rowSeen : Nat → Int32} (hR : Rl size on kinds marks nb plen rowW rowS wide tall groups rowMany top east south rolled kind mark rowWay rowSeen) (y1 : Int32) (y2 : Int32) (y3 : Int32) (y4 : Int32) : ∃ (r : Int32) (oc : Int32 × (Nat → Int32) × (Nat → Int32) × (Nat → Int32) × (Nat → Int32) × (Nat → Int64)) (om : (Nat → Int32) × (Nat → Int64)), f_X10_shortest N y1 y2 y3 y4 size on kinds marks nb reached dist lastW par ord paths = some (r, oc) ∧ f_X11_shortest N y1 y2 y3 y4 wide tall groups top rolled kind mark rolls many = some (r, om) ∧ Rl size on kinds marks nb plen rowW rowS wide tall groups rowMany top east south rolled kind mark rowWay rowSeen := by
  obtain ⟨w, h, g, n, K, M, rw_, rs, hB, hC, hM⟩ := id hR
  obtain ⟨b1, b2, b3, b4, b5, b6, b7, b8, b9, b10⟩ := id hB
  obtain ⟨rfl, rfl, c3, c4, c5, rfl, c7, c8⟩ := id hC
  obtain ⟨rfl, rfl, rfl, rfl, m5, m6, m7, m8, m9, m10⟩ := id hM
  have w1 := wh25 b2 b4
  have w2 := wh4 b1 b3
  have hNB : 1000000000000 ≤ N := hN
  unfold f_X10_shortest f_X11_shortest
  rw [p_ref w1, m_ref (by omega) (by omega), Option.bind_some, Option.bind_some]
  rcases may_c w1 y1 y2 y3 y4 with ⟨e1, e2⟩ | ⟨e1, c, s, gg, v, hc, hs, hg, hv, hv2, rfl, rfl, rfl, rfl⟩
  · rw [if_neg e1, if_neg e2]
    exact ⟨_, _, _, rfl, rfl, hR⟩
  · rw [if_pos e1, e1, if_pos (by decide)]
    unfold f_X4_at f_X5_length
    rw [at24, Option.bind_some]
    obtain ⟨y2, S, o, q1, q2, q3, q4⟩ := p_endOf5 hB hC (reached, dist, lastW, par, ord, paths) (N := N) (s0 := 24 * c + s) (by omega) (by omega) (show gg < 25 by omega) hv hv2
    have hD := DS_isD q3
    have hD6 := Sr_d6 q2
    obtain ⟨z, z1, z2⟩ := m_layFrom hB hM (s0 := 24 * c + s) (by omega) hD (BI_isC q3.1) hD6 (N := N) (rolls := rolls) (many := many) (by omega)
    obtain ⟨b, x1, x2, x3⟩ := m_shortOf (N := N) (goal := gg) (v := v) (T := 24 * (w * h)) (by omega) (fun s hs => (m5 s hs).1) (by omega) (by omega) hv hv2 (fun t ht => (z2 t ht).1) hD6
    rw [show f_X5_endOf N (nI (24 * c + s)) (nI gg) (nI v) (nI (w * h)) (nI g) kinds marks nb reached dist lastW par ord paths = some (en o, y2) from q1, Option.bind_some, z1, Option.bind_some, x1, Option.bind_some]
    rcases FE_D q3.1 q4 with ⟨rfl, f1⟩ | ⟨x, u, rfl, hx, f1, f2, f3⟩
    · have hb : b = 100000000 := by
        rcases x2 with q | ⟨t, _, a1, a2⟩
        · exact q
        · rw [f1 t a1] at a2; cases a2
      subst hb
      rw [if_pos (show nI 100000000 = 100000000 from rfl)]
      exact ⟨_, _, _, rfl, rfl, hR⟩
    · have hbu := x3 x u f1 f2
      have hu6 := hD6 x u f2
      have hb : b = u := by
        rcases x2 with q | ⟨t, _, a1, a2⟩
        · omega
        · have := f3 t b a1 a2; omega
      subst hb
      rw [if_neg (show ¬ nI b = 100000000 from fun q => by have := (nI_eq (a := b) (b := 100000000) (by omega) (by decide)).mp q; omega)]
      rw [p_distO q2 (fun s hs => by cases hs; omega), Option.bind_some, Option.bind_some, f2, p_nine _ (fun q hq => by cases hq; omega), Option.bind_some]
      exact ⟨_, _, _, rfl, rfl, hR⟩
