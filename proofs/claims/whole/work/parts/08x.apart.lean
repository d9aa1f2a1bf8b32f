/-! apart -/
def rwd (s : Nat) (w : List Nat) : Nat := w.foldl tu s
def wdF : List (List Nat) := [[], [0, 3, 2], [0, 1, 2], [0, 0, 1, 1], [0, 1, 1], [3, 2], [1, 2], [2], [0, 1], [1], [0, 0, 1], [2, 1], [0, 3], [3], [0, 0, 3], [2, 3], [0], [1, 0], [3, 0], [1, 1, 0], [1, 1], [0, 1, 0], [0, 3, 0], [0, 0]]
def wdT : List (List Nat) := [[], [0, 1, 2], [0, 3, 2], [0, 0, 1, 1], [0, 1, 1], [0, 1], [0, 3], [0], [3, 2], [3], [0, 0, 1], [3, 0], [1, 2], [1], [0, 0, 3], [1, 0], [2], [2, 3], [2, 1], [1, 1, 0], [1, 1], [0, 1, 0], [0, 3, 0], [0, 0]]
theorem wd_k : ∀ s, s < 24 → rwd 0 (wdF.getD s []) = s ∧ rwd s (wdT.getD s []) = 0 ∧ (wdF.getD s []).all (fun d => decide (d < 4)) = true ∧ (wdT.getD s []).all (fun d => decide (d < 4)) = true := by decide +kernel
theorem rwd_P {P : Nat → Prop} (hP : ∀ s d, s < 24 → d < 4 → P s → P (tu s d)) : ∀ w s, s < 24 → w.all (fun d => decide (d < 4)) = true → P s → P (rwd s w)
  | [], s, _, _, h => h
  | d :: w, s, hs, ha, h => by
    have h1 := (List.all_cons (a := d) (l := w) (f := fun d => decide (d < 4))).symm.trans ha
    have h2 := Bool.and_eq_true_iff.mp h1
    have hd := of_decide_eq_true h2.1
    exact rwd_P hP w (tu s d) (tu_lt hs hd) h2.2 (hP s d hs hd h)
theorem all_P {P : Nat → Prop} (hP : ∀ s d, s < 24 → d < 4 → P s → P (tu s d)) {a b : Nat} (ha : a < 24) (hb : b < 24) (h : P a) : P b := by
  obtain ⟨_, t1, _, t2⟩ := wd_k a ha
  obtain ⟨f1, _, f2, _⟩ := wd_k b hb
  have h0 := rwd_P hP (wdT.getD a []) a ha t2 h
  rw [t1] at h0
  have h3 := rwd_P hP (wdF.getD b []) 0 (by decide) f2 h0
  rw [f1] at h3; exact h3
def tA (s d : Nat) : Option Nat := some (tu s d)
theorem p_tA : ∀ s d, s < 24 → d < 4 → f_X3_after (nI s) (nI d) = some (en (tA s d)) ∧ ∀ t, tA s d = some t → t < 24 := fun s d hs hd => ⟨by
  unfold f_X3_after; rw [p_turned hs hd]; rfl, fun t e => by cases e; exact tu_lt hs hd⟩
def Lz (D : Nat → Option Nat) (n k : Nat) (off : Nat → Int32) : Prop :=
  ∀ t, t < 24 → (∀ v, D t = some v → v ≤ n → off t = nI v) ∧ ((∀ v, D t = some v → n < v) → (off t = nI 100000000 ∨ (off t = nI (n + 1) ∧ D t = some (n + 1))) ∧ (hit tA D n k t → off t = nI (n + 1)))
theorem m_ap18 {x2 : Int32} {a N : Nat} {off : Nat → Int32} (ha : a < 24) (hN : 1000 < N) : ∃ y, f_X11_apart_l18 (nI a) x2 N (0, off) = some y ∧ ∀ t, t < 24 → y t = if t = a then nI 0 else nI 100000000 := by
  refine lp_ex (b := fun rec z => f_X11_apart_b18 (nI a) x2 rec z.1 z.2) (fun m x => ∃ k, m + k = 24 ∧ x.1 = nI k ∧ ∀ t, t < k → x.2 t = if t = a then nI 0 else nI 100000000) (fun y => ∀ t, t < 24 → y t = if t = a then nI 0 else nI 100000000) ?_ N 24 (0, off) ⟨0, by omega, rfl, fun t ht => absurd ht (Nat.not_lt_zero t)⟩ (by omega)
  rintro m ⟨x3, ro⟩ ⟨k, hm, hx, h1⟩ rec hrec
  have hx : x3 = nI k := hx
  subst hx
  show ∃ y, f_X11_apart_b18 (nI a) x2 rec (nI k) ro = some y ∧ _
  unfold f_X11_apart_b18 f_X11_apart_j40
  by_cases e : k = 24
  · subst e
    rw [if_pos (by decide)]
    exact ⟨_, rfl, h1⟩
  · rw [if_neg (show ¬ (24 : Int32) ≤ nI k from nI_ge (show k < 24 by omega) (by decide)), ckn (show k < 24 by omega) (by decide), Option.bind_some, Option.bind_some, cln (by omega), nI_1]
    by_cases ea : k = a
    · rw [if_pos (by rw [ea])]
      refine hrec (m - 1) _ (by omega) ⟨k + 1, by omega, rfl, fun t ht => ?_⟩
      show upd ro k (nI 0) t = _
      rw [updn]
      by_cases e2 : t = k
      · rw [if_pos e2, if_pos (by omega)]
      · rw [if_neg e2]; exact h1 t (by omega)
    · rw [if_neg (fun z => ea ((nI_eq (by omega) (by omega)).mp z))]
      refine hrec (m - 1) _ (by omega) ⟨k + 1, by omega, rfl, fun t ht => ?_⟩
      show upd ro k (nI 100000000) t = _
      rw [updn]
      by_cases e2 : t = k
      · rw [if_pos e2, if_neg (by omega)]
      · rw [if_neg e2]; exact h1 t (by omega)
theorem m_ap58 {src : Nat → Prop} {x2 : Int32} {N v : Nat} {rolled off : Nat → Int32} {D : Nat → Option Nat} (hr : ∀ s, s < 24 → ∀ d, d < 4 → rolled (4 * s + d) = nI (tu s d)) (hD : IsD 24 src (RA tA) D) (hN : 1000 < N) (hv : v < 1000) (hL : Lz D v 0 off) : ∃ y, f_X11_apart_l58 x2 (nI v) rolled N (0, off) = some y ∧ Lz D v 96 y := by
  refine lp_ex (b := fun rec z => f_X11_apart_b58 x2 (nI v) rolled rec z.1 z.2) (fun m x => ∃ k, m + k = 96 ∧ x.1 = nI k ∧ Lz D v k x.2) (fun y => Lz D v 96 y) ?_ N 96 (0, off) ⟨0, rfl, rfl, hL⟩ (by omega)
  rintro m ⟨x4, ro⟩ ⟨k, hm, hx, h1⟩ rec hrec
  have hx : x4 = nI k := hx
  subst hx
  have h1 : Lz D v k ro := h1
  show ∃ y, f_X11_apart_b58 x2 (nI v) rolled rec (nI k) ro = some y ∧ _
  unfold f_X11_apart_b58 f_X11_apart_j111 f_X11_apart_j118
  by_cases e : k = 96
  · subst e
    rw [if_pos (by decide)]
    exact ⟨_, rfl, h1⟩
  have hk : k / 4 < 24 := by omega
  have k4 : k % 4 < 4 := Nat.mod_lt _ (by decide)
  have ho := tu_lt hk k4
  have hro : rolled k = nI (tu (k / 4) (k % 4)) := by
    have := hr (k / 4) hk (k % 4) k4
    rw [show 4 * (k / 4) + k % 4 = k by omega] at this; exact this
  rw [if_neg (show ¬ (96 : Int32) ≤ nI k from nI_ge (show k < 96 by omega) (by decide)), rdn (show k < 96 by omega) (by decide), Option.bind_some, dv4 (by omega), rdn (show k / 4 < 24 by omega) (by decide), Option.bind_some, cln (by omega), cln (by omega), hro, rdn ho (by decide), Option.bind_some, cln (by omega), ckn ho (by decide)]
  simp only [Option.bind_some, nI_1]
  have hA : tA (k / 4) (k % 4) = some (tu (k / 4) (k % 4)) := rfl
  generalize ht : tu (k / 4) (k % 4) = o at *
  have hsame : (D (k / 4) = some v → ∀ u, D o = some u → v < u → ro o = nI (v + 1)) → ∃ y, rec (nI (k + 1), upd ro o (ro o)) = some y ∧ Lz D v 96 y := fun hz => by
    refine hrec (m - 1) _ (by omega) ⟨k + 1, by omega, rfl, fun t ht => ?_⟩
    show (∀ x, D t = some x → x ≤ v → upd ro o (ro o) t = nI x) ∧ ((∀ x, D t = some x → v < x) → (upd ro o (ro o) t = nI 100000000 ∨ (upd ro o (ro o) t = nI (v + 1) ∧ D t = some (v + 1))) ∧ (hit tA D v (k + 1) t → upd ro o (ro o) t = nI (v + 1)))
    have eu : upd ro o (ro o) t = ro t := by
      rw [updn]
      by_cases z : t = o
      · rw [if_pos z, z]
      · rw [if_neg z]
    rw [eu]
    refine ⟨(h1 t ht).1, fun z => ⟨((h1 t ht).2 z).1, fun hh => ?_⟩⟩
    rcases hit_s.mp hh with q | ⟨q1, q2⟩
    · exact ((h1 t ht).2 z).2 q
    · rw [hA] at q2; cases q2
      obtain ⟨u, hu1, hu2⟩ := hD.2.1 (k / 4) o v hk ho q1 ⟨k % 4, k4, hA⟩
      exact hz q1 u hu2 (z u hu2)
  by_cases hn : D (k / 4) = some v
  · rw [(h1 (k / 4) hk).1 v hn (Nat.le_refl _), if_pos rfl]
    obtain ⟨u, hu1, hu2⟩ := hD.2.1 (k / 4) o v hk ho hn ⟨k % 4, k4, hA⟩
    by_cases huv : u ≤ v
    · have := (h1 o ho).1 u hu2 huv
      rw [if_neg (show ¬ ro o = 100000000 from fun z => by rw [this] at z; have := (nI_eq (a := u) (b := 100000000) (by omega) (by decide)).mp z; omega)]
      exact hsame (fun _ u2 q1 q2 => by rw [hu2] at q1; cases q1; omega)
    · have hu3 : D o = some (v + 1) := by rw [hu2, show u = v + 1 by omega]
      have hz : ∀ x, D o = some x → v < x := fun x q => by rw [hu3] at q; cases q; omega
      rcases ((h1 o ho).2 hz).1 with q | ⟨q, _⟩
      · rw [if_pos (show ro o = 100000000 from q)]
        refine hrec (m - 1) _ (by omega) ⟨k + 1, by omega, rfl, fun t ht => ?_⟩
        show (∀ x, D t = some x → x ≤ v → upd ro o (nI (v + 1)) t = nI x) ∧ ((∀ x, D t = some x → v < x) → (upd ro o (nI (v + 1)) t = nI 100000000 ∨ (upd ro o (nI (v + 1)) t = nI (v + 1) ∧ D t = some (v + 1))) ∧ (hit tA D v (k + 1) t → upd ro o (nI (v + 1)) t = nI (v + 1)))
        rw [updn]
        by_cases et : t = o
        · rw [if_pos et]
          refine ⟨fun x q hq => by rw [et] at q; have := hz x q; omega, fun _ => ⟨Or.inr ⟨rfl, by rw [et]; exact hu3⟩, fun _ => rfl⟩⟩
        · rw [if_neg et]
          refine ⟨(h1 t ht).1, fun z => ⟨((h1 t ht).2 z).1, fun hh => ?_⟩⟩
          rcases hit_s.mp hh with q | q
          · exact ((h1 t ht).2 z).2 q
          · rw [hA] at q; exact absurd (by cases q.2; rfl) et
      · rw [if_neg (show ¬ ro o = 100000000 from fun z => by rw [q] at z; have := (nI_eq (a := v + 1) (b := 100000000) (by omega) (by decide)).mp z; omega)]
        exact hsame (fun _ _ _ _ => q)
  · have hne : ¬ ro (k / 4) = nI v := fun z => by
      cases hd : D (k / 4) with
      | none =>
        rcases ((h1 (k / 4) hk).2 (fun x q => by rw [hd] at q; cases q)).1 with q | ⟨q, _⟩
        · rw [q] at z; have := (nI_eq (by decide) (by omega)).mp z; omega
        · rw [q] at z; have := (nI_eq (by omega) (by omega)).mp z; omega
      | some u =>
        by_cases huv : u ≤ v
        · rw [(h1 (k / 4) hk).1 u hd huv] at z
          have := (nI_eq (by omega) (by omega)).mp z
          exact hn (by rw [hd, this])
        · rcases ((h1 (k / 4) hk).2 (fun x q => by rw [hd] at q; cases q; omega)).1 with q | ⟨q, _⟩
          · rw [q] at z; have := (nI_eq (by decide) (by omega)).mp z; omega
          · rw [q] at z; have := (nI_eq (by omega) (by omega)).mp z; omega
    rw [if_neg hne]
    exact hsame (fun z => absurd z hn)
theorem m_ap49 {src : Nat → Prop} {x2 : Int32} {N : Nat} {rolled off : Nat → Int32} {D : Nat → Option Nat} (hr : ∀ s, s < 24 → ∀ d, d < 4 → rolled (4 * s + d) = nI (tu s d)) (hD : IsD 24 src (RA tA) D) (hN : 1000 < N) (hL : Lz D 0 0 off) : ∃ y, f_X11_apart_l49 N x2 rolled N (0, off) = some y ∧ Lz D 24 0 y := by
  refine lp_ex (b := fun rec z => f_X11_apart_b49 N x2 rolled rec z.1 z.2) (fun m x => ∃ k, m + k = 24 ∧ x.1 = nI k ∧ Lz D k 0 x.2) (fun y => Lz D 24 0 y) ?_ N 24 (0, off) ⟨0, rfl, rfl, hL⟩ (by omega)
  rintro m ⟨x3, ro⟩ ⟨v, hm, hx, h1⟩ rec hrec
  have hx : x3 = nI v := hx
  subst hx
  have h1 : Lz D v 0 ro := h1
  show ∃ y, f_X11_apart_b49 N x2 rolled rec (nI v) ro = some y ∧ _
  unfold f_X11_apart_b49
  by_cases e : v = 24
  · subst e
    rw [if_pos (by decide)]
    exact ⟨_, rfl, h1⟩
  · obtain ⟨y, q1, q2⟩ := m_ap58 (x2 := x2) hr hD hN (show v < 1000 by omega) h1
    rw [if_neg (show ¬ (24 : Int32) ≤ nI v from nI_ge (show v < 24 by omega) (by decide)), q1, Option.bind_some, nI_1]
    refine hrec (m - 1) _ (by omega) ⟨v + 1, by omega, rfl, fun t ht => ?_⟩
    show (∀ x, D t = some x → x ≤ v + 1 → y t = nI x) ∧ ((∀ x, D t = some x → v + 1 < x) → (y t = nI 100000000 ∨ (y t = nI (v + 1 + 1) ∧ D t = some (v + 1 + 1))) ∧ (hit tA D (v + 1) 0 t → y t = nI (v + 1 + 1)))
    refine ⟨fun x hx hxv => ?_, fun z => ⟨?_, fun ⟨e, he, _⟩ => absurd he (Nat.not_lt_zero e)⟩⟩
    · by_cases e : x = v + 1
      · subst e
        refine ((q2 t ht).2 (fun u q => by rw [hx] at q; cases q; omega)).2 ?_
        obtain ⟨s, hs, a1, d, a2, a3⟩ := hD.2.2 t v ht hx
        exact ⟨4 * s + d, by omega, by rw [show (4 * s + d) / 4 = s by omega]; exact a1, by rw [show (4 * s + d) / 4 = s by omega, show (4 * s + d) % 4 = d by omega]; exact a3⟩
      · exact (q2 t ht).1 x hx (by omega)
    · rcases ((q2 t ht).2 (fun u q => by have := z u q; omega)).1 with q | ⟨_, q⟩
      · exact Or.inl q
      · have := z _ q; omega
theorem sm_1 : ∀ {f : Nat → Nat} (n : Nat), (∀ k, k < n → f k ≤ 1) → sm f n ≤ n
  | _, 0, _ => Nat.le_refl _
  | f, n + 1, h => by have := sm_1 (f := f) n (fun k hk => h k (by omega)); have := h n (by omega); rw [sm]; omega
theorem sm_c : ∀ n, sm (fun _ => 1) n = n
  | 0 => rfl
  | n + 1 => by rw [sm, sm_c n]
theorem BI_M {A : Nat → Nat → Option Nat} {M r0 E : Nat} {S : AS} (h : BI A M r0 E S) : S.1 ≤ M := by
  have := h.1 (fun _ => 1)
  rw [sm_c] at this
  rw [this]
  exact sm_1 M (fun k _ => by split <;> omega)
theorem s_apart (N : Nat) (hN : NB ≤ N) {size : Int32} {on : Int32} {kinds : Nat → Int32} {marks : Nat → Int32} {nb : Nat → Int32} {reached : Int32} {dist : Nat → Int32} {lastW : Nat → Int32} {par : Nat → Int32} {ord : Nat → Int32} {paths : Nat → Int64} {plen : Int32} {rowW : Nat → Int32} {rowS : Nat → Int32} {wide : Int32} {tall : Int32} {groups : Int32} {rowMany : Int32} {top : Nat → Int32} {east : Nat → Int32} {south : Nat → Int32} {rolled : Nat → Int32} {off : Nat → Int32} {kind : Nat → Int32} {mark : Nat → Int32} {rowWay : Nat → Int32} {rowSeen : Nat → Int32} (hR : Rl size on kinds marks nb plen rowW rowS wide tall groups rowMany top east south rolled kind mark rowWay rowSeen) (y1 : Int32) (y2 : Int32) : ∃ (r : Int32) (oc : Int32 × (Nat → Int32) × (Nat → Int32) × (Nat → Int32) × (Nat → Int32) × (Nat → Int64)) (om : (Nat → Int32)), f_X10_apart N y1 y2 reached dist lastW par ord paths = some (r, oc) ∧ f_X11_apart N y1 y2 rolled off = some (r, om) ∧ Rl size on kinds marks nb plen rowW rowS wide tall groups rowMany top east south rolled kind mark rowWay rowSeen := by
  obtain ⟨w, h, g, n, K, M, rw_, rs, hB, hC, hM⟩ := id hR
  obtain ⟨b1, b2, b3, b4, b5, b6, b7, b8, b9, b10⟩ := id hB
  obtain ⟨rfl, rfl, c3, c4, c5, rfl, c7, c8⟩ := id hC
  obtain ⟨rfl, rfl, rfl, rfl, m5, m6, m7, m8, m9, m10⟩ := id hM
  have w1 := wh25 b2 b4
  have w2 := wh4 b1 b3
  have hNB : 1000000000000 ≤ N := hN
  unfold f_X10_apart f_X11_apart
  rw [p_isStance, m_isStance, p_isStance, m_isStance]
  simp only [Option.bind_some, bI_0]
  cases hb : inb y1 24 with
  | false => exact ⟨-1, _, _, rfl, rfl, hR⟩
  | true =>
    obtain ⟨a, ha, rfl⟩ := inb_of hb (by omega)
    cases hb2 : inb y2 24 with
    | false => exact ⟨-1, _, _, rfl, rfl, hR⟩
    | true =>
      obtain ⟨b, hb4, rfl⟩ := inb_of hb2 (by omega)
      simp only [Bool.true_eq_false, if_false]
      obtain ⟨y1, y2, q1, q2, S, q3, q4⟩ := p_search (A := tA) (M := 24) (af := f_X3_after) (by decide) p_tA (N := N) (y := (reached, dist, lastW, par, ord, paths)) (by omega) ha
      have hD := DS_isD q4
      have hM24 := BI_M q4.1
      have hDb : S.2.2.1 b ≠ none := all_P (P := fun s => S.2.2.1 s ≠ none) (fun s d hs hd hp => by
        obtain ⟨v, hv⟩ := Option.ne_none_iff_exists'.mp hp
        obtain ⟨m, _, hm⟩ := hD.2.1 s (tu s d) v hs (tu_lt hs hd) hv ⟨d, hd, rfl⟩
        exact some_ne hm) ha hb4 (some_ne ((hD.1 a ha).mpr rfl))
      obtain ⟨v, hv⟩ := Option.ne_none_iff_exists'.mp hDb
      have hv24 := q3.2.2.2.2.1 b v hv
      obtain ⟨z, z1, z2⟩ := m_ap18 (x2 := nI b) (a := a) (N := N) (off := off) ha (by omega)
      obtain ⟨z', z3, z4⟩ := m_ap49 (x2 := nI b) (N := N) (off := z) m6 hD (by omega) (fun t ht => by
        rw [z2 t ht]
        by_cases e : t = a
        · have e0 : S.2.2.1 t = some 0 := (hD.1 t ht).mpr e
          rw [if_pos e]
          exact ⟨fun x hx _ => by rw [e0] at hx; cases hx; rfl, fun q => by have := q 0 e0; omega⟩
        · rw [if_neg e]
          refine ⟨fun x hx hx0 => ?_, fun q => ⟨Or.inl rfl, fun ⟨e, he, _⟩ => absurd he (Nat.not_lt_zero e)⟩⟩
          have : x = 0 := by omega
          subst this
          exact absurd ((hD.1 t ht).mp hx) e)
      rw [show f_X8_begin N (nI a) reached dist lastW par ord paths = some y1 from q1, Option.bind_some, gsp_5, q2, Option.bind_some, p_distTo q3 (by omega), Option.bind_some, hv, p_nine _ (fun q hq => by cases hq; omega), Option.bind_some, z1, Option.bind_some, z3, Option.bind_some, rdn hb4 (by decide), Option.bind_some, cln (by omega), (z4 b hb4).1 v hv (by omega)]
      exact ⟨_, _, _, rfl, rfl, hR⟩
