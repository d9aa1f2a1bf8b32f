/-! the reference's layers from a state -/
theorem dv4 {k : Nat} (h : k < 2 ^ 31) : nI k / 4 = nI (k / 4) := pk_div (d := 4) h (by decide) (by decide)
theorem rq4 {k : Nat} (h : k < 2 ^ 31) : nI k - nI (k / 4) * 4 = nI (k % 4) := by rw [← dv4 h]; exact pk_rem (d := 4) h (by decide) (by decide)
def fr (o : Option Nat) : Int32 := match o with
  | none => nI 100000000
  | some v => nI v
def hit (A : Nat → Nat → Option Nat) (D : Nat → Option Nat) (n k t : Nat) : Prop := ∃ e, e < k ∧ D (e / 4) = some n ∧ A (e / 4) (e % 4) = some t
theorem hit_s {A : Nat → Nat → Option Nat} {D : Nat → Option Nat} {n k t : Nat} : hit A D n (k + 1) t ↔ hit A D n k t ∨ (D (k / 4) = some n ∧ A (k / 4) (k % 4) = some t) := by
  constructor
  · rintro ⟨e, he, h1, h2⟩
    by_cases z : e = k
    · subst z; exact Or.inr ⟨h1, h2⟩
    · exact Or.inl ⟨e, by omega, h1, h2⟩
  · rintro (⟨e, he, h1, h2⟩ | h)
    · exact ⟨e, by omega, h1, h2⟩
    · exact ⟨k, by omega, h⟩
def cs (A : Nat → Nat → Option Nat) (D : Nat → Option Nat) (C : Nat → Nat) (n t k : Nat) : Nat := sm (fun e => if D (e / 4) = some n ∧ A (e / 4) (e % 4) = some t then C (e / 4) else 0) k
theorem cs_s {A : Nat → Nat → Option Nat} {D : Nat → Option Nat} {C : Nat → Nat} {n t k : Nat} : cs A D C n t (k + 1) = cs A D C n t k + (if D (k / 4) = some n ∧ A (k / 4) (k % 4) = some t then C (k / 4) else 0) := rfl
def Ly (A : Nat → Nat → Option Nat) (D : Nat → Option Nat) (C : Nat → Nat) (M n k : Nat) (rolls : Nat → Int32) (many : Nat → Int64) : Prop :=
  ∀ t, t < M → (∀ v, D t = some v → v ≤ n → rolls t = nI v ∧ many t = lN (C t)) ∧ ((∀ v, D t = some v → n < v) → (rolls t = nI 100000000 ∨ rolls t = nI (n + 1)) ∧ (rolls t = nI 100000000 ∨ D t = some (n + 1)) ∧ (hit A D n k t → rolls t = nI (n + 1)) ∧ many t = lN (cs A D C n t k))
def Fl (A : Nat → Nat → Option Nat) (D : Nat → Option Nat) (M n k : Nat) (x : Int32) : Prop := (x = 0 ∧ ∀ t, t < M → D t = some (n + 1) → ¬ hit A D n k t) ∨ (x = 1 ∧ ∃ t, t < M ∧ D t = some (n + 1))
theorem IsD_dn {M : Nat} {src : Nat → Prop} {R : Nat → Nat → Prop} {D : Nat → Option Nat} (h : IsD M src R D) (m : Nat) : ∀ k t, t < M → D t = some (m + k) → ∃ t2, t2 < M ∧ D t2 = some m
  | 0, t, ht, e => ⟨t, ht, e⟩
  | k + 1, t, ht, e => by
    obtain ⟨s, hs, e1, _⟩ := h.2.2 t (m + k) ht e
    exact IsD_dn h m k s hs e1
section LY
variable {w h g n : Nat} {K M rw_ rs : Nat → Nat} {size on : Int32} {kinds marks nb : Nat → Int32} {plen : Int32} {rowW rowS : Nat → Int32} {wide tall groups rowMany : Int32} {top east south rolled kind mark rowWay rowSeen : Nat → Int32} {D : Nat → Option Nat} {C : Nat → Nat} {src : Nat → Prop}
theorem rl_b (hB : Bd w h g n K M rw_ rs) : ∀ s d, s < 24 * (w * h) → d < 4 → ∀ t, rl w h K M g s d = some t → t < 24 * (w * h) := fun s d hs hd t e => rl_lt hB.1 hB.2.1 hB.2.2.1 hB.2.2.2.1 hs hd e
theorem m_lay64 (hB : Bd w h g n K M rw_ rs) (hM : Rm w h g n K M rw_ rs wide tall groups rowMany top east south rolled kind mark rowWay rowSeen) (hD : IsD (24 * (w * h)) src (RA (rl w h K M g)) D) {N v : Nat} {rolls : Nat → Int32} {many : Nat → Int64} (hN : 10000 < N) (hv : v < 1000) (hL : Ly (rl w h K M g) D C (24 * (w * h)) v 0 rolls many) : ∃ y, f_X11_layFrom_l64 (nI (24 * (w * h))) (nI v) wide tall groups top rolled kind mark N (0, 0, rolls, many) = some y ∧ Ly (rl w h K M g) D C (24 * (w * h)) v (4 * (24 * (w * h))) y.2.1 y.2.2 ∧ Fl (rl w h K M g) D (24 * (w * h)) v (4 * (24 * (w * h))) y.1 := by
  have w1 := wh25 hB.2.1 hB.2.2.2.1
  refine lp_ex (b := fun rec z => f_X11_layFrom_b64 (nI (24 * (w * h))) (nI v) wide tall groups top rolled kind mark rec z.1 z.2.1 z.2.2.1 z.2.2.2) (fun m x => ∃ k, m + k = 4 * (24 * (w * h)) ∧ x.2.1 = nI k ∧ Ly (rl w h K M g) D C (24 * (w * h)) v k x.2.2.1 x.2.2.2 ∧ Fl (rl w h K M g) D (24 * (w * h)) v k x.1) (fun y => Ly (rl w h K M g) D C (24 * (w * h)) v (4 * (24 * (w * h))) y.2.1 y.2.2 ∧ Fl (rl w h K M g) D (24 * (w * h)) v (4 * (24 * (w * h))) y.1) ?_ N (4 * (24 * (w * h))) (0, 0, rolls, many) ⟨0, by omega, rfl, hL, Or.inl ⟨rfl, fun t _ _ ⟨e, he, _⟩ => absurd he (Nat.not_lt_zero e)⟩⟩ (by omega)
  rintro m ⟨x3, x5, ro, ma⟩ ⟨k, hm, hx, h1, h2⟩ rec hrec
  have hx : x5 = nI k := hx
  subst hx
  have h1 : Ly (rl w h K M g) D C (24 * (w * h)) v k ro ma := h1
  have h2 : Fl (rl w h K M g) D (24 * (w * h)) v k x3 := h2
  show ∃ y, f_X11_layFrom_b64 (nI (24 * (w * h))) (nI v) wide tall groups top rolled kind mark rec x3 (nI k) ro ma = some y ∧ _
  unfold f_X11_layFrom_b64
  rw [show (4 : Int32) * nI (24 * (w * h)) = nI (4 * (24 * (w * h))) by rw [li 4, pk_mul]]
  by_cases e : k = 4 * (24 * (w * h))
  · subst e
    rw [if_pos (Int32.le_refl _)]
    exact ⟨_, rfl, h1, h2⟩
  have hk : k / 4 < 24 * (w * h) := by omega
  have k4 : k % 4 < 4 := Nat.mod_lt _ (by decide)
  rw [if_neg (nI_ge (show k < 4 * (24 * (w * h)) by omega) (by omega)), dv4 (by omega), rdn (show k / 4 < 600 by omega) (by decide), Option.bind_some, cln (by omega), rq4 (by omega)]
  have hno : ∀ r2, r2 = 0 ∨ r2 = 0 → (¬ ∃ t, D (k / 4) = some v ∧ rl w h K M g (k / 4) (k % 4) = some t) → ∃ y, rec (x3, (nI k + 1), ro, ma) = some y ∧ Ly (rl w h K M g) D C (24 * (w * h)) v (4 * (24 * (w * h))) y.2.1 y.2.2 ∧ Fl (rl w h K M g) D (24 * (w * h)) v (4 * (24 * (w * h))) y.1 := fun _ _ hz => by
    refine hrec (m - 1) _ (by omega) ⟨k + 1, by omega, nI_1 k, fun t ht => ⟨(h1 t ht).1, fun z => ?_⟩, ?_⟩
    · obtain ⟨a1, a2, a3, a4⟩ := (h1 t ht).2 z
      refine ⟨a1, a2, fun hh => ?_, ?_⟩
      · rcases hit_s.mp hh with q | q
        · exact a3 q
        · exact absurd ⟨t, q⟩ hz
      · show ma t = _
        rw [a4, cs_s, if_neg (fun q => hz ⟨t, q⟩), Nat.add_zero]
    · rcases h2 with ⟨b1, b2⟩ | ⟨b1, t, ht, b2⟩
      · refine Or.inl ⟨b1, fun t ht hd hh => ?_⟩
        rcases hit_s.mp hh with q | q
        · exact b2 t ht hd q
        · exact hz ⟨t, q⟩
      · exact Or.inr ⟨b1, t, ht, b2⟩
  by_cases hn : D (k / 4) = some v
  · obtain ⟨c1, c2⟩ := (h1 (k / 4) hk).1 v hn (Nat.le_refl _)
    rw [c1, if_pos rfl, m_rollOf hB hM hk k4, Option.bind_some]
    unfold f_X11_layFrom_j103
    cases ho : rl w h K M g (k / 4) (k % 4) with
    | none =>
      rw [if_pos (show en9 none = -9 from rfl)]
      exact hno 0 (Or.inl rfl) (fun ⟨t, _, q⟩ => by rw [ho] at q; cases q)
    | some o =>
      have ho6 := rl_b hB _ _ hk k4 o ho
      rw [if_neg (show ¬ en9 (some o) = -9 from nI_m9 (by omega)), show en9 (some o) = nI o from rfl, rdn (show o < 600 by omega) (by decide), Option.bind_some, cln (by omega)]
      obtain ⟨u, hu1, hu2⟩ := hD.2.1 (k / 4) o v hk ho6 hn ⟨k % 4, k4, ho⟩
      by_cases huv : u ≤ v
      · obtain ⟨d1, d2⟩ := (h1 o ho6).1 u hu2 huv
        rw [d1, if_pos (nI_le huv (by omega))]
        refine hrec (m - 1) _ (by omega) ⟨k + 1, by omega, nI_1 k, fun t ht => ⟨(h1 t ht).1, fun z => ?_⟩, ?_⟩
        · obtain ⟨a1, a2, a3, a4⟩ := (h1 t ht).2 z
          have hto : t ≠ o := fun q => by have := z u (by rw [q]; exact hu2); omega
          refine ⟨a1, a2, fun hh => ?_, ?_⟩
          · rcases hit_s.mp hh with q | q
            · exact a3 q
            · exact absurd (by rw [ho] at q; cases q.2; rfl) hto
          · show ma t = _
            rw [a4, cs_s, if_neg (fun q => hto (by rw [ho] at q; cases q.2; rfl)), Nat.add_zero]
        · rcases h2 with ⟨b1, b2⟩ | ⟨b1, t, ht, b2⟩
          · refine Or.inl ⟨b1, fun t ht hd hh => ?_⟩
            rcases hit_s.mp hh with q | q
            · exact b2 t ht hd q
            · rw [ho] at q; cases q.2; rw [hu2] at hd; cases hd; omega
          · exact Or.inr ⟨b1, t, ht, b2⟩
      · have hu3 : D o = some (v + 1) := by rw [hu2, show u = v + 1 by omega]
        have hz : ∀ x, D o = some x → v < x := fun x q => by rw [hu3] at q; cases q; omega
        obtain ⟨a1, a2, a3, a4⟩ := (h1 o ho6).2 hz
        have hgt : ¬ ro o ≤ nI v := by
          rcases a1 with q | q
          · rw [q]; exact nI_ge (by omega) (by decide)
          · rw [q]; exact nI_ge (by omega) (by omega)
        rw [if_neg hgt, ckn (show o < 600 by omega) (by decide), rdn (show o < 600 by omega) (by decide), dv4 (by omega), rdn (show k / 4 < 600 by omega) (by decide), cln (show k / 4 < 2 ^ 31 by omega)]
        simp only [Option.bind_some]
        refine hrec (m - 1) _ (by omega) ⟨k + 1, by omega, nI_1 k, fun t ht => ?_, Or.inr ⟨rfl, o, ho6, hu3⟩⟩
        show (∀ x, D t = some x → x ≤ v → upd ro o (nI v + 1) t = nI x ∧ vp_updL ma o (ma o + ma (k / 4)) t = lN (C t)) ∧ ((∀ x, D t = some x → v < x) → (upd ro o (nI v + 1) t = nI 100000000 ∨ upd ro o (nI v + 1) t = nI (v + 1)) ∧ (upd ro o (nI v + 1) t = nI 100000000 ∨ D t = some (v + 1)) ∧ (hit (rl w h K M g) D v (k + 1) t → upd ro o (nI v + 1) t = nI (v + 1)) ∧ vp_updL ma o (ma o + ma (k / 4)) t = lN (cs (rl w h K M g) D C v t (k + 1)))
        rw [updn, updL, nI_1]
        by_cases et : t = o
        · subst et
          rw [if_pos rfl, if_pos rfl]
          refine ⟨fun x q hq => by have := hz x q; omega, fun _ => ⟨Or.inr rfl, Or.inr hu3, fun _ => rfl, ?_⟩⟩
          rw [a4, c2, lN_add, cs_s, if_pos ⟨hn, ho⟩]
        · rw [if_neg et, if_neg et]
          refine ⟨(h1 t ht).1, fun z => ?_⟩
          obtain ⟨e1, e2, e3, e4⟩ := (h1 t ht).2 z
          refine ⟨e1, e2, fun hh => ?_, ?_⟩
          · rcases hit_s.mp hh with q | q
            · exact e3 q
            · exact absurd (by rw [ho] at q; cases q.2; rfl) et
          · rw [e4, cs_s, if_neg (fun q => et (by rw [ho] at q; cases q.2; rfl)), Nat.add_zero]
  · have hne : ¬ ro (k / 4) = nI v := fun z => by
      cases hd : D (k / 4) with
      | none =>
        rcases ((h1 (k / 4) hk).2 (fun x q => by rw [hd] at q; cases q)).1 with q | q
        · rw [q] at z; have := (nI_eq (by decide) (by omega)).mp z; omega
        · rw [q] at z; have := (nI_eq (by omega) (by omega)).mp z; omega
      | some u =>
        by_cases huv : u ≤ v
        · rw [((h1 (k / 4) hk).1 u hd huv).1] at z
          have := (nI_eq (by omega) (by omega)).mp z
          exact hn (by rw [hd, this])
        · rcases ((h1 (k / 4) hk).2 (fun x q => by rw [hd] at q; cases q; omega)).1 with q | q
          · rw [q] at z; have := (nI_eq (by decide) (by omega)).mp z; omega
          · rw [q] at z; have := (nI_eq (by omega) (by omega)).mp z; omega
    rw [if_neg hne]
    unfold f_X11_layFrom_j103
    rw [if_pos rfl]
    exact hno 0 (Or.inl rfl) (fun ⟨t, q, _⟩ => hn q)
theorem m_lay55 (hB : Bd w h g n K M rw_ rs) (hM : Rm w h g n K M rw_ rs wide tall groups rowMany top east south rolled kind mark rowWay rowSeen) (hD : IsD (24 * (w * h)) src (RA (rl w h K M g)) D) (hC : IsC (rl w h K M g) (24 * (w * h)) D C) (hD6 : ∀ s v, D s = some v → v < 600) {N : Nat} {rolls : Nat → Int32} {many : Nat → Int64} (hN : 10000 < N) (hL : Ly (rl w h K M g) D C (24 * (w * h)) 0 0 rolls many) : ∃ y, f_X11_layFrom_l55 N (nI (24 * (w * h))) wide tall groups top rolled kind mark N (1, 0, rolls, many) = some y ∧ (∀ t, t < 24 * (w * h) → y.1 t = fr (D t) ∧ (D t ≠ none → y.2 t = lN (C t))) := by
  have w1 := wh25 hB.2.1 hB.2.2.2.1
  refine lp_ex (b := fun rec z => f_X11_layFrom_b55 N (nI (24 * (w * h))) wide tall groups top rolled kind mark rec z.1 z.2.1 z.2.2.1 z.2.2.2) (fun m x => ∃ v, m + v = 601 ∧ x.2.1 = nI v ∧ ((x.1 = 1 ∧ v ≤ 600 ∧ Ly (rl w h K M g) D C (24 * (w * h)) v 0 x.2.2.1 x.2.2.2) ∨ (x.1 = 0 ∧ ∀ t, t < 24 * (w * h) → x.2.2.1 t = fr (D t) ∧ (D t ≠ none → x.2.2.2 t = lN (C t))))) (fun y => ∀ t, t < 24 * (w * h) → y.1 t = fr (D t) ∧ (D t ≠ none → y.2 t = lN (C t))) ?_ N 601 (1, 0, rolls, many) ⟨0, rfl, rfl, Or.inl ⟨rfl, by decide, hL⟩⟩ (by omega)
  rintro m ⟨x3, x4, ro, ma⟩ ⟨v, hm, hx, hor⟩ rec hrec
  have hx : x4 = nI v := hx
  subst hx
  show ∃ y, f_X11_layFrom_b55 N (nI (24 * (w * h))) wide tall groups top rolled kind mark rec x3 (nI v) ro ma = some y ∧ _
  unfold f_X11_layFrom_b55
  rcases hor with ⟨e1, hv, hL⟩ | ⟨e1, hF⟩
  · have e1 : x3 = 1 := e1
    subst e1
    obtain ⟨y, q1, q2, q3⟩ := m_lay64 hB hM hD hN (show v < 1000 by omega) hL
    rw [if_neg (by decide), q1, Option.bind_some, nI_1]
    have hall : ∀ t, t < 24 * (w * h) → D t = some (v + 1) → hit (rl w h K M g) D v (4 * (24 * (w * h))) t := fun t ht hd => by
      obtain ⟨s, hs, a1, d, a2, a3⟩ := hD.2.2 t v ht hd
      exact ⟨4 * s + d, by omega, by rw [show (4 * s + d) / 4 = s by omega]; exact a1, by rw [show (4 * s + d) / 4 = s by omega, show (4 * s + d) % 4 = d by omega]; exact a3⟩
    rcases q3 with ⟨b1, b2⟩ | ⟨b1, t0, ht0, b2⟩
    · refine hrec (m - 1) _ (by omega) ⟨v + 1, by omega, rfl, Or.inr ⟨b1, fun t ht => ?_⟩⟩
      have hle : ∀ u, D t = some u → u ≤ v := fun u hu => Nat.le_of_not_lt (fun z => by
        obtain ⟨t2, ht2, a1⟩ := IsD_dn hD (v + 1) (u - (v + 1)) t ht (by rw [hu, show v + 1 + (u - (v + 1)) = u by omega])
        exact b2 t2 ht2 a1 (hall t2 ht2 a1))
      show y.2.1 t = fr (D t) ∧ (D t ≠ none → y.2.2 t = lN (C t))
      cases hd : D t with
      | none =>
        refine ⟨?_, fun z => absurd rfl z⟩
        rcases ((q2 t ht).2 (fun x q => by rw [hd] at q; cases q)).2.1 with q | q
        · exact q
        · rw [hd] at q; cases q
      | some u =>
        obtain ⟨a1, a2⟩ := (q2 t ht).1 u hd (hle u hd)
        exact ⟨a1, fun _ => a2⟩
    · have hv6 := hD6 t0 (v + 1) b2
      refine hrec (m - 1) _ (by omega) ⟨v + 1, by omega, rfl, Or.inl ⟨b1, by omega, fun t ht => ?_⟩⟩
      show (∀ x, D t = some x → x ≤ v + 1 → y.2.1 t = nI x ∧ y.2.2 t = lN (C t)) ∧ ((∀ x, D t = some x → v + 1 < x) → (y.2.1 t = nI 100000000 ∨ y.2.1 t = nI (v + 1 + 1)) ∧ (y.2.1 t = nI 100000000 ∨ D t = some (v + 1 + 1)) ∧ (hit (rl w h K M g) D (v + 1) 0 t → y.2.1 t = nI (v + 1 + 1)) ∧ y.2.2 t = lN (cs (rl w h K M g) D C (v + 1) t 0))
      refine ⟨fun x hx hxv => ?_, fun z => ?_⟩
      · by_cases e : x = v + 1
        · subst e
          obtain ⟨a1, a2, a3, a4⟩ := (q2 t ht).2 (fun u q => by rw [hx] at q; cases q; omega)
          exact ⟨a3 (hall t ht hx), by rw [a4, hC.2 t v ht hx]; rfl⟩
        · exact (q2 t ht).1 x hx (by omega)
      · obtain ⟨a1, a2, a3, a4⟩ := (q2 t ht).2 (fun u q => by have := z u q; omega)
        have hff : y.2.1 t = nI 100000000 := by
          rcases a2 with q | q
          · exact q
          · have := z _ q; omega
        refine ⟨Or.inl hff, Or.inl hff, fun ⟨e, he, _⟩ => absurd he (Nat.not_lt_zero e), ?_⟩
        rw [a4]
        show lN _ = lN 0
        have e0 : cs (rl w h K M g) D C v t (4 * (24 * (w * h))) = 0 := sm_0 _ (fun e he => if_neg (fun ⟨c1, c2⟩ => by
          obtain ⟨u, hu1, hu2⟩ := hD.2.1 (e / 4) t v (by omega) ht c1 ⟨e % 4, Nat.mod_lt _ (by decide), c2⟩
          have := z u hu2
          omega))
        rw [e0]
  · have e1 : x3 = 0 := e1
    subst e1
    rw [if_pos rfl]
    exact ⟨_, rfl, hF⟩
theorem m_lay10 {x1 : Int32} {N T : Nat} {rolls : Nat → Int32} {many : Nat → Int64} (hT : T ≤ 600) (hN : 1000 < N) : ∃ y, f_X11_layFrom_l10 x1 (nI T) N (0, rolls, many) = some y ∧ ∀ t, t < T → y.1 t = nI 100000000 ∧ y.2 t = lN 0 := by
  refine lp_ex (b := fun rec z => f_X11_layFrom_b10 x1 (nI T) rec z.1 z.2.1 z.2.2) (fun m x => ∃ k, m + k = T ∧ x.1 = nI k ∧ ∀ t, t < k → x.2.1 t = nI 100000000 ∧ x.2.2 t = lN 0) (fun y => ∀ t, t < T → y.1 t = nI 100000000 ∧ y.2 t = lN 0) ?_ N T (0, rolls, many) ⟨0, by omega, rfl, fun t ht => absurd ht (Nat.not_lt_zero t)⟩ (by omega)
  rintro m ⟨x3, ro, ma⟩ ⟨k, hm, hx, h1⟩ rec hrec
  have hx : x3 = nI k := hx
  subst hx
  show ∃ y, f_X11_layFrom_b10 x1 (nI T) rec (nI k) ro ma = some y ∧ _
  unfold f_X11_layFrom_b10
  by_cases e : k = T
  · subst e
    rw [if_pos (Int32.le_refl _)]
    exact ⟨_, rfl, h1⟩
  · rw [if_neg (nI_ge (show k < T by omega) (by omega)), ckn (show k < 600 by omega) (by decide), cln (by omega), nI_1]
    simp only [Option.bind_some]
    refine hrec (m - 1) _ (by omega) ⟨k + 1, by omega, rfl, fun t ht => ?_⟩
    show upd ro k (nI 100000000) t = _ ∧ vp_updL ma k (lN 0) t = _
    rw [updn, updL]
    by_cases e2 : t = k
    · rw [if_pos e2, if_pos e2]; exact ⟨rfl, rfl⟩
    · rw [if_neg e2, if_neg e2]; exact h1 t (by omega)
theorem m_layFrom (hB : Bd w h g n K M rw_ rs) (hM : Rm w h g n K M rw_ rs wide tall groups rowMany top east south rolled kind mark rowWay rowSeen) {s0 : Nat} (hs : s0 < 24 * (w * h)) (hD : IsD (24 * (w * h)) (fun s => s = s0) (RA (rl w h K M g)) D) (hC : IsC (rl w h K M g) (24 * (w * h)) D C) (hD6 : ∀ s v, D s = some v → v < 600) {N : Nat} {rolls : Nat → Int32} {many : Nat → Int64} (hN : 10000 < N) : ∃ y, f_X11_layFrom N (nI s0) wide tall groups top rolled kind mark rolls many = some y ∧ (∀ t, t < 24 * (w * h) → y.1 t = fr (D t) ∧ (D t ≠ none → y.2 t = lN (C t))) := by
  have w1 := wh25 hB.2.1 hB.2.2.2.1
  unfold f_X11_layFrom f_X11_cells
  obtain ⟨m1, m2, _⟩ := id hM
  subst m1; subst m2
  obtain ⟨y, q1, q2⟩ := m_lay10 (x1 := nI s0) (N := N) (T := 24 * (w * h)) (rolls := rolls) (many := many) (by omega) (by omega)
  rw [Option.bind_some, show (24 : Int32) * (nI w * nI h) = nI (24 * (w * h)) by rw [pk_mul, al24], q1, Option.bind_some, ckn (show s0 < 600 by omega) (by decide), Option.bind_some, Option.bind_some, cln (by omega)]
  obtain ⟨y2, p1, p2⟩ := m_lay55 hB hM hD hC hD6 (N := N) (rolls := upd y.1 s0 0) (many := vp_updL y.2 s0 1) hN (fun t ht => by
    rw [updn, updL]
    by_cases e : t = s0
    · have e0 : D t = some 0 := (hD.1 t ht).mpr e
      rw [if_pos e, if_pos e]
      refine ⟨fun v hv _ => ?_, fun z => ?_⟩
      · rw [e0] at hv; cases hv
        rw [hC.1 t ht e0]; exact ⟨rfl, rfl⟩
      · have := z 0 e0; omega
    · rw [if_neg e, if_neg e, (q2 t ht).1, (q2 t ht).2]
      refine ⟨fun v hv hv0 => ?_, fun z => ⟨Or.inl rfl, Or.inl rfl, fun ⟨e, he, _⟩ => absurd he (Nat.not_lt_zero e), rfl⟩⟩
      have : v = 0 := by omega
      subst this
      exact absurd ((hD.1 t ht).mp hv) e)
  rw [p1]
  exact ⟨_, rfl, p2⟩
end LY
