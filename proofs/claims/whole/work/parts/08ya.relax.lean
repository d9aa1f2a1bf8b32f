/-! the reference's relaxing: until nothing gets less -/
def gr61 (rf : Int32 → Int32 → Option Int32) (cf : Int32 → Option Int32) (x3 : Int32) (rec : (Int32 × Int32 × (Nat → Int32)) → Option (Int32 × (Nat → Int32))) (x4 x5 : Int32) (onward : Nat → Int32) : Option (Int32 × (Nat → Int32)) :=
  if (4 * x3) ≤ x5 then (some (x4, onward)) else ((rf (x5 / 4) (x5 - x5 / 4 * 4)).bind fun r_5 => if r_5 = (-9) then (rec (x4, (x5 + 1), onward)) else ((nx_rd onward 600 r_5).bind fun _ => (cf r_5).bind fun r_9 => (nx_rd onward 600 (x5 / 4)).bind fun _ => if (onward (x5 / 4).toNatClampNeg) ≤ ((onward r_5.toNatClampNeg) + r_9) then (rec (x4, (x5 + 1), onward)) else ((nx_rd onward 600 r_5).bind fun _ => (cf r_5).bind fun r_15 => (nx_ck 600 (x5 / 4)).bind fun _ => rec (1, (x5 + 1), (upd onward (x5 / 4).toNatClampNeg ((onward r_5.toNatClampNeg) + r_15))))))
def gr50 (rf : Int32 → Int32 → Option Int32) (cf : Int32 → Option Int32) (N : Nat) (x3 : Int32) (rec : (Int32 × (Nat → Int32)) → Option (Nat → Int32)) (x4 : Int32) (onward : Nat → Int32) : Option (Nat → Int32) :=
  if x4 = 0 then (some onward) else ((nx_lp (fun rec z => gr61 rf cf x3 rec z.1 z.2.1 z.2.2) N (0, 0, onward)).bind fun z_13 => rec (z_13.1, z_13.2))
def grl (rf : Int32 → Int32 → Option Int32) (cf : Int32 → Option Int32) (N : Nat) (x3 : Int32) : Nat → (Int32 × (Nat → Int32)) → Option (Nat → Int32) := nx_lp (fun rec z => gr50 rf cf N x3 rec z.1 z.2)
theorem grl_on {N : Nat} {x3 wide tall groups : Int32} {top rolled kind mark : Nat → Int32} : f_X11_layOnward_l50 N x3 wide tall groups top rolled kind mark = grl (fun a b => f_X11_rollOf a b wide tall groups top rolled kind mark) (fun _ => some 1) N x3 := rfl
theorem grl_ch {N : Nat} {x1 x2 x3 wide tall groups : Int32} {top rolled kind mark : Nat → Int32} : f_X11_cheapest_l72 N x1 x2 x3 wide tall groups top rolled kind mark = grl (fun a b => f_X11_rollOf a b wide tall groups top rolled kind mark) (fun a => f_X11_print a top) N x3 := rfl
theorem grl_ho {N : Nat} {x3 wide tall : Int32} {kind : Nat → Int32} : f_X11_layHome_l60 N x3 wide tall kind = grl (fun a b => f_X11_blockRoll a b wide tall kind) (fun _ => some 1) N x3 := rfl
/-- a walk of k steps that costs x -/
def wk (A : Nat → Nat → Option Nat) (c : Nat → Nat) : Nat → Nat → Nat → Nat → Prop
  | 0, x, s, t => x = 0 ∧ s = t
  | k + 1, x, s, t => ∃ u d y, d < 4 ∧ A s d = some u ∧ wk A c k y u t ∧ x = y + c u
def FAR : Nat := 100000000
/-- values are costs of walks to a goal -/
def RI (A : Nat → Nat → Option Nat) (c : Nat → Nat) (M : Nat) (G : Nat → Bool) (V : Nat → Nat) : Prop := (∀ t, t < M → V t ≤ FAR) ∧ (∀ t, t < M → V t < FAR → ∃ k q, G q = true ∧ wk A c k (V t) t q) ∧ (∀ t, t < M → G t = true → V t = 0)
def RX (A : Nat → Nat → Option Nat) (c : Nat → Nat) (M : Nat) (V : Nat → Nat) : Prop := ∀ s d o, s < M → d < 4 → A s d = some o → V s ≤ V o + c o
theorem sm_le {f g : Nat → Nat} : ∀ n, (∀ k, k < n → f k ≤ g k) → sm f n ≤ sm g n
  | 0, _ => Nat.le_refl _
  | n + 1, h => by have := sm_le (f := f) (g := g) n (fun k hk => h k (by omega)); have := h n (by omega); rw [sm, sm]; omega
section RE
variable {A : Nat → Nat → Option Nat} {c : Nat → Nat} {M : Nat} {G : Nat → Bool} {rf : Int32 → Int32 → Option Int32} {cf : Int32 → Option Int32}
theorem m_gr61 (hM : M ≤ 600) (hA : ∀ s d, s < M → d < 4 → rf (nI s) (nI d) = some (en9 (A s d)) ∧ ∀ t, A s d = some t → t < M) (hc : ∀ t, t < M → cf (nI t) = some (nI (c t)) ∧ c t ≤ 6 ∧ 1 ≤ c t) {N : Nat} {V0 : Nat → Nat} {on0 : Nat → Int32} (hN : 10000 < N) (h0 : ∀ t, t < M → on0 t = nI (V0 t)) (hI : RI A c M G V0) : ∃ y, nx_lp (fun rec z => gr61 rf cf (nI M) rec z.1 z.2.1 z.2.2) N (0, 0, on0) = some y ∧ ∃ V, (∀ t, t < M → y.2 t = nI (V t)) ∧ RI A c M G V ∧ ((y.1 = 0 ∧ RX A c M V) ∨ (y.1 = 1 ∧ sm V M < sm V0 M)) := by
  have hl := lp_ex (b := fun rec z => gr61 rf cf (nI M) rec z.1 z.2.1 z.2.2) (fun m x => ∃ k V, m + k = 4 * M ∧ x.2.1 = nI k ∧ (∀ t, t < M → x.2.2 t = nI (V t)) ∧ RI A c M G V ∧ ((x.1 = 0 ∧ ∀ e o, e < k → A (e / 4) (e % 4) = some o → V (e / 4) ≤ V o + c o) ∨ (x.1 = 1 ∧ sm V M < sm V0 M)) ∧ sm V M ≤ sm V0 M) (fun y => ∃ V, (∀ t, t < M → y.2 t = nI (V t)) ∧ RI A c M G V ∧ ((y.1 = 0 ∧ RX A c M V) ∨ (y.1 = 1 ∧ sm V M < sm V0 M))) ?_ N (4 * M) (0, 0, on0) ⟨0, V0, by omega, rfl, h0, hI, Or.inl ⟨rfl, fun e o he => absurd he (Nat.not_lt_zero e)⟩, Nat.le_refl _⟩ (by omega)
  · exact hl
  rintro m ⟨x4, x5, on⟩ ⟨k, V, hm, hx, h1, h2, h3, h4⟩ rec hrec
  have hx : x5 = nI k := hx
  subst hx
  have h1 : ∀ t, t < M → on t = nI (V t) := h1
  have h3 : (x4 = 0 ∧ ∀ e o, e < k → A (e / 4) (e % 4) = some o → V (e / 4) ≤ V o + c o) ∨ (x4 = 1 ∧ sm V M < sm V0 M) := h3
  show ∃ y, gr61 rf cf (nI M) rec x4 (nI k) on = some y ∧ _
  unfold gr61
  rw [show (4 : Int32) * nI M = nI (4 * M) by rw [li 4, pk_mul]]
  by_cases e : k = 4 * M
  · subst e
    rw [if_pos (Int32.le_refl _)]
    refine ⟨_, rfl, V, h1, h2, ?_⟩
    rcases h3 with ⟨a, b⟩ | q
    · refine Or.inl ⟨a, fun s d o hs hd ho => ?_⟩
      have := b (4 * s + d) o (by omega) (by rw [show (4 * s + d) / 4 = s by omega, show (4 * s + d) % 4 = d by omega]; exact ho)
      rw [show (4 * s + d) / 4 = s by omega] at this
      exact this
    · exact Or.inr q
  have hk : k / 4 < M := by omega
  have k4 : k % 4 < 4 := Nat.mod_lt _ (by decide)
  obtain ⟨a1, a2⟩ := hA (k / 4) (k % 4) hk k4
  rw [if_neg (nI_ge (show k < 4 * M by omega) (by omega)), dv4 (by omega), rq4 (by omega), a1, Option.bind_some, nI_1]
  cases ho : A (k / 4) (k % 4) with
  | none =>
    rw [if_pos (show en9 none = -9 from rfl)]
    refine hrec (m - 1) _ (by omega) ⟨k + 1, V, by omega, rfl, h1, h2, ?_, h4⟩
    rcases h3 with ⟨b1, b2⟩ | q
    · refine Or.inl ⟨b1, fun e o he hh => ?_⟩
      by_cases z : e = k
      · rw [z, ho] at hh; cases hh
      · exact b2 e o (by omega) hh
    · exact Or.inr q
  | some o =>
    have ho6 := a2 o ho
    obtain ⟨c1, c2, c3⟩ := hc o ho6
    have v1 := h2.1 o ho6
    have v2 := h2.1 (k / 4) hk
    unfold FAR at v1 v2
    rw [if_neg (show ¬ en9 (some o) = -9 from nI_m9 (by omega)), show en9 (some o) = nI o from rfl, rdn (show o < 600 by omega) (by decide), Option.bind_some, c1, Option.bind_some, rdn (show k / 4 < 600 by omega) (by decide), Option.bind_some, cln (by omega), cln (by omega), h1 o ho6, h1 (k / 4) hk, nI_add]
    by_cases hle : V (k / 4) ≤ V o + c o
    · rw [if_pos (nI_le hle (by omega))]
      refine hrec (m - 1) _ (by omega) ⟨k + 1, V, by omega, rfl, h1, h2, ?_, h4⟩
      rcases h3 with ⟨b1, b2⟩ | q
      · refine Or.inl ⟨b1, fun e o2 he hh => ?_⟩
        by_cases z : e = k
        · rw [z, ho] at hh; cases hh; rw [z]; exact hle
        · exact b2 e o2 (by omega) hh
      · exact Or.inr q
    · rw [if_neg (nI_ge (by omega) (by omega)), Option.bind_some, Option.bind_some, ckn (show k / 4 < 600 by omega) (by decide), Option.bind_some]
      have hsm := sm_up (f := V) (g := fun t => if t = k / 4 then V o + c o else V t) (t := k / 4) (fun t ht => if_neg ht) M hk
      rw [if_pos rfl] at hsm
      refine hrec (m - 1) _ (by omega) ⟨k + 1, fun t => if t = k / 4 then V o + c o else V t, by omega, rfl, fun t ht => ?_, ⟨fun t ht => ?_, fun t ht hv => ?_, fun t ht hg => ?_⟩, Or.inr ⟨rfl, by omega⟩, by omega⟩
      · show upd on (k / 4) (nI (V o) + nI (c o)) t = nI (if t = k / 4 then V o + c o else V t)
        rw [updn, nI_add]
        by_cases z : t = k / 4
        · rw [if_pos z, if_pos z]
        · rw [if_neg z, if_neg z]; exact h1 t ht
      · show (if t = k / 4 then V o + c o else V t) ≤ FAR
        by_cases z : t = k / 4
        · rw [if_pos z]; unfold FAR; omega
        · rw [if_neg z]; exact h2.1 t ht
      · have hv : (if t = k / 4 then V o + c o else V t) < FAR := hv
        show ∃ k2 q, G q = true ∧ wk A c k2 (if t = k / 4 then V o + c o else V t) t q
        by_cases z : t = k / 4
        · rw [if_pos z]
          obtain ⟨k2, q, hq, hw⟩ := h2.2.1 o ho6 (by unfold FAR; omega)
          exact ⟨k2 + 1, q, hq, o, k % 4, V o, k4, by rw [z]; exact ho, hw, rfl⟩
        · rw [if_neg z] at hv ⊢
          exact h2.2.1 t ht hv
      · show (if t = k / 4 then V o + c o else V t) = 0
        have := h2.2.2 t ht hg
        by_cases z : t = k / 4
        · rw [z] at this; omega
        · rw [if_neg z]; exact this
theorem m_grl (hM : M ≤ 600) (hA : ∀ s d, s < M → d < 4 → rf (nI s) (nI d) = some (en9 (A s d)) ∧ ∀ t, A s d = some t → t < M) (hc : ∀ t, t < M → cf (nI t) = some (nI (c t)) ∧ c t ≤ 6 ∧ 1 ≤ c t) {N : Nat} {V0 : Nat → Nat} {on0 : Nat → Int32} (hN : 1000000000000 ≤ N) (h0 : ∀ t, t < M → on0 t = nI (V0 t)) (hI : RI A c M G V0) : ∃ y, grl rf cf N (nI M) N (1, on0) = some y ∧ ∃ V, (∀ t, t < M → y t = nI (V t)) ∧ RI A c M G V ∧ RX A c M V := by
  have hs : ∀ V, RI A c M G V → sm V M ≤ 100000000 * 600 := fun V hV => by
    have h1 : sm V M ≤ sm (fun _ => 100000000) M := sm_le M (fun k hk => hV.1 k hk)
    have h2 : ∀ n, sm (fun _ => 100000000) n = 100000000 * n := fun n => by
      induction n with
      | zero => rfl
      | succ n ih => rw [sm, ih]; omega
    rw [h2] at h1
    have : 100000000 * M ≤ 100000000 * 600 := Nat.mul_le_mul_left _ hM
    omega
  have hs0 := hs V0 hI
  refine lp_ex (b := fun rec z => gr50 rf cf N (nI M) rec z.1 z.2) (fun m x => ∃ V, (∀ t, t < M → x.2 t = nI (V t)) ∧ RI A c M G V ∧ ((x.1 = 0 ∧ RX A c M V) ∨ (x.1 = 1 ∧ m = sm V M + 1))) (fun y => ∃ V, (∀ t, t < M → y t = nI (V t)) ∧ RI A c M G V ∧ RX A c M V) ?_ N (sm V0 M + 1) (1, on0) ⟨V0, h0, hI, Or.inr ⟨rfl, rfl⟩⟩ (by omega)
  rintro m ⟨x4, on⟩ ⟨V, h1, h2, h3⟩ rec hrec
  have h1 : ∀ t, t < M → on t = nI (V t) := h1
  show ∃ y, gr50 rf cf N (nI M) rec x4 on = some y ∧ _
  unfold gr50
  rcases h3 with ⟨e, h3⟩ | ⟨e, h3⟩
  · have e : x4 = 0 := e
    rw [if_pos e]
    exact ⟨_, rfl, V, h1, h2, h3⟩
  · have e : x4 = 1 := e
    subst e
    obtain ⟨y, q1, V1, q2, q3, q4⟩ := m_gr61 hM hA hc (N := N) (by omega) h1 h2
    rw [if_neg (by decide), q1, Option.bind_some]
    rcases q4 with ⟨e1, e2⟩ | ⟨e1, e2⟩
    · exact hrec 0 _ (by omega) ⟨V1, q2, q3, Or.inl ⟨e1, e2⟩⟩
    · exact hrec (sm V1 M + 1) _ (by omega) ⟨V1, q2, q3, Or.inr ⟨e1, rfl⟩⟩
/-- no walk to a goal is cheaper -/
theorem wk_le {V : Nat → Nat} (hAM : ∀ s d, s < M → d < 4 → ∀ t, A s d = some t → t < M) (hX : RX A c M V) : ∀ k x s t, s < M → wk A c k x s t → t < M ∧ V s ≤ x + V t
  | 0, x, s, t, hs, h => by obtain ⟨h1, h2⟩ := h; subst h1; subst h2; exact ⟨hs, by omega⟩
  | k + 1, x, s, t, hs, h => by
    obtain ⟨u, d, y, hd, ha, hw, e⟩ := h
    have hu := hAM s d hs hd u ha
    obtain ⟨h1, h2⟩ := wk_le hAM hX k y u t hu hw
    have := hX s d u hs hd ha
    exact ⟨h1, by omega⟩
theorem wk_sn {d : Nat} {u t : Nat} (hd : d < 4) (ha : A u d = some t) : ∀ k x s, wk A c k x s u → wk A c (k + 1) (x + c t) s t
  | 0, x, s, h => by obtain ⟨h1, h2⟩ := h; subst h1; subst h2; exact ⟨t, d, 0, hd, ha, ⟨rfl, rfl⟩, rfl⟩
  | k + 1, x, s, h => by
    obtain ⟨u2, d2, y, hd2, ha2, hw, e⟩ := h
    exact ⟨u2, d2, y + c t, hd2, ha2, wk_sn hd ha k y u2 hw, by omega⟩
theorem wk_D {src : Nat → Prop} {D : Nat → Option Nat} (hAM : ∀ s d, s < M → d < 4 → ∀ t, A s d = some t → t < M) (hD : IsD M src (RA A) D) : ∀ k x s t a, s < M → D s = some a → wk A c k x s t → t < M ∧ ∃ b, b ≤ a + k ∧ D t = some b
  | 0, x, s, t, a, hs, ha, h => by obtain ⟨h1, h2⟩ := h; subst h2; exact ⟨hs, a, by omega, ha⟩
  | k + 1, x, s, t, a, hs, ha, h => by
    obtain ⟨u, d, y, hd, hu, hw, e⟩ := h
    have hu6 := hAM s d hs hd u hu
    obtain ⟨m, hm, hm2⟩ := hD.2.1 s u a hs hu6 ha ⟨d, hd, hu⟩
    obtain ⟨h1, b, hb, hb2⟩ := wk_D hAM hD k y u t m hu6 hm2 hw
    exact ⟨h1, b, by omega, hb2⟩
theorem D_wk {src : Nat → Prop} {D : Nat → Option Nat} (hD : IsD M src (RA A) D) : ∀ n t, t < M → D t = some n → ∃ s, s < M ∧ src s ∧ ∃ x, wk A c n x s t
  | 0, t, ht, e => ⟨t, ht, (hD.1 t ht).mp e, 0, rfl, rfl⟩
  | n + 1, t, ht, e => by
    obtain ⟨u, hu, e1, d, hd, ha⟩ := hD.2.2 t n ht e
    obtain ⟨s, hs, h1, x, hw⟩ := D_wk hD n u hu e1
    exact ⟨s, hs, h1, _, wk_sn hd ha n x s hw⟩
theorem wk_1 : ∀ k x s t, wk A (fun _ => 1) k x s t → x = k
  | 0, x, s, t, h => h.1
  | k + 1, x, s, t, h => by
    obtain ⟨u, d, y, hd, hu, hw, e⟩ := h
    have := wk_1 k y u t hw
    have e : x = y + 1 := e
    omega
end RE
