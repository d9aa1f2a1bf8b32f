/-! distances -/
def IsD (M : Nat) (src : Nat → Prop) (R : Nat → Nat → Prop) (D : Nat → Option Nat) : Prop :=
  (∀ s, s < M → (D s = some 0 ↔ src s)) ∧ (∀ s t n, s < M → t < M → D s = some n → R s t → ∃ m, m ≤ n + 1 ∧ D t = some m) ∧ (∀ t n, t < M → D t = some (n + 1) → ∃ s, s < M ∧ D s = some n ∧ R s t)
def RA (A : Nat → Nat → Option Nat) (s t : Nat) : Prop := ∃ d, d < 4 ∧ A s d = some t
theorem IsD_le {M : Nat} {src : Nat → Prop} {R : Nat → Nat → Prop} {D D2 : Nat → Option Nat} (h : IsD M src R D) (h2 : IsD M src R D2) : ∀ n t, t < M → D t = some n → ∃ m, m ≤ n ∧ D2 t = some m := by
  intro n
  induction n with
  | zero => exact fun t ht e => ⟨0, Nat.le_refl _, (h2.1 t ht).mpr ((h.1 t ht).mp e)⟩
  | succ n ih =>
    intro t ht e
    obtain ⟨s, hs, e1, e2⟩ := h.2.2 t n ht e
    obtain ⟨m, hm, e3⟩ := ih s hs e1
    obtain ⟨m2, hm2, e4⟩ := h2.2.1 s t m hs ht e3 e2
    exact ⟨m2, by omega, e4⟩
theorem IsD_uq {M : Nat} {src : Nat → Prop} {R : Nat → Nat → Prop} {D D2 : Nat → Option Nat} (h : IsD M src R D) (h2 : IsD M src R D2) {t : Nat} (ht : t < M) : D t = D2 t := by
  cases e : D t with
  | none =>
    cases e2 : D2 t with
    | none => rfl
    | some m => obtain ⟨n, _, z⟩ := IsD_le h2 h m t ht e2; rw [e] at z; cases z
  | some n =>
    obtain ⟨m, hm, e2⟩ := IsD_le h h2 n t ht e
    obtain ⟨k, hk, e3⟩ := IsD_le h2 h m t ht e2
    rw [e] at e3; cases e3
    rw [e2, show m = n by omega]
theorem IsD_cong {M : Nat} {src src2 : Nat → Prop} {R R2 : Nat → Nat → Prop} {D : Nat → Option Nat} (h : IsD M src R D) (hs : ∀ s, s < M → (src s ↔ src2 s)) (hR : ∀ s t, s < M → t < M → D s ≠ none → R2 s t → R s t) (hR2 : ∀ s t, s < M → t < M → D s ≠ none → R s t → R2 s t) : IsD M src2 R2 D :=
  ⟨fun s e => (h.1 s e).trans (hs s e), fun s t n a b c d => h.2.1 s t n a b c (hR s t a b (some_ne c) d), fun t n a b => by
    obtain ⟨s, x, y, z⟩ := h.2.2 t n a b
    exact ⟨s, x, y, hR2 s t x a (some_ne y) z⟩⟩
section FI
variable {A : Nat → Nat → Option Nat} {M r0 : Nat} {S : AS}
theorem BI_le (h : BI A M r0 (4 * S.1) S) {k d t v : Nat} (hk : k < S.1) (hd : d < 4) (ha : A (S.2.1 k) d = some t) (hv : S.2.2.1 (S.2.1 k) = some v) : ∃ m, m ≤ v + 1 ∧ S.2.2.1 t = some m := by
  have hm := BI_mono h
  obtain ⟨i1, i2, i3, i4, i5, i6, ev, i7, i8⟩ := h
  have hne := i6 (4 * k + d) t (by omega) (by rw [show (4 * k + d) / 4 = k by omega, show (4 * k + d) % 4 = d by omega]; exact ha)
  obtain ⟨m, e⟩ := Option.ne_none_iff_exists'.mp hne
  refine ⟨m, ?_, e⟩
  obtain ⟨i, hi, hit⟩ := i3 t hne
  by_cases e0 : i < r0
  · have := (i5 i e0).1
    rw [hit, e] at this; cases this; omega
  · obtain ⟨x1, x2, x3, x4, ⟨u, x5, x6⟩, x7, x8⟩ := i7 i (by omega) hi
    have hle : ev i ≤ 4 * k + d := Nat.le_of_not_lt (fun z => x7 (4 * k + d) z (by rw [show (4 * k + d) / 4 = k by omega, show (4 * k + d) % 4 = d by omega, hit]; exact ha))
    have := hm k (ev i / 4) (by omega) hk u v x5 hv
    rw [hit, e] at x6; cases x6; omega
theorem BI_isD (h : BI A M r0 (4 * S.1) S) : IsD M (fun s => ∃ i, i < r0 ∧ S.2.1 i = s) (RA A) S.2.2.1 := by
  have h0 := h
  obtain ⟨i1, i2, i3, i4, i5, i6, ev, i7, i8⟩ := h
  refine ⟨fun s hs => ⟨fun e => ?_, fun ⟨i, hi, e⟩ => ?_⟩, fun s t n hs ht e hR => ?_, fun t n ht e => ?_⟩
  · obtain ⟨i, hi, e2⟩ := i3 s (some_ne e)
    refine ⟨i, Nat.lt_of_not_le (fun z => ?_), e2⟩
    obtain ⟨x1, x2, x3, x4, ⟨u, x5, x6⟩, x7, x8⟩ := i7 i z hi
    rw [e2, e] at x6; cases x6
  · rw [← e]; exact (i5 i hi).1
  · obtain ⟨i, hi, e2⟩ := i3 s (some_ne e)
    obtain ⟨d, hd, e3⟩ := hR
    subst e2
    exact BI_le h0 hi hd e3 e
  · obtain ⟨i, hi, e2⟩ := i3 t (some_ne e)
    subst e2
    have hr : r0 ≤ i := Nat.le_of_not_lt (fun z => by rw [(i5 i z).1] at e; cases e)
    obtain ⟨x1, x2, x3, x4, ⟨u, x5, x6⟩, x7, x8⟩ := i7 i hr hi
    rw [e] at x6; cases x6
    exact ⟨S.2.1 (ev i / 4), (i2 _ (by omega)).1, x5, ev i % 4, Nat.mod_lt _ (by decide), x4⟩
/-- how many shortest paths -/
def IsC (A : Nat → Nat → Option Nat) (M : Nat) (D : Nat → Option Nat) (C : Nat → Nat) : Prop :=
  (∀ s, s < M → D s = some 0 → C s = 1) ∧ ∀ t n, t < M → D t = some (n + 1) → C t = sm (fun e => if D (e / 4) = some n ∧ A (e / 4) (e % 4) = some t then C (e / 4) else 0) (4 * M)
theorem BI_isC (h : BI A M r0 (4 * S.1) S) : IsC A M S.2.2.1 S.2.2.2.2 := by
  have hD := BI_isD h
  obtain ⟨i1, i2, i3, i4, i5, i6, ev, i7, i8⟩ := h
  refine ⟨fun s hs e => ?_, fun t n ht e => ?_⟩
  · obtain ⟨i, hi, e2⟩ := (hD.1 s hs).mp e
    rw [← e2]; exact (i5 i hi).2
  · obtain ⟨i, hi, e2⟩ := i3 t (some_ne e)
    have hr : r0 ≤ i := Nat.le_of_not_lt (fun z => by have := (i5 i z).1; rw [e2, e] at this; cases this)
    obtain ⟨x1, x2, x3, x4, ⟨u, x5, x6⟩, x7, x8⟩ := i7 i hr hi
    rw [e2] at x8
    rw [x8, sm_4 (fun k d => if A (S.2.1 k) d = some t ∧ S.2.2.1 t = some ((S.2.2.1 (S.2.1 k)).getD 0 + 1) then S.2.2.2.2 (S.2.1 k) else 0) S.1, sm_4 (fun k d => if S.2.2.1 k = some n ∧ A k d = some t then S.2.2.2.2 k else 0) M]
    have q := i1 (fun s => (if A s 0 = some t ∧ S.2.2.1 t = some ((S.2.2.1 s).getD 0 + 1) then S.2.2.2.2 s else 0) + (if A s 1 = some t ∧ S.2.2.1 t = some ((S.2.2.1 s).getD 0 + 1) then S.2.2.2.2 s else 0) + (if A s 2 = some t ∧ S.2.2.1 t = some ((S.2.2.1 s).getD 0 + 1) then S.2.2.2.2 s else 0) + (if A s 3 = some t ∧ S.2.2.1 t = some ((S.2.2.1 s).getD 0 + 1) then S.2.2.2.2 s else 0))
    rw [q]
    refine sm_cong (fun k hk => ?_)
    cases hk2 : S.2.2.1 k with
    | none => simp
    | some a =>
      have ea : ∀ d, (if A k d = some t ∧ S.2.2.1 t = some ((some a).getD 0 + 1) then S.2.2.2.2 k else 0) = (if some a = some n ∧ A k d = some t then S.2.2.2.2 k else 0) := fun d => by
        rw [e]
        by_cases c1 : A k d = some t
        · by_cases c2 : a = n
          · rw [if_pos ⟨c1, by rw [c2]; rfl⟩, if_pos ⟨by rw [c2], c1⟩]
          · rw [if_neg (fun z => c2 (by have := z.2; cases this; rfl)), if_neg (fun z => c2 (by cases z.1; rfl))]
        · rw [if_neg (fun z => c1 z.1), if_neg (fun z => c1 z.2)]
      rw [ea, ea, ea, ea]
      rfl
/-- a sum over the order is a sum over the states -/
theorem BI_sm (h : BI A M r0 (4 * S.1) S) (F : Nat → Nat) : sm (fun i => F (S.2.1 i)) S.1 = sm (fun s => if (S.2.2.1 s).isSome then F s else 0) M := h.1 F
end FI
