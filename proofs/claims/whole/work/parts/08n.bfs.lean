/-! the search as a run of events: event e = 4 k + d is the d-th way of the k-th state of the order -/
def sm (f : Nat → Nat) : Nat → Nat
  | 0 => 0
  | n + 1 => sm f n + f n
theorem sm_cong {f g : Nat → Nat} : ∀ {n : Nat}, (∀ k, k < n → f k = g k) → sm f n = sm g n
  | 0, _ => rfl
  | n + 1, h => by rw [sm, sm, sm_cong (fun k hk => h k (by omega)), h n (by omega)]
theorem sm_up {f g : Nat → Nat} {t : Nat} (ho : ∀ k, k ≠ t → g k = f k) : ∀ n, t < n → sm g n + f t = sm f n + g t
  | 0, h => absurd h (Nat.not_lt_zero t)
  | n + 1, h => by
    by_cases e : t = n
    · subst e
      rw [sm, sm, sm_cong (fun k hk => ho k (by omega))]; omega
    · have := sm_up ho n (by omega)
      rw [sm, sm, ho n (fun z => e z.symm)]; omega
theorem sm_4 (F : Nat → Nat → Nat) : ∀ n, sm (fun e => F (e / 4) (e % 4)) (4 * n) = sm (fun i => F i 0 + F i 1 + F i 2 + F i 3) n
  | 0 => rfl
  | n + 1 => by
    show sm (fun e => F (e / 4) (e % 4)) (4 * n + 1 + 1 + 1 + 1) = _
    rw [sm, sm, sm, sm, sm, sm_4 F n, show (4 * n) / 4 = n by omega, show (4 * n) % 4 = 0 by omega, show (4 * n + 1) / 4 = n by omega, show (4 * n + 1) % 4 = 1 by omega, show (4 * n + 1 + 1) / 4 = n by omega, show (4 * n + 1 + 1) % 4 = 2 by omega, show (4 * n + 1 + 1 + 1) / 4 = n by omega, show (4 * n + 1 + 1 + 1) % 4 = 3 by omega]
    omega
def BI (A : Nat → Nat → Option Nat) (M r0 E : Nat) (S : AS) : Prop :=
  (∀ F : Nat → Nat, sm (fun i => F (S.2.1 i)) S.1 = sm (fun s => if (S.2.2.1 s).isSome then F s else 0) M) ∧ (∀ i, i < S.1 → S.2.1 i < M ∧ S.2.2.1 (S.2.1 i) ≠ none) ∧ (∀ s, S.2.2.1 s ≠ none → ∃ i, i < S.1 ∧ S.2.1 i = s) ∧ r0 ≤ S.1 ∧ (∀ i, i < r0 → S.2.2.1 (S.2.1 i) = some 0 ∧ S.2.2.2.2 (S.2.1 i) = 1) ∧ (∀ e t, e < E → A (S.2.1 (e / 4)) (e % 4) = some t → S.2.2.1 t ≠ none) ∧
  ∃ ev : Nat → Nat, (∀ i, r0 ≤ i → i < S.1 → ev i < E ∧ ev i / 4 < i ∧ S.2.2.2.1 (S.2.1 i) = some (S.2.1 (ev i / 4), ev i % 4) ∧ A (S.2.1 (ev i / 4)) (ev i % 4) = some (S.2.1 i) ∧ (∃ v, S.2.2.1 (S.2.1 (ev i / 4)) = some v ∧ S.2.2.1 (S.2.1 i) = some (v + 1)) ∧ (∀ e, e < ev i → A (S.2.1 (e / 4)) (e % 4) ≠ some (S.2.1 i)) ∧ S.2.2.2.2 (S.2.1 i) = sm (fun e => if A (S.2.1 (e / 4)) (e % 4) = some (S.2.1 i) ∧ S.2.2.1 (S.2.1 i) = some ((S.2.2.1 (S.2.1 (e / 4))).getD 0 + 1) then S.2.2.2.2 (S.2.1 (e / 4)) else 0) E) ∧ (∀ i j, r0 ≤ i → i < j → j < S.1 → ev i < ev j)
/-- the order is sorted by distance -/
theorem BI_mono {A : Nat → Nat → Option Nat} {M r0 E : Nat} {S : AS} (h : BI A M r0 E S) : ∀ j i, i ≤ j → j < S.1 → ∀ a b, S.2.2.1 (S.2.1 i) = some a → S.2.2.1 (S.2.1 j) = some b → a ≤ b := by
  obtain ⟨i1, i2, i3, i4, i5, i6, ev, i7, i8⟩ := h
  intro j
  induction j using Nat.strongRecOn with
  | ind j ih =>
    intro i hij hj a b ha hb
    by_cases e : i = j
    · subst e; rw [ha] at hb; cases hb; omega
    · by_cases e0 : i < r0
      · rw [(i5 i e0).1] at ha; cases ha; omega
      · obtain ⟨x1, x2, x3, x4, ⟨v, x5, x6⟩, x7, x8⟩ := i7 i (by omega) (by omega)
        obtain ⟨y1, y2, y3, y4, ⟨u, y5, y6⟩, y7, y8⟩ := i7 j (by omega) hj
        have := i8 i j (by omega) (by omega) hj
        have q := ih (ev j / 4) y2 (ev i / 4) (by omega) (by omega) v u x5 y5
        rw [ha] at x6; rw [hb] at y6; cases x6; cases y6; omega
theorem some_ne {α : Type} {a : α} {o : Option α} (h : o = some a) : o ≠ none := fun z => by rw [h] at z; cases z
theorem amt_new {S : AS} {f d t v : Nat} (hv : S.2.2.1 f = some v) (ht : S.2.2.1 t = none) : amt f d (some t) S = (S.1 + 1, fun i => if i = S.1 then t else S.2.1 i, fun s => if s = t then some (v + 1) else S.2.2.1 s, fun s => if s = t then some (f, d) else S.2.2.2.1 s, fun s => if s = t then S.2.2.2.2 f else S.2.2.2.2 s) := by
  have hft : f ≠ t := fun z => by rw [z, ht] at hv; cases hv
  have ea : anew f d t S = aadd t (v + 1) (some (f, d)) S := by unfold anew; rw [if_pos ht, hv]; rfl
  unfold amt
  dsimp only
  rw [ea]
  have e1 : (aadd t (v + 1) (some (f, d)) S).2.2.1 t = some (v + 1) := if_pos rfl
  have e2 : (aadd t (v + 1) (some (f, d)) S).2.2.1 f = some v := (if_neg hft).trans hv
  show (if (aadd t (v + 1) (some (f, d)) S).2.2.1 t = some (((aadd t (v + 1) (some (f, d)) S).2.2.1 f).getD 0 + 1) then _ else _) = _
  rw [e1, e2, Option.getD_some, if_pos rfl]
  unfold ainc aadd
  simp only [if_pos, if_neg hft, Nat.zero_add]
  congr 4
  funext s
  by_cases e : s = t
  · rw [if_pos e, if_pos e]
  · rw [if_neg e, if_neg e, if_neg e]
theorem amt_inc {S : AS} {f d t v : Nat} (hv : S.2.2.1 f = some v) (ht : S.2.2.1 t = some (v + 1)) : amt f d (some t) S = (S.1, S.2.1, S.2.2.1, S.2.2.2.1, fun s => if s = t then S.2.2.2.2 t + S.2.2.2.2 f else S.2.2.2.2 s) := by
  have ea : anew f d t S = S := by unfold anew; rw [if_neg (some_ne ht)]
  unfold amt
  dsimp only
  rw [ea]
  show (if S.2.2.1 t = some ((S.2.2.1 f).getD 0 + 1) then _ else _) = _
  rw [hv, ht, Option.getD_some, if_pos rfl]
  rfl
theorem amt_old {S : AS} {f d t v u : Nat} (hv : S.2.2.1 f = some v) (ht : S.2.2.1 t = some u) (h : u ≠ v + 1) : amt f d (some t) S = S := by
  have ea : anew f d t S = S := by unfold anew; rw [if_neg (some_ne ht)]
  unfold amt
  dsimp only
  rw [ea]
  show (if S.2.2.1 t = some ((S.2.2.1 f).getD 0 + 1) then _ else _) = _
  rw [hv, ht, if_neg (fun z => h (by cases z; rfl))]
theorem BI_step {A : Nat → Nat → Option Nat} {M r0 E : Nat} {S : AS} (h : BI A M r0 E S) (hE : E / 4 < S.1) (hA : ∀ t, A (S.2.1 (E / 4)) (E % 4) = some t → t < M) : BI A M r0 (E + 1) (amt (S.2.1 (E / 4)) (E % 4) (A (S.2.1 (E / 4)) (E % 4)) S) := by
  have hm := BI_mono h
  obtain ⟨i1, i2, i3, i4, i5, i6, ev, i7, i8⟩ := h
  have hfin : ∀ i, r0 ≤ i → i < S.1 → ¬ (A (S.2.1 (E / 4)) (E % 4) = some (S.2.1 i) ∧ S.2.2.1 (S.2.1 i) = some ((S.2.2.1 (S.2.1 (E / 4))).getD 0 + 1)) → ∀ G : Nat → Nat, sm (fun e => if A (S.2.1 (e / 4)) (e % 4) = some (S.2.1 i) ∧ S.2.2.1 (S.2.1 i) = some ((S.2.2.1 (S.2.1 (e / 4))).getD 0 + 1) then G e else 0) (E + 1) = sm (fun e => if A (S.2.1 (e / 4)) (e % 4) = some (S.2.1 i) ∧ S.2.2.1 (S.2.1 i) = some ((S.2.2.1 (S.2.1 (e / 4))).getD 0 + 1) then G e else 0) E := fun i _ _ hn G => by
    rw [sm, if_neg hn, Nat.add_zero]
  obtain ⟨v, hv⟩ := Option.ne_none_iff_exists'.mp (i2 (E / 4) hE).2
  cases ht : A (S.2.1 (E / 4)) (E % 4) with
  | none =>
    refine ⟨i1, i2, i3, i4, i5, fun e t he ha => ?_, ev, fun i hi hr => ?_, i8⟩
    · have ha : A (S.2.1 (e / 4)) (e % 4) = some t := ha
      by_cases e2 : e = E
      · rw [e2, ht] at ha; cases ha
      · exact i6 e t (by omega) ha
    · obtain ⟨x1, x2, x3, x4, x5, x7, x8⟩ := i7 i hi hr
      refine ⟨by omega, x2, x3, x4, x5, x7, ?_⟩
      show S.2.2.2.2 (S.2.1 i) = _
      rw [x8]
      exact (hfin i hi hr (fun z => by rw [ht] at z; cases z.1) _).symm
  | some t =>
    cases hu : S.2.2.1 t with
    | some u =>
      by_cases huv : u = v + 1
      · subst huv
        rw [amt_inc hv hu]
        have hne : ∀ k, k ≤ E / 4 → S.2.1 k ≠ t := fun k hk z => by
          obtain ⟨a, ha⟩ := Option.ne_none_iff_exists'.mp (i2 k (by omega)).2
          have := hm (E / 4) k hk hE a v ha hv
          rw [z, hu] at ha; cases ha; omega
        refine ⟨i1, i2, i3, i4, fun i hi => ⟨(i5 i hi).1, ?_⟩, fun e t' he ha => ?_, ev, fun i hi hr => ?_, i8⟩
        · show (if S.2.1 i = t then _ else _) = _
          rw [if_neg (fun z => by have := (i5 i hi).1; rw [z, hu] at this; cases this)]
          exact (i5 i hi).2
        · by_cases e2 : e = E
          · have ha : A (S.2.1 (e / 4)) (e % 4) = some t' := ha
            rw [e2, ht] at ha; cases ha; exact some_ne hu
          · exact i6 e t' (by omega) ha
        · obtain ⟨x1, x2, x3, x4, x5, x7, x8⟩ := i7 i hi hr
          refine ⟨by omega, x2, x3, x4, x5, x7, ?_⟩
          show (if S.2.1 i = t then S.2.2.2.2 t + S.2.2.2.2 (S.2.1 (E / 4)) else S.2.2.2.2 (S.2.1 i)) = sm (fun e => if A (S.2.1 (e / 4)) (e % 4) = some (S.2.1 i) ∧ S.2.2.1 (S.2.1 i) = some ((S.2.2.1 (S.2.1 (e / 4))).getD 0 + 1) then (if S.2.1 (e / 4) = t then S.2.2.2.2 t + S.2.2.2.2 (S.2.1 (E / 4)) else S.2.2.2.2 (S.2.1 (e / 4))) else 0) (E + 1)
          have ec : sm (fun e => if A (S.2.1 (e / 4)) (e % 4) = some (S.2.1 i) ∧ S.2.2.1 (S.2.1 i) = some ((S.2.2.1 (S.2.1 (e / 4))).getD 0 + 1) then (if S.2.1 (e / 4) = t then S.2.2.2.2 t + S.2.2.2.2 (S.2.1 (E / 4)) else S.2.2.2.2 (S.2.1 (e / 4))) else 0) (E + 1) = sm (fun e => if A (S.2.1 (e / 4)) (e % 4) = some (S.2.1 i) ∧ S.2.2.1 (S.2.1 i) = some ((S.2.2.1 (S.2.1 (e / 4))).getD 0 + 1) then S.2.2.2.2 (S.2.1 (e / 4)) else 0) (E + 1) := sm_cong (fun e he => by rw [if_neg (hne (e / 4) (by omega))])
          rw [ec]
          by_cases ei : S.2.1 i = t
          · rw [if_pos ei, sm, if_pos (show A (S.2.1 (E / 4)) (E % 4) = some (S.2.1 i) ∧ S.2.2.1 (S.2.1 i) = some ((S.2.2.1 (S.2.1 (E / 4))).getD 0 + 1) from ⟨by rw [ht, ei], by rw [ei, hu, hv]; rfl⟩), ← x8, ei]
          · rw [if_neg ei, x8]
            exact (hfin i hi hr (fun z => by rw [ht] at z; exact ei (by cases z.1; rfl)) _).symm
      · rw [amt_old hv hu huv]
        refine ⟨i1, i2, i3, i4, i5, fun e t' he ha => ?_, ev, fun i hi hr => ?_, i8⟩
        · by_cases e2 : e = E
          · rw [e2, ht] at ha; cases ha; exact some_ne hu
          · exact i6 e t' (by omega) ha
        · obtain ⟨x1, x2, x3, x4, x5, x7, x8⟩ := i7 i hi hr
          refine ⟨by omega, x2, x3, x4, x5, x7, ?_⟩
          show S.2.2.2.2 (S.2.1 i) = _
          rw [x8]
          exact (hfin i hi hr (fun z => by
            rw [ht] at z
            have e1 : t = S.2.1 i := by cases z.1; rfl
            have e2 := z.2
            rw [← e1, hu, hv] at e2
            exact huv (by cases e2; rfl)) _).symm
    | none =>
      have htM := hA t ht
      rw [amt_new hv hu]
      have hne : ∀ k, k < S.1 → S.2.1 k ≠ t := fun k hk z => (i2 k hk).2 (by rw [z]; exact hu)
      have ho : ∀ k, k < S.1 → (if k = S.1 then t else S.2.1 k) = S.2.1 k := fun k hk => if_neg (by omega)
      have hD : ∀ k, k < S.1 → (if S.2.1 k = t then some (v + 1) else S.2.2.1 (S.2.1 k)) = S.2.2.1 (S.2.1 k) := fun k hk => if_neg (hne k hk)
      have hC : ∀ k, k < S.1 → (if S.2.1 k = t then S.2.2.2.2 (S.2.1 (E / 4)) else S.2.2.2.2 (S.2.1 k)) = S.2.2.2.2 (S.2.1 k) := fun k hk => if_neg (hne k hk)
      refine ⟨fun F => ?_, fun i hi => ?_, fun s hs => ?_, by show r0 ≤ S.1 + 1; omega, fun i hi => ?_, fun e t' he ha => ?_, fun i => if i = S.1 then E else ev i, fun i hi hr => ?_, fun i j hi hij hj => ?_⟩
      · show sm (fun i => F (if i = S.1 then t else S.2.1 i)) (S.1 + 1) = sm (fun s => if (if s = t then some (v + 1) else S.2.2.1 s).isSome then F s else 0) M
        rw [sm, if_pos rfl, sm_cong (fun k hk => by rw [ho k hk] : ∀ k, k < S.1 → F (if k = S.1 then t else S.2.1 k) = F (S.2.1 k)), i1 F]
        have := sm_up (f := fun s => if (S.2.2.1 s).isSome then F s else 0) (g := fun s => if (if s = t then some (v + 1) else S.2.2.1 s).isSome then F s else 0) (t := t) (fun k hk => by rw [if_neg hk]) M htM
        rw [hu, if_pos rfl] at this
        simp only [Option.isSome_none, Option.isSome_some, if_true, Bool.false_eq_true, if_false] at this
        omega
      · have hi : i < S.1 + 1 := hi
        show (if i = S.1 then t else S.2.1 i) < M ∧ (if (if i = S.1 then t else S.2.1 i) = t then some (v + 1) else S.2.2.1 (if i = S.1 then t else S.2.1 i)) ≠ none
        by_cases e : i = S.1
        · rw [if_pos e, if_pos rfl]; exact ⟨htM, some_ne rfl⟩
        · rw [if_neg e, hD i (by omega)]; exact i2 i (by omega)
      · have hs : (if s = t then some (v + 1) else S.2.2.1 s) ≠ none := hs
        show ∃ i, i < S.1 + 1 ∧ (if i = S.1 then t else S.2.1 i) = s
        by_cases e : s = t
        · exact ⟨S.1, by omega, by rw [if_pos rfl, e]⟩
        · rw [if_neg e] at hs
          obtain ⟨i, hi, e2⟩ := i3 s hs
          exact ⟨i, by omega, by rw [ho i hi]; exact e2⟩
      · show (if (if i = S.1 then t else S.2.1 i) = t then some (v + 1) else S.2.2.1 (if i = S.1 then t else S.2.1 i)) = some 0 ∧ (if (if i = S.1 then t else S.2.1 i) = t then S.2.2.2.2 (S.2.1 (E / 4)) else S.2.2.2.2 (if i = S.1 then t else S.2.1 i)) = 1
        rw [ho i (by omega), hD i (by omega), hC i (by omega)]
        exact i5 i hi
      · have ha : A (if e / 4 = S.1 then t else S.2.1 (e / 4)) (e % 4) = some t' := ha
        show (if t' = t then some (v + 1) else S.2.2.1 t') ≠ none
        by_cases e3 : t' = t
        · rw [if_pos e3]; exact some_ne rfl
        · rw [if_neg e3]
          rw [ho (e / 4) (by omega)] at ha
          by_cases e2 : e = E
          · rw [e2, ht] at ha; cases ha; exact absurd rfl e3
          · exact i6 e t' (by omega) ha
      · have hr : i < S.1 + 1 := hr
        by_cases e : i = S.1
        · subst e
          simp only [if_true, ho (E / 4) hE, hD (E / 4) hE, if_pos]
          refine ⟨by omega, hE, trivial, ht, ⟨v, hv, rfl⟩, fun e he ha => ?_, ?_⟩
          · rw [ho (e / 4) (by omega)] at ha
            exact i6 e t he ha hu
          · rw [sm, ho (E / 4) hE, hD (E / 4) hE, hC (E / 4) hE, if_pos ⟨ht, by rw [hv]; rfl⟩]
            have ez : ∀ n, n ≤ E → sm (fun e => if A (if e / 4 = S.1 then t else S.2.1 (e / 4)) (e % 4) = some t ∧ some (v + 1) = some ((if (if e / 4 = S.1 then t else S.2.1 (e / 4)) = t then some (v + 1) else S.2.2.1 (if e / 4 = S.1 then t else S.2.1 (e / 4))).getD 0 + 1) then (if (if e / 4 = S.1 then t else S.2.1 (e / 4)) = t then S.2.2.2.2 (S.2.1 (E / 4)) else S.2.2.2.2 (if e / 4 = S.1 then t else S.2.1 (e / 4))) else 0) n = 0 := by
              intro n
              induction n with
              | zero => exact fun _ => rfl
              | succ n ih =>
                intro hn
                rw [sm, ih (by omega), ho (n / 4) (by omega), if_neg (fun z => i6 n t (by omega) z.1 hu)]
            rw [ez E (Nat.le_refl _)]; omega
        · obtain ⟨x1, x2, x3, x4, ⟨a, x5, x6⟩, x7, x8⟩ := i7 i hi (by omega)
          simp only [if_neg e, ho (ev i / 4) (by omega), hD i (by omega), hD (ev i / 4) (by omega), if_neg (hne i (by omega))]
          refine ⟨by omega, x2, x3, x4, ⟨a, x5, x6⟩, fun e' he ha => ?_, ?_⟩
          · rw [ho (e' / 4) (by omega)] at ha
            exact x7 e' he ha
          · rw [x8, ← hfin i hi (by omega) (fun z => by
              rw [ht] at z
              exact hne i (by omega) (by cases z.1; rfl))]
            exact sm_cong (fun e' he => by rw [ho (e' / 4) (by omega), hD (e' / 4) (by omega), hC (e' / 4) (by omega)])
      · have hj : j < S.1 + 1 := hj
        show (if i = S.1 then E else ev i) < (if j = S.1 then E else ev j)
        rw [if_neg (show i ≠ S.1 by omega)]
        by_cases e : j = S.1
        · rw [if_pos e]; exact (i7 i hi (by omega)).1
        · rw [if_neg e]; exact i8 i j hi hij (by omega)
