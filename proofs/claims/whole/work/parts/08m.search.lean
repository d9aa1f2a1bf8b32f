/-! the class's search, over numbers: how many are reached, in which order, how far, whence and by which way, how many paths -/
abbrev AS : Type := Nat × (Nat → Nat) × (Nat → Option Nat) × (Nat → Option (Nat × Nat)) × (Nat → Nat)
def aadd (t dd : Nat) (pw : Option (Nat × Nat)) (S : AS) : AS := (S.1 + 1, fun i => if i = S.1 then t else S.2.1 i, fun s => if s = t then some dd else S.2.2.1 s, fun s => if s = t then pw else S.2.2.2.1 s, fun s => if s = t then 0 else S.2.2.2.2 s)
def ainc (t f : Nat) (S : AS) : AS := (S.1, S.2.1, S.2.2.1, S.2.2.2.1, fun s => if s = t then S.2.2.2.2 t + S.2.2.2.2 f else S.2.2.2.2 s)
def anew (f d t : Nat) (S : AS) : AS := if S.2.2.1 t = none then aadd t ((S.2.2.1 f).getD 0 + 1) (some (f, d)) S else S
def amt (f d : Nat) (to : Option Nat) (S : AS) : AS := match to with
  | none => S
  | some t => if (anew f d t S).2.2.1 t = some (((anew f d t S).2.2.1 f).getD 0 + 1) then ainc t f (anew f d t S) else anew f d t S
def pwW (o : Option (Nat × Nat)) : Int32 := match o with
  | none => -1
  | some q => nI q.2
def pwP (o : Option (Nat × Nat)) : Int32 := match o with
  | none => -1
  | some q => nI q.1
def Sr (S : AS) (reached : Int32) (dist lastW par ord : Nat → Int32) (paths : Nat → Int64) : Prop :=
  S.1 = ctn (fun s => (S.2.2.1 s).isSome) 600 ∧ reached = nI S.1 ∧ (∀ i, i < S.1 → ord i = nI (S.2.1 i) ∧ S.2.1 i < 600) ∧ (∀ s, s < 600 → dist s = en (S.2.2.1 s)) ∧ (∀ s v, S.2.2.1 s = some v → v < S.1) ∧ (∀ s, s < 600 → S.2.2.1 s ≠ none → lastW s = pwW (S.2.2.2.1 s) ∧ par s = pwP (S.2.2.2.1 s) ∧ paths s = lN (S.2.2.2.2 s))
theorem ctn_up {p q : Nat → Bool} {t : Nat} (hp : p t = false) (hq : q t = true) (ho : ∀ k, k ≠ t → q k = p k) : ∀ n, t < n → ctn q n = ctn p n + 1
  | 0, h => absurd h (Nat.not_lt_zero t)
  | n + 1, h => by
    by_cases e : t = n
    · subst e
      rw [ctn, ctn, ctn_cong (fun k hk => ho k (by omega)), hp, hq]; rfl
    · rw [ctn, ctn, ctn_up hp hq ho n (by omega), ho n (fun z => e z.symm)]; omega
theorem ctn_lt {p : Nat → Bool} {t : Nat} (hp : p t = false) : ∀ n, t < n → ctn p n < n
  | 0, h => absurd h (Nat.not_lt_zero t)
  | n + 1, h => by
    by_cases e : t = n
    · subst e
      have := ctn_le p t
      rw [ctn, hp]
      show ctn p t + 0 < t + 1
      omega
    · have := ctn_lt hp n (by omega)
      rw [ctn]
      split <;> omega
theorem p_isState {s : Nat} (h : s < 600) : f_X8_isState (nI s) = some 1 := by
  unfold f_X8_isState
  rw [if_neg (nI_pos (by omega)), if_neg (show ¬ (600 : Int32) ≤ nI s from nI_ge h (by decide))]
theorem p_isStateN : f_X8_isState (-1) = some 0 := rfl
theorem updL {f : Nat → Int64} {k : Nat} {x : Int64} {j : Nat} : vp_updL f k x j = if j = k then x else f j := rfl
section SR
variable {S : AS} {reached : Int32} {dist lastW par ord : Nat → Int32} {paths : Nat → Int64}
theorem Sr_600 (h : Sr S reached dist lastW par ord paths) : S.1 ≤ 600 := by rw [h.1]; exact ctn_le _ _
theorem p_add (hS : Sr S reached dist lastW par ord paths) {t v : Nat} {pw : Option (Nat × Nat)} {x3 x4 : Int32} (ht : t < 600) (hn : S.2.2.1 t = none) (hv : v ≤ S.1) (h3 : x3 = pwP pw) (h4 : x4 = pwW pw) : f_X8_add (nI t) (nI v) x3 x4 reached dist lastW par ord paths = some (nI (S.1 + 1), upd dist t (nI v), upd lastW t x4, upd par t x3, upd ord S.1 (nI t), vp_updL paths t 0) ∧ Sr (aadd t v pw S) (nI (S.1 + 1)) (upd dist t (nI v)) (upd lastW t x4) (upd par t x3) (upd ord S.1 (nI t)) (vp_updL paths t 0) := by
  obtain ⟨q1, rfl, q3, q4, q5, q6⟩ := hS
  have hlt : S.1 < 600 := by rw [q1]; exact ctn_lt (t := t) (by rw [hn]; rfl) 600 ht
  constructor
  · unfold f_X8_add
    rw [p_isState ht, Option.bind_some, if_neg (by decide), if_pos (show nI S.1 < 600 from nI_lt hlt (by decide)), ckn ht (by decide), ckn hlt (by decide)]
    simp only [Option.bind_some, cln (show t < 2 ^ 31 by omega), cln (show S.1 < 2 ^ 31 by omega), nI_1]
  · refine ⟨?_, rfl, fun i hi => ?_, fun s hs => ?_, fun s v' e => ?_, fun s hs e => ?_⟩
    · show S.1 + 1 = ctn (fun s => (if s = t then some v else S.2.2.1 s).isSome) 600
      rw [ctn_up (p := fun s => (S.2.2.1 s).isSome) (t := t) (by rw [hn]; rfl) (by rw [if_pos rfl]; rfl) (fun k hk => by rw [if_neg hk]) 600 ht, ← q1]
    · show upd ord S.1 (nI t) i = nI (if i = S.1 then t else S.2.1 i) ∧ (if i = S.1 then t else S.2.1 i) < 600
      have hi : i < S.1 + 1 := hi
      by_cases e : i = S.1
      · rw [updn, if_pos e, if_pos e]; exact ⟨rfl, ht⟩
      · rw [updn, if_neg e, if_neg e]; exact q3 i (by omega)
    · show upd dist t (nI v) s = en (if s = t then some v else S.2.2.1 s)
      by_cases e : s = t
      · rw [updn, if_pos e, if_pos e]; rfl
      · rw [updn, if_neg e, if_neg e]; exact q4 s hs
    · have e : (if s = t then some v else S.2.2.1 s) = some v' := e
      show v' < S.1 + 1
      by_cases e2 : s = t
      · rw [if_pos e2] at e; cases e; omega
      · rw [if_neg e2] at e; have := q5 s v' e; omega
    · show upd lastW t x4 s = pwW (if s = t then pw else S.2.2.2.1 s) ∧ upd par t x3 s = pwP (if s = t then pw else S.2.2.2.1 s) ∧ vp_updL paths t 0 s = lN (if s = t then 0 else S.2.2.2.2 s)
      have e : (if s = t then some v else S.2.2.1 s) ≠ none := e
      rw [updn, updn, updL]
      by_cases e2 : s = t
      · rw [if_pos e2, if_pos e2, if_pos e2, if_pos e2, if_pos e2]; exact ⟨h4, h3, rfl⟩
      · rw [if_neg e2] at e
        rw [if_neg e2, if_neg e2, if_neg e2, if_neg e2, if_neg e2]; exact q6 s hs e
theorem p_meetJ (hS : Sr S reached dist lastW par ord paths) {f t v u : Nat} (hf : f < 600) (ht : t < 600) (hv : S.2.2.1 f = some v) (hu : S.2.2.1 t = some u) : ∃ paths2, f_X8_meet_j40 (nI f) (nI t) reached dist lastW par ord paths = some (reached, dist, lastW, par, ord, paths2) ∧ Sr (if S.2.2.1 t = some ((S.2.2.1 f).getD 0 + 1) then ainc t f S else S) reached dist lastW par ord paths2 := by
  have h6 := Sr_600 hS
  have hS0 := hS
  obtain ⟨q1, rfl, q3, q4, q5, q6⟩ := hS
  have v6 := q5 f v hv
  have u6 := q5 t u hu
  unfold f_X8_meet_j40
  rw [rdn ht (by decide), rdn hf (by decide)]
  simp only [Option.bind_some, cln (show t < 2 ^ 31 by omega), cln (show f < 2 ^ 31 by omega), q4 t ht, q4 f hf, hv, hu, en, nI_1, Option.getD_some, Option.some.injEq]
  by_cases e : u = v + 1
  · refine ⟨vp_updL paths t (paths t + paths f), ?_, ?_⟩
    · rw [if_pos (by rw [e]), rdn ht (by decide), rdn hf (by decide), ckn ht (by decide)]
      rfl
    · rw [if_pos e]
      refine ⟨q1, rfl, q3, q4, q5, fun s hs z => ?_⟩
      have z : S.2.2.1 s ≠ none := z
      obtain ⟨z1, z2, z3⟩ := q6 s hs z
      refine ⟨z1, z2, ?_⟩
      show vp_updL paths t (paths t + paths f) s = lN (if s = t then S.2.2.2.2 t + S.2.2.2.2 f else S.2.2.2.2 s)
      rw [updL]
      by_cases e2 : s = t
      · rw [if_pos e2, if_pos e2, (q6 t ht (by rw [hu]; exact fun z => by cases z)).2.2, (q6 f hf (by rw [hv]; exact fun z => by cases z)).2.2, lN_add]
      · rw [if_neg e2, if_neg e2]; exact z3
  · refine ⟨paths, ?_, ?_⟩
    · rw [if_neg (fun z => e ((nI_eq (by omega) (by omega)).mp z))]
    · rw [if_neg e]; exact hS0
theorem p_meet (hS : Sr S reached dist lastW par ord paths) {f d v : Nat} {to : Option Nat} (hf : f < 600) (hv : S.2.2.1 f = some v) (hto : ∀ t, to = some t → t < 600) : ∃ r2 d2 l2 p2 o2 c2, f_X8_meet (nI f) (nI d) (en to) reached dist lastW par ord paths = some (r2, d2, l2, p2, o2, c2) ∧ Sr (amt f d to S) r2 d2 l2 p2 o2 c2 := by
  unfold f_X8_meet
  rw [p_isState hf, Option.bind_some, if_neg (by decide)]
  cases to with
  | none => exact ⟨_, _, _, _, _, _, rfl, hS⟩
  | some t =>
    have ht := hto t rfl
    rw [show en (some t) = nI t from rfl, p_isState ht, Option.bind_some, if_neg (by decide), rdn ht (by decide), Option.bind_some, cln (by omega), hS.2.2.2.1 t ht]
    show ∃ r2 d2 l2 p2 o2 c2, _ ∧ Sr (if (anew f d t S).2.2.1 t = some (((anew f d t S).2.2.1 f).getD 0 + 1) then ainc t f (anew f d t S) else anew f d t S) r2 d2 l2 p2 o2 c2
    cases hu : S.2.2.1 t with
    | none =>
      have h6 := Sr_600 hS
      have hv1 := hS.2.2.2.2.1 f v hv
      have hft : f ≠ t := fun z => by rw [z, hu] at hv; cases hv
      have ea : anew f d t S = aadd t (v + 1) (some (f, d)) S := by unfold anew; rw [if_pos hu, hv]; rfl
      obtain ⟨a1, a2⟩ := p_add hS (pw := some (f, d)) (x3 := nI f) (x4 := nI d) ht hu (show v + 1 ≤ S.1 by omega) rfl rfl
      rw [if_pos (show en none = -1 from rfl), rdn hf (by decide), Option.bind_some, cln (by omega), hS.2.2.2.1 f hf, hv, show en (some v) + 1 = nI (v + 1) from nI_1 v, a1, Option.bind_some, ea]
      obtain ⟨c2, g1, g2⟩ := p_meetJ a2 (f := f) (t := t) (v := v) (u := v + 1) hf ht (by show (if f = t then some (v + 1) else S.2.2.1 f) = some v; rw [if_neg hft]; exact hv) (by show (if t = t then some (v + 1) else S.2.2.1 t) = some (v + 1); rw [if_pos rfl])
      exact ⟨_, _, _, _, _, c2, g1, g2⟩
    | some u =>
      have h6 := Sr_600 hS
      have hu1 := hS.2.2.2.2.1 t u hu
      have ea : anew f d t S = S := by unfold anew; rw [if_neg (by rw [hu]; exact fun z => by cases z)]
      rw [if_neg (show ¬ en (some u) = -1 from nI_m1 (by omega)), ea]
      obtain ⟨c2, g1, g2⟩ := p_meetJ hS (f := f) (t := t) hf ht hv hu
      exact ⟨_, _, _, _, _, c2, g1, g2⟩
end SR
