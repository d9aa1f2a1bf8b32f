/-! goals and refusals -/
def ws (v s : Nat) : Bool := v == 0 || (decide (v < 7) && tp s == v) || (decide (9 < v) && s == v - 10)
def gl (goal v st : Nat) : Bool := st / 24 == goal && ws v (st % 24)
theorem ws_k : ∀ s, s < 24 → ∀ v, v < 34 → v < 7 ∨ 9 < v → f_X3_meets (nI s) (nI v) = some (bI (ws v s)) := by decide +kernel
theorem p_meets {st goal v : Nat} (hs : st < 600) (hg : goal < 25) (hv : v < 34) (hv2 : v < 7 ∨ 9 < v) : f_X5_meets (nI st) (nI goal) (nI v) = some (bI (gl goal v st)) := by
  unfold f_X5_meets f_X4_cellOf f_X4_stanceOf
  simp only [Option.bind_some, dv24 (show st < 2 ^ 31 by omega), rq24 (show st < 2 ^ 31 by omega)]
  unfold gl
  by_cases e : st / 24 = goal
  · rw [if_pos (by rw [e]), ws_k _ (Nat.mod_lt _ (by decide)) v hv hv2, Option.bind_some, show (st / 24 == goal) = true from beq_iff_eq.mpr e, Bool.true_and]
    cases ws v (st % 24) <;> rfl
  · rw [if_neg (fun z => e ((nI_eq (by omega) (by omega)).mp z)), show (st / 24 == goal) = false from beq_eq_false_iff_ne.mpr e]; rfl
theorem m_j45 {st goal : Nat} (hs : st < 600) (hg : goal < 25) (b : Bool) : f_X11_isGoal_j45 (nI st) (nI goal) (bI b) = some (bI (st / 24 == goal && b)) := by
  unfold f_X11_isGoal_j45
  rw [dv24 (by omega)]
  by_cases e : st / 24 = goal
  · rw [if_pos (by rw [e]), show (st / 24 == goal) = true from beq_iff_eq.mpr e]
    cases b <;> rfl
  · rw [if_neg (fun z => e ((nI_eq (by omega) (by omega)).mp z)), show (st / 24 == goal) = false from beq_eq_false_iff_ne.mpr e]; rfl
theorem m_isGoal {st goal v : Nat} {top : Nat → Int32} (ht : ∀ s, s < 24 → top s = nI (tp s)) (hs : st < 600) (hg : goal < 25) (hv : v < 34) (hv2 : v < 7 ∨ 9 < v) : f_X11_isGoal (nI st) (nI goal) (nI v) top = some (bI (gl goal v st)) := by
  have hm := Nat.mod_lt st (show 0 < 24 by decide)
  have hj0 := m_j45 hs hg false
  have hj1 := m_j45 hs hg true
  unfold f_X11_isGoal f_X11_isGoal_j23
  rw [dv24 (by omega), rq24 (by omega), rdn hm (by decide), Option.bind_some, cln (by omega), ht _ hm]
  unfold gl
  by_cases e0 : v = 0
  · subst e0
    rw [if_pos (show nI 0 = 0 from rfl)]
    exact hj1
  · rw [if_neg (show ¬ nI v = 0 from nI_ne0 (by omega) (by omega))]
    by_cases e1 : v < 7
    · rw [if_neg (show ¬ (7 : Int32) ≤ nI v from nI_ge e1 (by decide)), if_pos (show nI v ≤ 9 from nI_le (show v ≤ 9 by omega) (by decide))]
      by_cases e2 : tp (st % 24) = v
      · rw [if_pos (by rw [e2]), show ws v (st % 24) = true by unfold ws; simp [e1, e2]]
        exact hj1
      · have ht6 := (tp_m st).1
        rw [if_neg (fun z => e2 ((nI_eq (by omega) (by omega)).mp z)), show ws v (st % 24) = false by unfold ws; simp [e0, e2]; omega]
        exact hj0
    · rw [if_pos (show (7 : Int32) ≤ nI v from nI_le (show 7 ≤ v by omega) (by omega)), if_neg (show ¬ nI v ≤ 9 from nI_ge (show 9 < v by omega) (by omega)), show nI v - 10 = nI (v - 10) from pk_sub (b := 10) (by omega)]
      by_cases e2 : st % 24 = v - 10
      · rw [if_pos (by rw [e2]), show ws v (st % 24) = true by unfold ws; simp [e2]; omega]
        exact hj1
      · rw [if_neg (fun z => e2 ((nI_eq (by omega) (by omega)).mp z)), show ws v (st % 24) = false by unfold ws; simp [e0, e1, e2]]
        exact hj0
def may (n : Nat) (x1 x2 x3 x4 : Int32) : Int32 := if inb x1 n && inb x2 24 && inb x3 n then (if inr x4 0 6 || inr x4 10 33 then 0 else -2) else -1
theorem p_j41 (x s : Int32) : f_X10_refusalOfGoal_j41 x s = some (if inr x 0 6 then 0 else if s = 0 then -2 else 0) := by
  unfold f_X10_refusalOfGoal_j41
  by_cases e : x = 0
  · subst e; rfl
  · rw [if_neg e, p_isFace, Option.bind_some]
    have ex : x.toInt ≠ 0 := fun z => e (Int32.toInt_inj.mp z)
    have : inr x 1 6 = inr x 0 6 := by unfold inr; congr 1; exact propext ⟨fun z => by omega, fun z => by omega⟩
    rw [this]
    cases inr x 0 6
    · rw [if_pos (show bI false = 0 from rfl)]
      by_cases hs : s = 0
      · rw [if_pos hs, if_pos hs]; rfl
      · rw [if_neg hs, if_neg hs]; rfl
    · rfl
theorem p_ref {n : Nat} (hn : n ≤ 25) (x1 x2 x3 x4 : Int32) : f_X10_refusalOfGoal x1 x2 x3 x4 (nI n) = some (may n x1 x2 x3 x4) := by
  unfold f_X10_refusalOfGoal
  rw [p_isStart x1 x2 (by omega), p_has x3 (by omega)]
  simp only [Option.bind_some, bI_0, p_j41]
  unfold may
  cases inb x1 n && inb x2 24
  · rfl
  · cases inb x3 n
    · rfl
    · simp only [Bool.true_eq_false, if_false, Bool.and_self, if_true, Int32.lt_iff_toInt_lt, Int32.le_iff_toInt_le, show (10 : Int32).toInt = 10 from rfl, show (34 : Int32).toInt = 34 from rfl]
      by_cases h1 : x4.toInt < 10
      · rw [if_pos h1, show inr x4 10 33 = false from decide_eq_false (by omega)]
        cases inr x4 0 6 <;> rfl
      · rw [if_neg h1]
        by_cases h2 : (34 : Int) ≤ x4.toInt
        · rw [if_pos h2, show inr x4 10 33 = false from decide_eq_false (by omega)]
          cases inr x4 0 6 <;> rfl
        · rw [if_neg h2, show inr x4 10 33 = true from decide_eq_true (by omega)]
          cases inr x4 0 6 <;> rfl
theorem m_ref {w h : Nat} (h0 : 0 < w * h) (h1 : w * h < 1000) (x1 x2 x3 x4 : Int32) : f_X11_mayGo x1 x2 x3 x4 (nI w) (nI h) = some (may (w * h) x1 x2 x3 x4) := by
  unfold f_X11_mayGo f_X11_isWant
  rw [m_isCell x1 h0 h1, m_isStance, m_isCell x3 h0 h1, m_inr (m := 0) (n := 6) rfl rfl, m_inr (m := 10) (n := 33) rfl rfl]
  simp only [Option.bind_some, bI_0]
  unfold may
  cases inb x1 (w * h) <;> cases inb x2 24 <;> cases inb x3 (w * h) <;> cases inr x4 0 6 <;> cases inr x4 10 33 <;> rfl
theorem may_m : (-1 : Int32) ≠ 0 ∧ ¬ (0 : Int32) ≤ -1 ∧ (-2 : Int32) ≠ 0 ∧ ¬ (0 : Int32) ≤ -2 := by decide
theorem may_c {n : Nat} (hn : n ≤ 25) (x1 x2 x3 x4 : Int32) : (may n x1 x2 x3 x4 ≠ 0 ∧ ¬ 0 ≤ may n x1 x2 x3 x4) ∨ (may n x1 x2 x3 x4 = 0 ∧ ∃ c s gg v, c < n ∧ s < 24 ∧ gg < n ∧ v < 34 ∧ (v < 7 ∨ 9 < v) ∧ x1 = nI c ∧ x2 = nI s ∧ x3 = nI gg ∧ x4 = nI v) := by
  unfold may
  cases h1 : inb x1 n with
  | false => exact Or.inl ⟨may_m.1, may_m.2.1⟩
  | true =>
    cases h2 : inb x2 24 with
    | false => exact Or.inl ⟨may_m.1, may_m.2.1⟩
    | true =>
      cases h3 : inb x3 n with
      | false => exact Or.inl ⟨may_m.1, may_m.2.1⟩
      | true =>
        obtain ⟨c, hc, e1⟩ := inb_of h1 (by omega)
        obtain ⟨s, hs, e2⟩ := inb_of h2 (by omega)
        obtain ⟨gg, hg, e3⟩ := inb_of h3 (by omega)
        cases h4 : inr x4 0 6 with
        | true =>
          obtain ⟨v, _, hv, e4⟩ := inr_of h4 (by omega)
          exact Or.inr ⟨rfl, c, s, gg, v, hc, hs, hg, by omega, by omega, e1, e2, e3, e4⟩
        | false =>
          cases h5 : inr x4 10 33 with
          | true =>
            obtain ⟨v, _, hv, e4⟩ := inr_of h5 (by omega)
            exact Or.inr ⟨rfl, c, s, gg, v, hc, hs, hg, by omega, by omega, e1, e2, e3, e4⟩
          | false => exact Or.inl ⟨may_m.2.2.1, may_m.2.2.2⟩
