/-! pure facts: refusals and small readings -/
def bI (b : Bool) : Int32 := if b then 1 else 0
theorem bI_0 (b : Bool) : (bI b = 0) = (b = false) := by cases b <;> simp [bI]
theorem bI_1 (b : Bool) : (bI b = 1) = (b = true) := by cases b <;> simp [bI]
theorem bI_z (b : Bool) : bI b = 0 ∨ bI b = 1 := by cases b <;> simp [bI]
def inb (x : Int32) (n : Nat) : Bool := decide (0 ≤ x.toInt ∧ x.toInt < n)
theorem inb_of {x : Int32} {n : Nat} (h : inb x n = true) (hn : n < 2 ^ 31) : ∃ j, j < n ∧ x = nI j := by
  have h1 := of_decide_eq_true h
  exact vp_in_of (vp_in_iff.mpr h1) hn
theorem inb_n {j n : Nat} (h : j < n) (hn : n < 2 ^ 31) : inb (nI j) n = true := by
  have e := nI_toInt (n := j) (by omega)
  exact decide_eq_true (by rw [e]; omega)
theorem tl (n : Nat) (h : n < 2 ^ 31) : (nI n).toInt = (n : Int) := nI_toInt h
theorem li (n : Nat) : (OfNat.ofNat n : Int32) = nI n := rfl
theorem p_rng {x : Int32} {a b : Int32} {n : Nat} (ha : a.toInt = 0) (hb : b.toInt = n) : (if x < a then some (0 : Int32) else (if b ≤ x then some 0 else some 1)) = some (bI (inb x n)) := by
  simp only [Int32.lt_iff_toInt_lt, Int32.le_iff_toInt_le, ha, hb]
  by_cases h1 : x.toInt < 0
  · rw [if_pos h1, show inb x n = false from decide_eq_false (by omega)]; rfl
  · rw [if_neg h1]
    by_cases h2 : (n : Int) ≤ x.toInt
    · rw [if_pos h2, show inb x n = false from decide_eq_false (by omega)]; rfl
    · rw [if_neg h2, show inb x n = true from decide_eq_true (by omega)]; rfl
theorem p_isStance (x : Int32) : f_X10_isStance x = some (bI (inb x 24)) := p_rng rfl rfl
theorem p_isWay (x : Int32) : f_X10_isWay x = some (bI (inb x 4)) := p_rng rfl rfl
theorem p_has (x : Int32) {n : Nat} (h : n < 2 ^ 31) : f_X2_has x (nI n) = some (bI (inb x n)) := p_rng rfl (tl n h)
def inr (x : Int32) (a b : Nat) : Bool := decide ((a : Int) ≤ x.toInt ∧ x.toInt ≤ b)
theorem inr_of {x : Int32} {a b : Nat} (h : inr x a b = true) (hn : b < 2 ^ 30) : ∃ j, a ≤ j ∧ j ≤ b ∧ x = nI j := by
  have h1 := of_decide_eq_true h
  obtain ⟨j, hj, e⟩ := vp_in_of (vp_in_iff.mpr (show 0 ≤ x.toInt ∧ x.toInt < ((b + 1 : Nat) : Int) by omega)) (by omega)
  rw [e, tl j (by omega)] at h1
  exact ⟨j, by omega, by omega, e⟩
theorem inr_n {j a b : Nat} (ha : a ≤ j) (h : j ≤ b) (hn : b < 2 ^ 31) : inr (nI j) a b = true := by
  have e := nI_toInt (n := j) (by omega)
  exact decide_eq_true (by rw [e]; omega)
theorem p_rng2 {x : Int32} {a b : Int32} {m n : Nat} (ha : a.toInt = m) (hb : b.toInt = n) : (if x < a then some (0 : Int32) else (if b < x then some 0 else some 1)) = some (bI (inr x m n)) := by
  simp only [Int32.lt_iff_toInt_lt, ha, hb]
  by_cases h1 : x.toInt < m
  · rw [if_pos h1, show inr x m n = false from decide_eq_false (by omega)]; rfl
  · rw [if_neg h1]
    by_cases h2 : (n : Int) < x.toInt
    · rw [if_pos h2, show inr x m n = false from decide_eq_false (by omega)]; rfl
    · rw [if_neg h2, show inr x m n = true from decide_eq_true (by omega)]; rfl
theorem p_isSide (x : Int32) : f_X10_isSide x = some (bI (inr x 2 5)) := p_rng2 rfl rfl
theorem p_isFace (x : Int32) : f_X10_isFace x = some (bI (inr x 1 6)) := p_rng2 rfl rfl
theorem p_oneIf (b : Bool) : f_X10_oneIf (bI b) = some (bI b) := by cases b <;> simp [f_X10_oneIf, bI]
theorem m_in {x a b : Int64} : f_X11_in x a b = some (bI (decide (a.toInt ≤ x.toInt ∧ x.toInt ≤ b.toInt))) := by
  unfold f_X11_in lg_cmp
  simp only [gt_iff_lt, Int64.lt_iff_toInt_lt, ← Int64.toInt_inj]
  by_cases h1 : x.toInt < a.toInt
  · rw [if_neg (show ¬ a.toInt < x.toInt by omega), if_neg (show ¬ x.toInt = a.toInt by omega), if_pos (by decide), decide_eq_false (by omega)]; rfl
  · have e1 : ¬ (if a.toInt < x.toInt then (1 : Int32) else if x.toInt = a.toInt then 0 else -1) < 0 := by
      by_cases h2 : a.toInt < x.toInt
      · rw [if_pos h2]; decide
      · rw [if_neg h2, if_pos (by omega)]; decide
    rw [if_neg e1]
    by_cases h2 : b.toInt < x.toInt
    · rw [if_pos h2, if_pos (by decide), decide_eq_false (by omega)]; rfl
    · rw [if_neg h2, decide_eq_true (by omega)]
      by_cases h3 : x.toInt = b.toInt
      · rw [if_pos h3]; rfl
      · rw [if_neg h3]; rfl
theorem m_inr {x : Int32} {a b : Int64} {m n : Nat} (ha : a.toInt = m) (hb : b.toInt = n) : f_X11_in x.toInt64 a b = some (bI (inr x m n)) := by
  rw [m_in, ha, hb, Int32.toInt_toInt64]; rfl
theorem nxb (b : Bool) : nx_b (bI b) = some (bI b) := by cases b <;> rfl
theorem inr0 (x : Int32) {n : Nat} (h : 0 < n) : inr x 0 (n - 1) = inb x n := by
  unfold inr inb
  congr 1
  exact propext ⟨fun h => by omega, fun h => by omega⟩
theorem m_isStance (x : Int32) : f_X11_isStance x = some (bI (inb x 24)) := by
  unfold f_X11_isStance
  rw [m_inr (m := 0) (n := 23) rfl rfl, Option.bind_some, nxb, Option.bind_some, inr0 x (n := 24) (by decide)]
theorem m_isWay (x : Int32) : f_X11_isWay x = some (bI (inb x 4)) := by
  unfold f_X11_isWay
  rw [m_inr (m := 0) (n := 3) rfl rfl, Option.bind_some, nxb, Option.bind_some, inr0 x (n := 4) (by decide)]
theorem toL {n : Nat} (h : n < 2 ^ 31) : (nI n).toInt64.toInt = (n : Int) := by rw [Int32.toInt_toInt64, tl n h]
theorem m_isCell (x : Int32) {w h : Nat} (h0 : 0 < w * h) (h1 : w * h < 1000) : f_X11_isCell x (nI w) (nI h) = some (bI (inb x (w * h))) := by
  unfold f_X11_isCell f_X11_cells
  have e : nI w * nI h - 1 = nI (w * h - 1) := by rw [pk_mul]; exact pk_sub (b := 1) h0
  rw [Option.bind_some, e, m_inr (m := 0) (n := w * h - 1) rfl (toL (by omega)), Option.bind_some, nxb, Option.bind_some, inr0 x h0]
theorem m_isPlace (x : Int32) {w h : Nat} (h0 : 0 < w * h) (h1 : w * h < 1000) : f_X11_isPlace x (nI w) (nI h) = some (bI (inb x (3 * (w * h)))) := by
  unfold f_X11_isPlace f_X11_cells
  have e : 3 * (nI w * nI h) - 1 = nI (3 * (w * h) - 1) := by
    rw [pk_mul, li 3, pk_mul]; exact pk_sub (b := 1) (by omega)
  rw [Option.bind_some, e, m_inr (m := 0) (n := 3 * (w * h) - 1) rfl (toL (by omega)), Option.bind_some, nxb, Option.bind_some, inr0 x (by omega)]
theorem p_isPlace (x : Int32) {n : Nat} (h : n < 1000) : f_X10_isPlace x (nI n) = some (bI (inb x (3 * n))) := by
  unfold f_X10_isPlace f_X2_size
  have e : 3 * nI n = nI (3 * n) := by rw [li 3, pk_mul]
  simp only [Option.bind_some, e]
  exact p_rng rfl (tl _ (by omega))
theorem rdn {α : Type} {f : Nat → α} {n k : Nat} (h : k < n) (hn : n < 2 ^ 31) : nx_rd f n (nI k) = some (f k) := by
  unfold nx_rd
  rw [if_neg (nI_in h hn), nI_clamp (by omega)]
theorem ckn {n k : Nat} (h : k < n) (hn : n < 2 ^ 31) : nx_ck n (nI k) = some () := by
  unfold nx_ck
  rw [if_neg (nI_in h hn)]
theorem cln {k : Nat} (h : k < 2 ^ 31) : (nI k).toNatClampNeg = k := nI_clamp h
/-- open cells -/
def opn (K : Nat → Nat) (g c : Nat) : Bool := K c != 1 && (K c < 6 || g.testBit (K c - 6))
theorem opn_k1 : ∀ k, k < 9 → ∀ g, g < 8 → (if nI k = 1 then some (0 : Int32) else if nI k - 6 < 0 then some 1 else if (nI g >>> ((nI k - 6) &&& 31)) &&& 1 = 1 then some 1 else some 0) = some (bI (k != 1 && (k < 6 || g.testBit (k - 6)))) := by decide +kernel
theorem opn_k2 : ∀ k, k < 9 → ∀ g, g < 8 → (if nI k = 1 then some (0 : Int32) else if nI k < 6 then some 1 else if (nI g >>> ((nI k - 6) &&& 31)) &&& 1 = 1 then some 1 else some 0) = some (bI (k != 1 && (k < 6 || g.testBit (k - 6)))) := by decide +kernel
theorem p_isOpen {K : Nat → Nat} {g n c : Nat} {kinds : Nat → Int32} (hk : kinds c = nI (K c)) (hK : K c ≤ 8) (hg : g < 8) (hc : c < n) (hn : n ≤ 25) : f_X2_isOpen (nI c) (nI g) (nI n) kinds = some (bI (opn K g c)) := by
  unfold f_X2_isOpen
  rw [if_neg (nI_pos (by omega)), if_neg (nI_ge hc (by omega)), rdn (by omega) (by omega)]
  simp only [Option.bind_some, cln (show c < 2 ^ 31 by omega), hk]
  exact opn_k1 (K c) (by omega) g hg
theorem p_isOpenN {g n : Nat} {kinds : Nat → Int32} : f_X2_isOpen (-1) (nI g) (nI n) kinds = some 0 := rfl
theorem m_isOpen {K : Nat → Nat} {g c : Nat} {kind : Nat → Int32} (hk : kind c = nI (K c)) (hK : K c ≤ 8) (hg : g < 8) (hc : c < 25) : f_X11_isOpen (nI c) (nI g) kind = some (bI (opn K g c)) := by
  unfold f_X11_isOpen
  rw [rdn (by omega) (by omega)]
  simp only [Option.bind_some, cln (show c < 2 ^ 31 by omega), hk]
  exact opn_k2 (K c) (by omega) g hg
theorem wh25 {w h : Nat} (hw : w ≤ 5) (hh : h ≤ 5) : w * h ≤ 25 := Nat.le_trans (Nat.mul_le_mul hw hh) (by decide)
theorem wh4 {w h : Nat} (hw : 2 ≤ w) (hh : 2 ≤ h) : 4 ≤ w * h := Nat.le_trans (by decide) (Nat.mul_le_mul hw hh)
