/-! what a state IS: a board of w by h cells with kinds K, marks M and groups g on, a row of n rolls rw with prints rs -/
def en (o : Option Nat) : Int32 := match o with
  | none => -1
  | some x => nI x
def en9 (o : Option Nat) : Int32 := match o with
  | none => -9
  | some x => nI x
def bes (w h c d : Nat) : Option Nat := if d = 0 then (if c % w + 1 < w then some (c + 1) else none) else if d = 1 then (if c / w + 1 < h then some (c + w) else none) else if d = 2 then (if 0 < c % w then some (c - 1) else none) else (if 0 < c / w then some (c - w) else none)
def tp (s : Nat) : Nat := s / 4 + 1
def eaL : List Nat := [2, 3, 4, 5, 1, 3, 4, 6, 1, 2, 5, 6, 1, 2, 5, 6, 1, 3, 4, 6, 2, 3, 4, 5]
def soL : List Nat := [4, 2, 5, 3, 3, 6, 1, 4, 5, 1, 6, 2, 2, 6, 1, 5, 4, 1, 6, 3, 3, 5, 2, 4]
def ea (s : Nat) : Nat := eaL.getD s 0
def so (s : Nat) : Nat := soL.getD s 0
def nmb (t e : Nat) : Nat := 4 * (t - 1) + (e - 1 - (if t < e then 1 else 0) - (if 7 - t < e then 1 else 0))
def tu (s d : Nat) : Nat := if d = 0 then nmb (7 - ea s) (tp s) else if d = 1 then nmb (7 - so s) (ea s) else if d = 2 then nmb (ea s) (7 - tp s) else nmb (so s) (ea s)
/-- the bounds -/
def Bd (w h g n : Nat) (K M rw rs : Nat → Nat) : Prop := 2 ≤ w ∧ w ≤ 5 ∧ 2 ≤ h ∧ h ≤ 5 ∧ g < 8 ∧ n ≤ 20 ∧ (∀ c, K c ≤ 8) ∧ (∀ c, M c ≤ 6) ∧ (∀ i, rw i < 4) ∧ (∀ i, rs i ≤ 6)
/-- the class's cells hold it -/
def Rc (w h g n : Nat) (K M rw rs : Nat → Nat) (size on : Int32) (kinds marks nb : Nat → Int32) (plen : Int32) (rowW rowS : Nat → Int32) : Prop :=
  size = nI (w * h) ∧ on = nI g ∧ (∀ c, c < 25 → kinds c = nI (K c)) ∧ (∀ c, c < 25 → marks c = nI (M c)) ∧ (∀ c, c < w * h → ∀ d, d < 4 → nb (4 * c + d) = en (bes w h c d)) ∧ plen = nI n ∧ (∀ i, i < n → rowW i = nI (rw i)) ∧ (∀ i, i < n → rowS i = nI (rs i))
/-- the reference's cells hold it -/
def Rm (w h g n : Nat) (K M rw rs : Nat → Nat) (wide tall groups rowMany : Int32) (top east south rolled kind mark rowWay rowSeen : Nat → Int32) : Prop :=
  wide = nI w ∧ tall = nI h ∧ groups = nI g ∧ rowMany = nI n ∧ (∀ s, s < 24 → top s = nI (tp s) ∧ east s = nI (ea s) ∧ south s = nI (so s)) ∧ (∀ s, s < 24 → ∀ d, d < 4 → rolled (4 * s + d) = nI (tu s d)) ∧ (∀ c, c < 25 → kind c = nI (K c)) ∧ (∀ c, c < 25 → mark c = nI (M c)) ∧ (∀ i, i < n → rowWay i = nI (rw i)) ∧ (∀ i, i < n → rowSeen i = nI (rs i))
def Rl (size on : Int32) (kinds marks nb : Nat → Int32) (plen : Int32) (rowW rowS : Nat → Int32) (wide tall groups rowMany : Int32) (top east south rolled kind mark rowWay rowSeen : Nat → Int32) : Prop :=
  ∃ (w h g n : Nat) (K M rw rs : Nat → Nat), Bd w h g n K M rw rs ∧ Rc w h g n K M rw rs size on kinds marks nb plen rowW rowS ∧ Rm w h g n K M rw rs wide tall groups rowMany top east south rolled kind mark rowWay rowSeen
/-- fuel enough for every loop -/
abbrev NB : Nat := 1000000000000
