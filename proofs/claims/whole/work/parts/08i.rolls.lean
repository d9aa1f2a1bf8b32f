/-! the block's roll on both sides -/
theorem tip_f {w h p d : Nat} (w1 : 2 ≤ w) (w2 : w ≤ 5) (h1 : 2 ≤ h) (h2 : h ≤ 5) (hp : p < 3 * (w * h)) (hd : d < 4) : (∀ q, tip w h p d = some q → f_X11_blockTo (nI p) (nI d) (nI w) (nI h) = some (nI q) ∧ q < 3 * (w * h) ∧ (tip w h q ((d + 2) % 4) = some p ∨ (p % 3 ≠ 0 ∧ bes w h (p / 3) (p % 3 - 1) = none) ∨ (q % 3 ≠ 0 ∧ bes w h (q / 3) (q % 3 - 1) = none))) ∧ (tip w h p d = none → f_X11_blockTo (nI p) (nI d) (nI w) (nI h) = some (-9) ∨ ∃ q, f_X11_blockTo (nI p) (nI d) (nI w) (nI h) = some (nI q) ∧ q < 3 * (w * h) ∧ q % 3 ≠ 0 ∧ bes w h (q / 3) (q % 3 - 1) = none) := by
  have k := List.all_eq_true.mp tip_all w (List.mem_range.mpr (by omega))
  have k := List.all_eq_true.mp k h (List.mem_range.mpr (by omega))
  have w3 := wh25 w2 h2
  simp only [Bool.or_eq_true, decide_eq_true_eq] at k
  rcases k with (k | k) | k
  · omega
  · omega
  · have k := List.all_eq_true.mp k p (List.mem_range.mpr (by omega))
    simp only [Bool.or_eq_true, decide_eq_true_eq] at k
    rcases k with k | k
    · omega
    · have k := List.all_eq_true.mp k d (List.mem_range.mpr hd)
      cases ht : tip w h p d with
      | some q =>
        rw [ht] at k
        simp only [Bool.and_eq_true, decide_eq_true_eq] at k
        exact ⟨fun q2 e => by cases e; exact ⟨k.1.1, k.1.2, k.2⟩, fun e => (by cases e)⟩
      | none =>
        rw [ht] at k
        refine ⟨fun q e => (by cases e), fun _ => ?_⟩
        simp only [Bool.or_eq_true, decide_eq_true_eq, List.any_eq_true, Bool.and_eq_true, List.mem_range, Option.isNone_iff_eq_none] at k
        rcases k with k | ⟨q, -, k⟩
        · exact Or.inl k
        · exact Or.inr ⟨q, k.1.1.1, k.1.1.2, k.1.2, k.2⟩
theorem al2 : ∀ d, d < 4 → (nI d - nI d / 2 * 2) + 1 = nI (d % 2 + 1) := by decide +kernel
section TIP
variable {w h g n : Nat} {K M rw_ rs : Nat → Nat} {kinds marks nb : Nat → Int32} {rowW rowS : Nat → Int32} {top east south rolled kind mark rowWay rowSeen : Nat → Int32} {size on plen wide tall groups rowMany : Int32}
theorem p_besO (hB : Bd w h g n K M rw_ rs) (hC : Rc w h g n K M rw_ rs size on kinds marks nb plen rowW rowS) {o : Option Nat} {d : Nat} (ho : ∀ c, o = some c → c < w * h) (hd : d < 4) : f_X2_beside (en o) (nI d) size nb = some (en (o.bind fun c => bes w h c d)) := by
  cases o with
  | none => obtain ⟨rfl, rfl, c3, c4, c5, rfl, c7, c8⟩ := hC; rfl
  | some c => exact p_bes hB hC (ho c rfl) hd
theorem p_lying {o : Option Nat} {l : Nat} (ho : ∀ c, o = some c → c < 2 ^ 31) : f_X0_lyingFrom (en o) (nI l) = some (en (o.map fun c => 3 * c + l)) := by
  unfold f_X0_lyingFrom
  cases o with
  | none => rfl
  | some c => rw [if_neg (show ¬ en (some c) = -1 from nI_m1 (ho c rfl)), show en (some c) = nI c from rfl, at3]; rfl
theorem p_tipped (hB : Bd w h g n K M rw_ rs) (hC : Rc w h g n K M rw_ rs size on kinds marks nb plen rowW rowS) {p d : Nat} (hp : p < 3 * (w * h)) (hd : d < 4) : f_X0_tipped_22 (nI p) (nI d) size nb = some (en (tip w h p d)) := by
  obtain ⟨b1, b2, b3, b4, b5, b6, b7, b8, b9, b10⟩ := id hB
  have w1 := wh25 b2 b4
  have hc : p / 3 < w * h := by omega
  have h3 : p % 3 < 3 := Nat.mod_lt _ (by decide)
  unfold f_X0_tipped_22 f_X0_tipped_22_j26 f_X0_tipped_22_j78 f_X0_tipped_22_j124
  simp only [dv3 (show p < 2 ^ 31 by omega), rq3 (show p < 2 ^ 31 by omega), al2 d hd, nI_0' (p % 3) (by omega), p_bes hB hC hc hd, Option.bind_some, show ((1 : Int32) = 0) = False from eq_false (by decide), if_true, if_false]
  have eal : (nI (p % 3) = nI (d % 2 + 1)) = (p % 3 = d % 2 + 1) := propext (nI_eq (by omega) (by omega))
  simp only [eal]
  have hbl : ∀ c, bes w h (p / 3) d = some c → c < w * h := fun c e => bes_lt b1 b2 b3 b4 hc hd e
  have hbl2 : ∀ c, ((bes w h (p / 3) d).bind fun c => bes w h c d) = some c → c < w * h := fun c e => by
    cases hb : bes w h (p / 3) d with
    | none => rw [hb] at e; cases e
    | some a => rw [hb] at e; exact bes_lt b1 b2 b3 b4 (hbl a hb) hd e
  rw [p_besO hB hC hbl hd]
  simp only [Option.bind_some]
  unfold tip
  have h2 : (2 ≤ nI d) ↔ ¬ d < 2 := by rw [li 2, nI_leI (by decide) (by omega)]; omega
  by_cases e0 : p % 3 = 0
  · simp only [if_pos e0]
    cases hb : bes w h (p / 3) d with
    | none => by_cases e2 : 2 ≤ nI d <;> simp [e2, en]
    | some a =>
      rw [show ((some a).bind fun c => bes w h c d) = bes w h a d from rfl]
      show _ = some (en (match bes w h a d with | none => none | some b => some (3 * (if d < 2 then a else b) + (d % 2 + 1))))
      cases hb2 : bes w h a d with
      | none => by_cases e2 : 2 ≤ nI d <;> simp [e2, en]
      | some b =>
        have ha := hbl a hb
        have hb3 : b < w * h := bes_lt b1 b2 b3 b4 ha hd hb2
        have hb1 : ¬ en (some b) = -1 := nI_m1 (by omega)
        show _ = some (en (some (3 * (if d < 2 then a else b) + (d % 2 + 1))))
        simp only [if_neg hb1, p_lying (o := some b) (l := d % 2 + 1) (fun c e => by cases e; omega), p_lying (o := some a) (l := d % 2 + 1) (fun c e => by cases e; omega), Option.bind_some]
        by_cases e2 : d < 2
        · rw [if_neg (fun z => h2.mp z e2), if_pos e2]; rfl
        · rw [if_pos (h2.mpr e2), if_neg e2]; rfl
  · simp only [if_neg e0]
    by_cases e1 : p % 3 = d % 2 + 1
    · simp only [if_pos e1]
      by_cases e2 : d < 2
      · rw [if_neg (fun z => h2.mp z e2), if_pos e2, show (0 : Int32) = nI 0 from rfl, p_lying (fun c e => by have := hbl2 c e; omega)]
        cases hb : bes w h (p / 3) d with
        | none => rfl
        | some a =>
          rw [show ((some a).bind fun c => bes w h c d) = bes w h a d from rfl]
          show _ = some (en (match bes w h a d with | none => none | some b => some (3 * b)))
          cases bes w h a d <;> rfl
      · rw [if_pos (h2.mpr e2), if_neg e2, show (0 : Int32) = nI 0 from rfl, p_lying (fun c e => by have := hbl c e; omega)]
        simp only [Option.bind_some]
        cases bes w h (p / 3) d <;> rfl
    · simp only [if_neg e1]
      rw [p_lying (fun c e => by have := hbl c e; omega)]
      by_cases e2 : 2 ≤ nI d
      · rw [if_pos e2]
        cases bes w h (p / 3) d <;> rfl
      · rw [if_neg e2]
        cases bes w h (p / 3) d <;> rfl
def tda (K : Nat → Nat) (p : Nat) : Nat := if p % 3 = 0 ∧ 3 ≤ K (p / 3) ∧ K (p / 3) < 6 then 2 ^ (K (p / 3) - 3) else 0
theorem tda_k : ∀ k, k < 9 → 3 ≤ k → k < 6 → (1 : Int32) <<< ((nI k - 3) &&& 31) = nI (2 ^ (k - 3)) := by decide +kernel
theorem tda_8 {K : Nat → Nat} {p : Nat} (h : K (p / 3) ≤ 8) : tda K p < 8 := by
  unfold tda
  split
  · rename_i z
    rcases (show K (p / 3) = 3 ∨ K (p / 3) = 4 ∨ K (p / 3) = 5 by omega) with e | e | e <;> rw [e] <;> decide
  · decide
theorem p_turnedAt (hB : Bd w h g n K M rw_ rs) (hC : Rc w h g n K M rw_ rs size on kinds marks nb plen rowW rowS) {p : Nat} (hp : p < 3 * (w * h)) : f_X0_turnedAt_22 (nI p) size kinds = some (nI (tda K p)) := by
  obtain ⟨b1, b2, b3, b4, b5, b6, b7, b8, b9, b10⟩ := id hB
  obtain ⟨rfl, rfl, c3, c4, c5, rfl, c7, c8⟩ := hC
  have w1 := wh25 b2 b4
  have hc : p / 3 < w * h := by omega
  have h8 := b7 (p / 3)
  unfold f_X0_turnedAt_22 f_X0_turnedAt_22_j33
  simp only [dv3 (show p < 2 ^ 31 by omega), rq3 (show p < 2 ^ 31 by omega), p_kindOf hc w1, Option.bind_some, c3 (p / 3) (by omega), nI_0' (p % 3) (by omega)]
  unfold tda
  by_cases e0 : p % 3 = 0
  · rw [if_pos e0]
    by_cases e3 : K (p / 3) < 3
    · rw [if_pos (show nI (K (p / 3)) < 3 from nI_lt e3 (by decide)), if_pos trivial, if_neg (show ¬ (p % 3 = 0 ∧ 3 ≤ K (p / 3) ∧ K (p / 3) < 6) by omega)]; rfl
    · rw [if_neg (show ¬ nI (K (p / 3)) < 3 from nI_nlt (a := K (p / 3)) (b := 3) (by omega) (by omega))]
      by_cases e6 : 6 ≤ K (p / 3)
      · rw [if_pos (show 6 ≤ nI (K (p / 3)) from nI_le (a := 6) e6 (by omega)), if_pos trivial, if_neg (show ¬ (p % 3 = 0 ∧ 3 ≤ K (p / 3) ∧ K (p / 3) < 6) by omega)]; rfl
      · rw [if_neg (show ¬ 6 ≤ nI (K (p / 3)) from nI_ge (a := K (p / 3)) (b := 6) (by omega) (by decide)), if_neg (show ¬ (1 : Int32) = 0 by decide), if_pos (show p % 3 = 0 ∧ 3 ≤ K (p / 3) ∧ K (p / 3) < 6 from ⟨e0, by omega, by omega⟩), tda_k _ (by omega) (by omega) (by omega)]
  · rw [if_neg e0, if_pos trivial, if_neg (show ¬ (p % 3 = 0 ∧ 3 ≤ K (p / 3) ∧ K (p / 3) < 6) from fun z => e0 z.1)]; rfl
/-- rolls of the block: a state is 8 times a place, and groups -/
def bf (w h : Nat) (K : Nat → Nat) (st d : Nat) : Option Nat := match tip w h (st / 8) d with
  | none => none
  | some q => if snd w h K (st % 8) q then some (8 * q + ((st % 8) ^^^ tda K q)) else none
theorem xor8 {a b : Nat} (ha : a < 8) (hb : b < 8) : a ^^^ b < 8 := Nat.xor_lt_two_pow (n := 3) ha hb
theorem xorI (a b : Nat) : nI a ^^^ nI b = nI (a ^^^ b) := by
  apply Int32.toBitVec_inj.mp
  show (BitVec.ofNat 32 a) ^^^ (BitVec.ofNat 32 b) = BitVec.ofNat 32 (a ^^^ b)
  apply BitVec.eq_of_toNat_eq
  simp [Nat.xor_mod_two_pow]
theorem bf_lt (hB : Bd w h g n K M rw_ rs) {st d q : Nat} (hs : st < 24 * (w * h)) (hd : d < 4) (e : bf w h K st d = some q) : q < 24 * (w * h) := by
  obtain ⟨b1, b2, b3, b4, b5, b6, b7, b8, b9, b10⟩ := hB
  unfold bf at e
  cases ht : tip w h (st / 8) d with
  | none => rw [ht] at e; cases e
  | some p =>
    rw [ht] at e
    have h1 := ((tip_f b1 b2 b3 b4 (show st / 8 < 3 * (w * h) by omega) hd).1 p ht).2.1
    have h2 := xor8 (show st % 8 < 8 from Nat.mod_lt _ (by decide)) (tda_8 (b7 (p / 3)))
    simp only at e
    split at e
    · cases e; omega
    · cases e
theorem p_bafter (hB : Bd w h g n K M rw_ rs) (hC : Rc w h g n K M rw_ rs size on kinds marks nb plen rowW rowS) {st d : Nat} (hs : st < 24 * (w * h)) (hd : d < 4) : f_X0_after_22 (nI st) (nI d) size kinds nb = some (en (bf w h K st d)) := by
  obtain ⟨b1, b2, b3, b4, b5, b6, b7, b8, b9, b10⟩ := id hB
  have w1 := wh25 b2 b4
  have hp : st / 8 < 3 * (w * h) := by omega
  have hg : st % 8 < 8 := Nat.mod_lt _ (by decide)
  unfold f_X0_after_22 f_X0_placeOf f_X0_groupsOf f_X0_at
  simp only [Option.bind_some, dv8 (show st < 2 ^ 31 by omega), rq8 (show st < 2 ^ 31 by omega), p_tipped hB hC hp hd, if_true]
  unfold bf
  cases ht : tip w h (st / 8) d with
  | none => obtain ⟨rfl, rfl, c3, c4, c5, rfl, c7, c8⟩ := hC; rfl
  | some q =>
    have hq := ((tip_f b1 b2 b3 b4 hp hd).1 q ht).2.1
    rw [show en (some q) = nI q from rfl, p_isSound hB hC hg hq, p_turnedAt hB hC hq]
    simp only [Option.bind_some, bI_0, xorI, at8]
    cases snd w h K (st % 8) q <;> rfl
end TIP
