/-! the block's roll -/
def tip (w h p d : Nat) : Option Nat :=
  if p % 3 = 0 then (match bes w h (p / 3) d with
    | none => none
    | some a => match bes w h a d with
      | none => none
      | some b => some (3 * (if d < 2 then a else b) + (d % 2 + 1)))
  else if p % 3 = d % 2 + 1 then (match (if d < 2 then bes w h (p / 3) d else some (p / 3)) with
    | none => none
    | some a => match bes w h a d with
      | none => none
      | some b => some (3 * b))
  else (match bes w h (p / 3) d with
    | none => none
    | some a => some (3 * a + p % 3))
theorem tip_all : (List.range 6).all (fun w => (List.range 6).all fun h => decide (w < 2) || decide (h < 2) || (List.range 75).all fun p => decide (3 * (w * h) ≤ p) || (List.range 4).all fun d => match tip w h p d with
    | some q => decide (f_X11_blockTo (nI p) (nI d) (nI w) (nI h) = some (nI q)) && decide (q < 3 * (w * h)) && decide (tip w h q ((d + 2) % 4) = some p ∨ (p % 3 ≠ 0 ∧ bes w h (p / 3) (p % 3 - 1) = none) ∨ (q % 3 ≠ 0 ∧ bes w h (q / 3) (q % 3 - 1) = none))
    | none => decide (f_X11_blockTo (nI p) (nI d) (nI w) (nI h) = some (-9)) || (List.range 75).any (fun q => decide (f_X11_blockTo (nI p) (nI d) (nI w) (nI h) = some (nI q)) && decide (q < 3 * (w * h)) && decide (q % 3 ≠ 0) && (bes w h (q / 3) (q % 3 - 1)).isNone)) = true := by decide +kernel
