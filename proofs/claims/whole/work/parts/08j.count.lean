/-! rolls, count -/
section TIP2
variable {w h g n : Nat} {K M rw_ rs : Nat → Nat} {kinds marks nb : Nat → Int32} {rowW rowS : Nat → Int32} {top east south rolled kind mark rowWay rowSeen : Nat → Int32} {size on plen wide tall groups rowMany : Int32}
theorem snd_flip {q g2 : Nat} : snd w h K (g2 ^^^ tda K q) q = snd w h K g2 q := by
  by_cases e : q % 3 = 0 ∧ 3 ≤ K (q / 3) ∧ K (q / 3) < 6
  · have h1 : ∀ x, opn K x (q / 3) = (K (q / 3) != 1 && true) := fun x => by
      unfold opn
      rw [decide_eq_true e.2.2, Bool.true_or]
    unfold snd
    rw [h1, h1, if_pos e.1, if_pos e.1]
  · have h1 : tda K q = 0 := if_neg e
    rw [h1, Nat.xor_zero]
theorem snd_out {q g2 : Nat} (h3 : q % 3 ≠ 0) (hb : bes w h (q / 3) (q % 3 - 1) = none) : snd w h K g2 q = false := by
  unfold snd
  rw [if_neg h3, hb, Bool.and_false]
theorem m_blockRoll (hB : Bd w h g n K M rw_ rs) (hM : Rm w h g n K M rw_ rs wide tall groups rowMany top east south rolled kind mark rowWay rowSeen) {st d : Nat} (hs : st < 24 * (w * h)) (hd : d < 4) : f_X11_blockRoll (nI st) (nI d) wide tall kind = some (en9 (if snd w h K (st % 8) (st / 8) then bf w h K st d else none)) := by
  obtain ⟨b1, b2, b3, b4, b5, b6, b7, b8, b9, b10⟩ := id hB
  have w1 := wh25 b2 b4
  have hp : st / 8 < 3 * (w * h) := by omega
  have hg : st % 8 < 8 := Nat.mod_lt _ (by decide)
  obtain ⟨t1, t2⟩ := tip_f b1 b2 b3 b4 hp hd
  unfold f_X11_blockRoll
  simp only [dv8 (show st < 2 ^ 31 by omega), rq8 (show st < 2 ^ 31 by omega), m_isSound hB hM hg hp, Option.bind_some, bI_0]
  cases hsn : snd w h K (st % 8) (st / 8) with
  | false => rfl
  | true =>
    rw [if_neg (by decide), if_pos rfl]
    have hw : wide = nI w := hM.1
    have ht : tall = nI h := hM.2.1
    unfold bf
    cases htp : tip w h (st / 8) d with
    | none =>
      rcases t2 htp with e | ⟨q, e, hq, h3, hb⟩
      · rw [show f_X11_blockTo (nI (st / 8)) (nI d) wide tall = some (-9) by rw [hw, ht]; exact e]; rfl
      · rw [show f_X11_blockTo (nI (st / 8)) (nI d) wide tall = some (nI q) by rw [hw, ht]; exact e, Option.bind_some, if_neg (nI_m9 (by omega)), m_isSound hB hM hg hq, snd_out h3 hb]; rfl
    | some q =>
      obtain ⟨e, hq, -⟩ := t1 q htp
      have hc25 : q / 3 < 25 := by omega
      have h8 := b7 (q / 3)
      have hx := xor8 hg (tda_8 h8)
      have m7 := hM.2.2.2.2.2.2.1
      rw [show f_X11_blockTo (nI (st / 8)) (nI d) wide tall = some (nI q) by rw [hw, ht]; exact e, Option.bind_some, if_neg (nI_m9 (by omega)), m_isSound hB hM hg hq]
      unfold f_X11_blockRoll_j85 f_X11_blockRoll_j111
      have kin : f_X11_in (nI (K (q / 3))).toInt64 3 5 = some (bI (inr (nI (K (q / 3))) 3 5)) := m_inr (m := 3) (n := 5) rfl rfl
      simp only [Option.bind_some, bI_0, dv3 (show q < 2 ^ 31 by omega), rq3 (show q < 2 ^ 31 by omega), nI_0' (q % 3) (by omega), rdn hc25 (show 25 < 2 ^ 31 by decide), cln (show q / 3 < 2 ^ 31 by omega), m7 _ hc25, kin, m_isSound hB hM hg hq]
      cases hs2 : snd w h K (st % 8) q with
      | false => rfl
      | true =>
        rw [if_neg (by decide)]
        show _ = some (en9 (some (8 * q + (st % 8 ^^^ tda K q))))
        by_cases e0 : q % 3 = 0 ∧ 3 ≤ K (q / 3) ∧ K (q / 3) < 6
        · have et : tda K q = 2 ^ (K (q / 3) - 3) := if_pos e0
          rw [if_pos e0.1, inr_n (by omega) (by omega) (by decide), if_neg (by decide), if_neg (by decide), tda_k _ (by omega) e0.2.1 e0.2.2, ← et, xorI, m_isSound hB hM hx hq, snd_flip, hs2, Option.bind_some, if_neg (by decide), at8]; rfl
        · have et : tda K q = 0 := if_neg e0
          rw [et, Nat.xor_zero]
          by_cases e3 : q % 3 = 0
          · have hin : inr (nI (K (q / 3))) 3 5 = false := decide_eq_false (by rw [tl _ (by omega)]; omega)
            rw [if_pos e3, hin, if_pos rfl]
            simp [at8, en9]
          · rw [if_neg e3]
            simp [at8, en9]
end TIP2
theorem s_rolls (N : Nat) (hN : NB ≤ N) {size : Int32} {on : Int32} {kinds : Nat → Int32} {marks : Nat → Int32} {nb : Nat → Int32} {plen : Int32} {rowW : Nat → Int32} {rowS : Nat → Int32} {wide : Int32} {tall : Int32} {groups : Int32} {rowMany : Int32} {top : Nat → Int32} {east : Nat → Int32} {south : Nat → Int32} {rolled : Nat → Int32} {kind : Nat → Int32} {mark : Nat → Int32} {rowWay : Nat → Int32} {rowSeen : Nat → Int32} (hR : Rl size on kinds marks nb plen rowW rowS wide tall groups rowMany top east south rolled kind mark rowWay rowSeen) (y1 : Int32) (y2 : Int32) : ∃ (r : Int32), f_X10_rolls y1 y2 size on kinds nb = some r ∧ f_X11_rolls y1 y2 wide tall groups kind = some r ∧ Rl size on kinds marks nb plen rowW rowS wide tall groups rowMany top east south rolled kind mark rowWay rowSeen := by
  obtain ⟨w, h, g, n, K, M, rw_, rs, hB, hC, hM⟩ := id hR
  obtain ⟨b1, b2, b3, b4, b5, b6, b7, b8, b9, b10⟩ := id hB
  obtain ⟨rfl, rfl, c3, c4, c5, rfl, c7, c8⟩ := id hC
  obtain ⟨rfl, rfl, rfl, rfl, m5, m6, m7, m8, m9, m10⟩ := id hM
  have w1 := wh25 b2 b4
  have w2 := wh4 b1 b3
  have hNB : 1000000000000 ≤ N := hN
  unfold f_X10_rolls f_X11_rolls f_X1_placeAfter f_X1_isSoundNow f_X2_groupsOn f_X0_at f_X0_placeOf
  rw [p_isPlace y1 (by omega), m_isPlace y1 (by omega) (by omega), p_isWay, m_isWay]
  simp only [Option.bind_some, bI_0]
  cases hb : inb y1 (3 * (w * h)) with
  | false => exact ⟨-1, rfl, rfl, hR⟩
  | true =>
    obtain ⟨p, hp, rfl⟩ := inb_of hb (by omega)
    cases hb2 : inb y2 4 with
    | false => exact ⟨-2, rfl, rfl, hR⟩
    | true =>
      obtain ⟨d, hd, rfl⟩ := inb_of hb2 (by omega)
      have hst : 8 * p + g < 24 * (w * h) := by omega
      have e1 : (8 * p + g) / 8 = p := by omega
      have e2 : (8 * p + g) % 8 = g := by omega
      simp only [Bool.true_eq_false, if_false, at8, p_isSound hB hC b5 hp, p_bafter hB hC hst hd, m_blockRoll hB hM hst hd, Option.bind_some, nxb, bI_0, e1, e2]
      cases hs : snd w h K g p with
      | false => exact ⟨-9, rfl, rfl, hR⟩
      | true =>
        cases hq : bf w h K (8 * p + g) d with
        | none => exact ⟨-9, rfl, rfl, hR⟩
        | some q =>
          have hlt := bf_lt hB hst hd hq
          refine ⟨nI (q / 8), ?_, ?_, hR⟩
          · rw [if_neg (by decide), if_neg (show ¬ en (some q) = -1 from nI_m1 (by omega)), Option.bind_some]
            show some (nI q / 8) = _
            rw [dv8 (by omega)]
          · show (if en9 (some q) = -9 then some (-9) else some (nI q / 8)) = _
            rw [if_neg (show ¬ en9 (some q) = -9 from nI_m9 (by omega)), dv8 (by omega)]
