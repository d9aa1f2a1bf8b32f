/-! the steps that need no search: open, group, face, turn, stance, row, clear -/
theorem s_open (N : Nat) (hN : NB ≤ N) {size : Int32} {on : Int32} {kinds : Nat → Int32} {marks : Nat → Int32} {nb : Nat → Int32} {plen : Int32} {rowW : Nat → Int32} {rowS : Nat → Int32} {wide : Int32} {tall : Int32} {groups : Int32} {rowMany : Int32} {top : Nat → Int32} {east : Nat → Int32} {south : Nat → Int32} {rolled : Nat → Int32} {kind : Nat → Int32} {mark : Nat → Int32} {rowWay : Nat → Int32} {rowSeen : Nat → Int32} (hR : Rl size on kinds marks nb plen rowW rowS wide tall groups rowMany top east south rolled kind mark rowWay rowSeen) (y1 : Int32) : ∃ (r : Int32), f_X10_open y1 size on kinds = some r ∧ f_X11_open y1 wide tall groups kind = some r ∧ Rl size on kinds marks nb plen rowW rowS wide tall groups rowMany top east south rolled kind mark rowWay rowSeen := by
  obtain ⟨w, h, g, n, K, M, rw_, rs, hB, hC, hM⟩ := id hR
  obtain ⟨b1, b2, b3, b4, b5, b6, b7, b8, b9, b10⟩ := id hB
  obtain ⟨rfl, rfl, c3, c4, c5, rfl, c7, c8⟩ := id hC
  obtain ⟨rfl, rfl, rfl, rfl, m5, m6, m7, m8, m9, m10⟩ := id hM
  have w1 := wh25 b2 b4
  have w2 := wh4 b1 b3
  have hNB : 1000000000000 ≤ N := hN
  unfold f_X10_open f_X11_open
  rw [p_has y1 (by omega), m_isCell y1 (by omega) (by omega)]
  simp only [Option.bind_some, bI_0]
  cases hb : inb y1 (w * h) with
  | false => exact ⟨-1, rfl, rfl, hR⟩
  | true =>
    obtain ⟨c, hc, rfl⟩ := inb_of hb (by omega)
    simp only [Bool.true_eq_false, if_false]
    unfold f_X2_groupsOn
    rw [Option.bind_some, p_isOpen (K := K) (c3 c (by omega)) (b7 c) b5 hc w1, m_isOpen (K := K) (m7 c (by omega)) (b7 c) b5 (by omega)]
    simp only [Option.bind_some, p_oneIf, bI_0]
    refine ⟨_, rfl, ?_, hR⟩
    cases opn K g c <;> rfl
theorem gr_k : ∀ g, g < 8 → ∀ j, j < 3 → ∃ g2, g2 < 8 ∧ ∃ g3, g3 < 8 ∧ (nI g &&& ((1 <<< (nI j &&& 31)) ^^^ (-1))) = nI g2 ∧ (nI g ||| (1 <<< (nI j &&& 31))) = nI g3 := by decide +kernel
theorem Rl_g {w h g g2 n : Nat} {K M rw_ rs : Nat → Nat} {size on : Int32} {kinds marks nb : Nat → Int32} {plen : Int32} {rowW rowS : Nat → Int32} {wide tall groups rowMany : Int32} {top east south rolled kind mark rowWay rowSeen : Nat → Int32} (hB : Bd w h g n K M rw_ rs) (hC : Rc w h g n K M rw_ rs size on kinds marks nb plen rowW rowS) (hM : Rm w h g n K M rw_ rs wide tall groups rowMany top east south rolled kind mark rowWay rowSeen) (h2 : g2 < 8) : Rl size (nI g2) kinds marks nb plen rowW rowS wide tall (nI g2) rowMany top east south rolled kind mark rowWay rowSeen := by
  obtain ⟨b1, b2, b3, b4, b5, b6⟩ := hB
  obtain ⟨c1, c2, c3⟩ := hC
  obtain ⟨m1, m2, m3, m4⟩ := hM
  exact ⟨w, h, g2, n, K, M, rw_, rs, ⟨b1, b2, b3, b4, h2, b6⟩, ⟨c1, rfl, c3⟩, ⟨m1, m2, rfl, m4⟩⟩
theorem p_lt3 (x : Int32) : inb x 3 = true ∨ (inb x 3 = false ∧ (x < 0 ∨ ¬ x < 3)) := by
  by_cases h : 0 ≤ x.toInt ∧ x.toInt < (3 : Nat)
  · exact Or.inl (decide_eq_true h)
  · refine Or.inr ⟨decide_eq_false h, ?_⟩
    simp only [Int32.lt_iff_toInt_lt]
    have e0 : (0 : Int32).toInt = 0 := rfl
    have e3 : (3 : Int32).toInt = 3 := rfl
    rw [e0, e3]
    omega
theorem s_group (N : Nat) (hN : NB ≤ N) {size : Int32} {on : Int32} {kinds : Nat → Int32} {marks : Nat → Int32} {nb : Nat → Int32} {plen : Int32} {rowW : Nat → Int32} {rowS : Nat → Int32} {wide : Int32} {tall : Int32} {groups : Int32} {rowMany : Int32} {top : Nat → Int32} {east : Nat → Int32} {south : Nat → Int32} {rolled : Nat → Int32} {kind : Nat → Int32} {mark : Nat → Int32} {rowWay : Nat → Int32} {rowSeen : Nat → Int32} (hR : Rl size on kinds marks nb plen rowW rowS wide tall groups rowMany top east south rolled kind mark rowWay rowSeen) (y1 : Int32) (y2 : Int32) (hz2 : y2 = 0 ∨ y2 = 1) : ∃ (r : Int32) (oc : Int32) (om : Int32), f_X10_group y1 y2 on = some (r, oc) ∧ f_X11_group y1 y2 groups = some (r, om) ∧ Rl size oc kinds marks nb plen rowW rowS wide tall om rowMany top east south rolled kind mark rowWay rowSeen := by
  obtain ⟨w, h, g, n, K, M, rw_, rs, hB, hC, hM⟩ := id hR
  obtain ⟨b1, b2, b3, b4, b5, b6, b7, b8, b9, b10⟩ := id hB
  obtain ⟨rfl, rfl, c3, c4, c5, rfl, c7, c8⟩ := id hC
  obtain ⟨rfl, rfl, rfl, rfl, m5, m6, m7, m8, m9, m10⟩ := id hM
  have w1 := wh25 b2 b4
  have w2 := wh4 b1 b3
  have hNB : 1000000000000 ≤ N := hN
  unfold f_X10_group f_X11_group
  rw [m_inr (m := 0) (n := 2) rfl rfl, inr0 y1 (n := 3) (by decide)]
  simp only [Option.bind_some, bI_0]
  rcases p_lt3 y1 with hb | ⟨hb, hz⟩
  · obtain ⟨j, hj, rfl⟩ := inb_of hb (by decide)
    obtain ⟨g2, hg2, g3, hg3, e2, e3⟩ := gr_k g b5 j hj
    rw [if_neg (nI_pos (by omega)), if_pos (show nI j < 3 from nI_lt hj (by decide)), hb, if_neg (by decide)]
    unfold f_X2_changeGroup f_X2_changeGroup_j35 f_X11_group_j49
    rcases hz2 with rfl | rfl
    · rw [if_pos rfl, e2]
      exact ⟨_, _, _, rfl, rfl, Rl_g hB hC hM hg2⟩
    · rw [if_neg (by decide), e3]
      exact ⟨_, _, _, rfl, rfl, Rl_g hB hC hM hg3⟩
  · rw [hb, if_pos rfl]
    rcases hz with hz | hz
    · rw [if_pos hz]
      exact ⟨-1, _, _, rfl, rfl, hR⟩
    · rw [if_neg hz]
      by_cases h0 : y1 < 0
      · rw [if_pos h0]; exact ⟨-1, _, _, rfl, rfl, hR⟩
      · rw [if_neg h0]; exact ⟨-1, _, _, rfl, rfl, hR⟩
theorem tp_n : ∀ s, s < 24 → nI s / 4 + 1 = nI (tp s) := by decide +kernel
theorem ea_n : ∀ s, s < 24 → nx_east s = nI (ea s) ∧ nx_south s = nI (so s) := by decide +kernel
theorem p_topOf {s : Nat} (h : s < 24) : f_X3_topOf (nI s) = some (nI (tp s)) := by unfold f_X3_topOf; rw [tp_n s h]
theorem p_eastOf {s : Nat} (h : s < 24) : f_X3_eastOf (nI s) = some (nI (ea s)) := by
  unfold f_X3_eastOf
  rw [p_isStance, inb_n h (by decide), Option.bind_some, if_neg (by decide), rdn h (by decide), Option.bind_some, cln (by omega), (ea_n s h).1]
theorem p_southOf {s : Nat} (h : s < 24) : f_X3_southOf (nI s) = some (nI (so s)) := by
  unfold f_X3_southOf
  rw [p_isStance, inb_n h (by decide), Option.bind_some, if_neg (by decide), rdn h (by decide), Option.bind_some, cln (by omega), (ea_n s h).2]
theorem s_face (N : Nat) (hN : NB ≤ N) {size : Int32} {on : Int32} {kinds : Nat → Int32} {marks : Nat → Int32} {nb : Nat → Int32} {plen : Int32} {rowW : Nat → Int32} {rowS : Nat → Int32} {wide : Int32} {tall : Int32} {groups : Int32} {rowMany : Int32} {top : Nat → Int32} {east : Nat → Int32} {south : Nat → Int32} {rolled : Nat → Int32} {kind : Nat → Int32} {mark : Nat → Int32} {rowWay : Nat → Int32} {rowSeen : Nat → Int32} (hR : Rl size on kinds marks nb plen rowW rowS wide tall groups rowMany top east south rolled kind mark rowWay rowSeen) (y1 : Int32) (y2 : Int32) : ∃ (r : Int32), f_X10_face y1 y2 = some r ∧ f_X11_face y1 y2 top east south = some r ∧ Rl size on kinds marks nb plen rowW rowS wide tall groups rowMany top east south rolled kind mark rowWay rowSeen := by
  obtain ⟨w, h, g, n, K, M, rw_, rs, hB, hC, hM⟩ := id hR
  obtain ⟨b1, b2, b3, b4, b5, b6, b7, b8, b9, b10⟩ := id hB
  obtain ⟨rfl, rfl, c3, c4, c5, rfl, c7, c8⟩ := id hC
  obtain ⟨rfl, rfl, rfl, rfl, m5, m6, m7, m8, m9, m10⟩ := id hM
  have w1 := wh25 b2 b4
  have w2 := wh4 b1 b3
  have hNB : 1000000000000 ≤ N := hN
  unfold f_X10_face f_X11_face
  rw [p_isStance, m_isStance]
  simp only [Option.bind_some, bI_0]
  cases hb : inb y1 24 with
  | false => exact ⟨-1, rfl, rfl, hR⟩
  | true =>
    obtain ⟨s, hs, rfl⟩ := inb_of hb (by omega)
    obtain ⟨e1, e2, e3⟩ := m5 s hs
    simp only [Bool.true_eq_false, if_false, p_topOf hs, p_eastOf hs, p_southOf hs, rdn hs (show 24 < 2 ^ 31 by decide), cln (show s < 2 ^ 31 by omega), Option.bind_some, e1, e2, e3]
    by_cases h0 : y2 = 0
    · simp only [if_pos h0]; exact ⟨_, rfl, rfl, hR⟩
    · by_cases h1 : y2 = 1
      · simp only [if_neg h0, if_pos h1]; exact ⟨_, rfl, rfl, hR⟩
      · by_cases h2 : y2 = 2
        · simp only [if_neg h0, if_neg h1, if_pos h2]; exact ⟨_, rfl, rfl, hR⟩
        · simp only [if_neg h0, if_neg h1, if_neg h2]; exact ⟨_, rfl, rfl, hR⟩
theorem tu_k : ∀ s, s < 24 → ∀ d, d < 4 → f_X3_turned (nI s) (nI d) = some (nI (tu s d)) ∧ tu s d < 24 := by decide +kernel
theorem p_turned {s d : Nat} (hs : s < 24) (hd : d < 4) : f_X3_turned (nI s) (nI d) = some (nI (tu s d)) := (tu_k s hs d hd).1
theorem tu_lt {s d : Nat} (hs : s < 24) (hd : d < 4) : tu s d < 24 := (tu_k s hs d hd).2
theorem fs4 (s d : Nat) : 4 * nI s + nI d = nI (4 * s + d) := by rw [li 4, pk_mul, nI_add]
theorem s_turn (N : Nat) (hN : NB ≤ N) {size : Int32} {on : Int32} {kinds : Nat → Int32} {marks : Nat → Int32} {nb : Nat → Int32} {plen : Int32} {rowW : Nat → Int32} {rowS : Nat → Int32} {wide : Int32} {tall : Int32} {groups : Int32} {rowMany : Int32} {top : Nat → Int32} {east : Nat → Int32} {south : Nat → Int32} {rolled : Nat → Int32} {kind : Nat → Int32} {mark : Nat → Int32} {rowWay : Nat → Int32} {rowSeen : Nat → Int32} (hR : Rl size on kinds marks nb plen rowW rowS wide tall groups rowMany top east south rolled kind mark rowWay rowSeen) (y1 : Int32) (y2 : Int32) : ∃ (r : Int32), f_X10_turn y1 y2 = some r ∧ f_X11_turn y1 y2 rolled = some r ∧ Rl size on kinds marks nb plen rowW rowS wide tall groups rowMany top east south rolled kind mark rowWay rowSeen := by
  obtain ⟨w, h, g, n, K, M, rw_, rs, hB, hC, hM⟩ := id hR
  obtain ⟨b1, b2, b3, b4, b5, b6, b7, b8, b9, b10⟩ := id hB
  obtain ⟨rfl, rfl, c3, c4, c5, rfl, c7, c8⟩ := id hC
  obtain ⟨rfl, rfl, rfl, rfl, m5, m6, m7, m8, m9, m10⟩ := id hM
  have w1 := wh25 b2 b4
  have w2 := wh4 b1 b3
  have hNB : 1000000000000 ≤ N := hN
  unfold f_X10_turn f_X11_turn
  rw [p_isStance, m_isStance, p_isWay, m_isWay]
  simp only [Option.bind_some, bI_0]
  cases hb : inb y1 24 with
  | false => exact ⟨-1, rfl, rfl, hR⟩
  | true =>
    obtain ⟨s, hs, rfl⟩ := inb_of hb (by omega)
    cases hb2 : inb y2 4 with
    | false => exact ⟨-2, rfl, rfl, hR⟩
    | true =>
      obtain ⟨d, hd, rfl⟩ := inb_of hb2 (by omega)
      simp only [Bool.true_eq_false, if_false, p_turned hs hd, fs4, rdn (show 4 * s + d < 96 by omega) (show 96 < 2 ^ 31 by decide), cln (show 4 * s + d < 2 ^ 31 by omega), Option.bind_some, m6 s hs d hd]
      exact ⟨_, rfl, rfl, hR⟩
theorem s_clear (N : Nat) (hN : NB ≤ N) {size : Int32} {on : Int32} {kinds : Nat → Int32} {marks : Nat → Int32} {nb : Nat → Int32} {plen : Int32} {rowW : Nat → Int32} {rowS : Nat → Int32} {wide : Int32} {tall : Int32} {groups : Int32} {rowMany : Int32} {top : Nat → Int32} {east : Nat → Int32} {south : Nat → Int32} {rolled : Nat → Int32} {kind : Nat → Int32} {mark : Nat → Int32} {rowWay : Nat → Int32} {rowSeen : Nat → Int32} (hR : Rl size on kinds marks nb plen rowW rowS wide tall groups rowMany top east south rolled kind mark rowWay rowSeen) : ∃ (r : Int32) (oc : Int32) (om : Int32), f_X10_clear plen = some (r, oc) ∧ f_X11_clear rowMany = some (r, om) ∧ Rl size on kinds marks nb oc rowW rowS wide tall groups om top east south rolled kind mark rowWay rowSeen := by
  obtain ⟨w, h, g, n, K, M, rw_, rs, hB, hC, hM⟩ := id hR
  obtain ⟨b1, b2, b3, b4, b5, b6, b7, b8, b9, b10⟩ := id hB
  obtain ⟨rfl, rfl, c3, c4, c5, rfl, c7, c8⟩ := id hC
  obtain ⟨rfl, rfl, rfl, rfl, m5, m6, m7, m8, m9, m10⟩ := id hM
  have w1 := wh25 b2 b4
  have w2 := wh4 b1 b3
  have hNB : 1000000000000 ≤ N := hN
  refine ⟨nI n, 0, 0, rfl, rfl, ?_⟩
  exact ⟨w, h, g, 0, K, M, rw_, rs, ⟨b1, b2, b3, b4, b5, Nat.zero_le _, b7, b8, b9, b10⟩, ⟨rfl, rfl, c3, c4, c5, rfl, fun i hi => absurd hi (Nat.not_lt_zero i), fun i hi => absurd hi (Nat.not_lt_zero i)⟩, ⟨rfl, rfl, rfl, rfl, m5, m6, m7, m8, fun i hi => absurd hi (Nat.not_lt_zero i), fun i hi => absurd hi (Nat.not_lt_zero i)⟩⟩
