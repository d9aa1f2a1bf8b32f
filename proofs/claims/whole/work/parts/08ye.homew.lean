/-! homeWay, homeGroups -/
section HW
variable {wide tall : Int32} {kind : Nat → Int32} {A : Nat → Nat → Option Nat} {T : Nat} {G : Nat → Bool} {V : Nat → Nat} {onward : Nat → Int32}
theorem m_homeStep {N s o : Nat} {cb : Int32} (hT : T ≤ 600) (hA : ∀ s d, s < T → d < 4 → f_X11_blockRoll (nI s) (nI d) wide tall kind = some (en9 (A s d)) ∧ ∀ t, A s d = some t → t < T) (hI : RI A (fun _ => 1) T G V) (hX : RX A (fun _ => 1) T V) (hG : ∀ t, G t = true → t < T) (hy : ∀ t, t < T → onward t = nI (V t)) (hN : 1000 < N) (hs : s < T) (h0 : 0 < V s) (hF : V s < FAR) (ho : A s (gdw A V s) = some o) (hg : gdw A V s < 4) : f_X11_homeStep N (nI s) wide tall cb kind onward = some (nI o, nI (gdw A V s)) := by
  unfold f_X11_homeStep
  rw [gs_home, m_gs85 hT hA hI hX hG hy hN hs h0 hF, Option.bind_some, (hA _ _ hs hg).1, ho, Option.bind_some]
  rfl
theorem m_hw71 {N s0 i : Nat} {cb : Int32} (hT : T ≤ 600) (hA : ∀ s d, s < T → d < 4 → f_X11_blockRoll (nI s) (nI d) wide tall kind = some (en9 (A s d)) ∧ ∀ t, A s d = some t → t < T) (hI : RI A (fun _ => 1) T G V) (hX : RX A (fun _ => 1) T V) (hG : ∀ t, G t = true → t < T) (hy : ∀ t, t < T → onward t = nI (V t)) (hN : 1000 < N) (hs : s0 < T) (hV : V s0 < 600) (hi : i < V s0) : f_X11_homeWay_l71 N (nI i) wide tall kind onward N (nI s0, 0, cb) = some (nI (gdw A V (gX A V s0 i))) := by
  have hF : V s0 < FAR := by unfold FAR; omega
  have hAM : ∀ s d, s < T → d < 4 → ∀ t, A s d = some t → t < T := fun s d hs hd => (hA s d hs hd).2
  refine lp_run (b := fun rec z => f_X11_homeWay_b71 N (nI i) wide tall kind onward rec z.1 z.2.1 z.2.2) (fun k => (nI (gX A V s0 k), nI k, (if k = 0 then cb else nI (gdw A V (gX A V s0 (k - 1)))))) (i + 1) (fun k hk rec => ?_) (fun rec => ?_) N (by omega)
  · show f_X11_homeWay_b71 N (nI i) wide tall kind onward rec (nI (gX A V s0 k)) (nI k) (if k = 0 then cb else nI (gdw A V (gX A V s0 (k - 1)))) = rec (nI (gX A V s0 (k + 1)), nI (k + 1), (if k + 1 = 0 then cb else nI (gdw A V (gX A V s0 k))))
    unfold f_X11_homeWay_b71
    obtain ⟨x1, x2, x3⟩ := gry_X hAM hI hX hG hs hF k (by omega)
    obtain ⟨x4, x5, x6⟩ := x3 (by omega)
    rw [if_neg (nI_nlt (show k ≤ i by omega) (by omega)), m_homeStep hT hA hI hX hG hy hN x1 (by omega) (by omega) x4 x5, Option.bind_some, nI_1, if_neg (show ¬ k + 1 = 0 by omega)]
  · show f_X11_homeWay_b71 N (nI i) wide tall kind onward rec (nI (gX A V s0 (i + 1))) (nI (i + 1)) (if i + 1 = 0 then cb else nI (gdw A V (gX A V s0 i))) = _
    unfold f_X11_homeWay_b71
    rw [if_pos (nI_lt (by omega) (by omega)), if_neg (by omega)]
theorem m_hg47 {N s0 : Nat} {cb : Int32} (hT : T ≤ 600) (hA : ∀ s d, s < T → d < 4 → f_X11_blockRoll (nI s) (nI d) wide tall kind = some (en9 (A s d)) ∧ ∀ t, A s d = some t → t < T) (hI : RI A (fun _ => 1) T G V) (hX : RX A (fun _ => 1) T V) (hG : ∀ t, G t = true → t < T) (hy : ∀ t, t < T → onward t = nI (V t)) (hN : 1000 < N) (hs : s0 < T) (hV : V s0 < 600) : ∃ c, f_X11_homeGroups_l47 N wide tall kind onward N (nI s0, cb) = some (nI (gX A V s0 (V s0)), c) := by
  have hF : V s0 < FAR := by unfold FAR; omega
  have hAM : ∀ s d, s < T → d < 4 → ∀ t, A s d = some t → t < T := fun s d hs hd => (hA s d hs hd).2
  refine ⟨if V s0 = 0 then cb else nI (gdw A V (gX A V s0 (V s0 - 1))), ?_⟩
  refine lp_run (b := fun rec z => f_X11_homeGroups_b47 N wide tall kind onward rec z.1 z.2) (fun k => (nI (gX A V s0 k), (if k = 0 then cb else nI (gdw A V (gX A V s0 (k - 1)))))) (V s0) (fun k hk rec => ?_) (fun rec => ?_) N (by omega)
  · show f_X11_homeGroups_b47 N wide tall kind onward rec (nI (gX A V s0 k)) (if k = 0 then cb else nI (gdw A V (gX A V s0 (k - 1)))) = rec (nI (gX A V s0 (k + 1)), (if k + 1 = 0 then cb else nI (gdw A V (gX A V s0 k))))
    unfold f_X11_homeGroups_b47
    obtain ⟨x1, x2, x3⟩ := gry_X hAM hI hX hG hs hF k (by omega)
    obtain ⟨x4, x5, x6⟩ := x3 (by omega)
    rw [rdn (show gX A V s0 k < 600 by omega) (by decide), Option.bind_some, cln (by omega), hy _ x1, if_neg (nI_nle (by omega) (by omega)), m_homeStep hT hA hI hX hG hy hN x1 (by omega) (by omega) x4 x5, Option.bind_some, if_neg (show ¬ k + 1 = 0 by omega)]
  · show f_X11_homeGroups_b47 N wide tall kind onward rec (nI (gX A V s0 (V s0))) (if V s0 = 0 then cb else nI (gdw A V (gX A V s0 (V s0 - 1)))) = _
    unfold f_X11_homeGroups_b47
    obtain ⟨x1, x2, x3⟩ := gry_X hAM hI hX hG hs hF (V s0) (Nat.le_refl _)
    rw [rdn (show gX A V s0 (V s0) < 600 by omega) (by decide), Option.bind_some, cln (by omega), hy _ x1, show V (gX A V s0 (V s0)) = 0 by omega, if_pos (show nI 0 ≤ 0 from Int32.le_refl _)]
end HW
theorem s_homeWay (N : Nat) (hN : NB ≤ N) {size : Int32} {on : Int32} {kinds : Nat → Int32} {marks : Nat → Int32} {nb : Nat → Int32} {reached : Int32} {dist : Nat → Int32} {lastW : Nat → Int32} {par : Nat → Int32} {ord : Nat → Int32} {paths : Nat → Int64} {plen : Int32} {rowW : Nat → Int32} {rowS : Nat → Int32} {wide : Int32} {tall : Int32} {groups : Int32} {rowMany : Int32} {cameBy : Int32} {top : Nat → Int32} {east : Nat → Int32} {south : Nat → Int32} {rolled : Nat → Int32} {kind : Nat → Int32} {mark : Nat → Int32} {rowWay : Nat → Int32} {rowSeen : Nat → Int32} {homeward : Nat → Int32} (hR : Rl size on kinds marks nb plen rowW rowS wide tall groups rowMany top east south rolled kind mark rowWay rowSeen) (y1 : Int32) (y2 : Int32) (y3 : Int32) : ∃ (r : Int32) (oc : Int32 × (Nat → Int32) × (Nat → Int32) × (Nat → Int32) × (Nat → Int32) × (Nat → Int64)) (om : Int32 × (Nat → Int32)), f_X10_homeWay N y1 y2 y3 size on kinds nb reached dist lastW par ord paths = some (r, oc) ∧ f_X11_homeWay N y1 y2 y3 wide tall groups cameBy kind homeward = some (r, om) ∧ Rl size on kinds marks nb plen rowW rowS wide tall groups rowMany top east south rolled kind mark rowWay rowSeen := by
  obtain ⟨w, h, g, n, K, M, rw_, rs, hB, hC, hM⟩ := id hR
  obtain ⟨b1, b2, b3, b4, b5, b6, b7, b8, b9, b10⟩ := id hB
  obtain ⟨rfl, rfl, c3, c4, c5, rfl, c7, c8⟩ := id hC
  obtain ⟨rfl, rfl, rfl, rfl, m5, m6, m7, m8, m9, m10⟩ := id hM
  have w1 := wh25 b2 b4
  have w2 := wh4 b1 b3
  have hNB : 1000000000000 ≤ N := hN
  unfold f_X10_homeWay f_X11_homeWay
  rw [p_isPlace y1 (by omega), m_isPlace y1 (by omega) (by omega), p_has y2 (by omega), m_isCell y2 (by omega) (by omega)]
  simp only [Option.bind_some, bI_0]
  cases hb : inb y1 (3 * (w * h)) with
  | false => exact ⟨-1, _, _, rfl, rfl, hR⟩
  | true =>
    obtain ⟨p, hp, rfl⟩ := inb_of hb (by omega)
    cases hb2 : inb y2 (w * h) with
    | false => exact ⟨-1, _, _, rfl, rfl, hR⟩
    | true =>
      obtain ⟨c, hc, rfl⟩ := inb_of hb2 (by omega)
      simp only [Bool.true_eq_false, if_false, at8]
      unfold f_X1_stepAt
      have hs0 : 8 * p + g < 24 * (w * h) := by omega
      obtain ⟨o, y2, z, V, q1, q2, q3, q4, q5, q6⟩ := hm_both hB hC hM (N := N) (p := p) (c := c) (reached, dist, lastW, par, ord, paths) homeward hNB hp (by omega)
      rw [show f_X1_endOf N (nI p) (nI c) (nI (w * h)) (nI g) kinds nb reached dist lastW par ord paths = some (en o, y2) from q1, Option.bind_some, q2, Option.bind_some, rdn (show 8 * p + g < 600 by omega) (by decide), Option.bind_some, Option.bind_some, cln (by omega), q3 _ hs0]
      rcases q6 with ⟨rfl, e⟩ | ⟨S, s1, s2, s3, rfl, s5⟩
      · rw [e, if_pos (show nI FAR = 100000000 from rfl), show en none = -1 from rfl, p_stepM1, Option.bind_some]
        exact ⟨-9, _, _, rfl, rfl, hR⟩
      · have hF : V (8 * p + g) < FAR := by unfold FAR; omega
        have hgx := (gry_X (bl_b hB) q4 q5 hG_0 hs0 hF (V (8 * p + g)) (Nat.le_refl _)).1
        rw [if_neg (show ¬ nI (V (8 * p + g)) = 100000000 from fun q => by have := (nI_eq (b := 100000000) (by omega) (by decide)).mp q; omega), m_inV (by omega), Option.bind_some]
        cases hb : inb y3 (V (8 * p + g)) with
        | false =>
          rw [if_pos (show bI false = 0 from rfl), p_stepN s1 (fun s hs => by cases hs; omega) (fun i n hi hi2 hn _ => by
            rw [Option.bind_some, s5] at hn
            cases hn
            refine Nat.le_of_not_lt (fun z => ?_)
            rw [hi, inb_n z (by omega)] at hb; cases hb), Option.bind_some]
          exact ⟨-9, _, _, rfl, rfl, hR⟩
        | true =>
          obtain ⟨i, hi, rfl⟩ := inb_of hb (by omega)
          rw [if_neg (show ¬ bI true = 0 by decide), m_hw71 (by omega) (m_bl hB hM) q4 q5 hG_0 q3 (by omega) hs0 s3 hi, Option.bind_some]
          rw [show f_X8_stepTo N (en (some (gX (bl w h K) V (8 * p + g) (V (8 * p + g))))) (nI i) y2.2.1 y2.2.2.1 y2.2.2.2.1 = some (nI (gdw (bl w h K) V (gX (bl w h K) V (8 * p + g) i))) from p_stepTo (X := gX (bl w h K) V (8 * p + g)) (W := fun k => gdw (bl w h K) V (gX (bl w h K) V (8 * p + g) k)) s1 (by omega) s3 (fun k hk => by
            obtain ⟨a1, _, a3⟩ := gry_P (bl_b hB) s2 q4 q5 hG_0 hs0 hF k hk
            obtain ⟨a4, _⟩ := gry_X (bl_b hB) q4 q5 hG_0 hs0 hF k hk
            exact ⟨by omega, a1, a3⟩) hi, Option.bind_some]
          exact ⟨_, _, _, rfl, rfl, hR⟩
theorem s_homeGroups (N : Nat) (hN : NB ≤ N) {size : Int32} {on : Int32} {kinds : Nat → Int32} {marks : Nat → Int32} {nb : Nat → Int32} {reached : Int32} {dist : Nat → Int32} {lastW : Nat → Int32} {par : Nat → Int32} {ord : Nat → Int32} {paths : Nat → Int64} {plen : Int32} {rowW : Nat → Int32} {rowS : Nat → Int32} {wide : Int32} {tall : Int32} {groups : Int32} {rowMany : Int32} {cameBy : Int32} {top : Nat → Int32} {east : Nat → Int32} {south : Nat → Int32} {rolled : Nat → Int32} {kind : Nat → Int32} {mark : Nat → Int32} {rowWay : Nat → Int32} {rowSeen : Nat → Int32} {homeward : Nat → Int32} (hR : Rl size on kinds marks nb plen rowW rowS wide tall groups rowMany top east south rolled kind mark rowWay rowSeen) (y1 : Int32) (y2 : Int32) : ∃ (r : Int32) (oc : Int32 × (Nat → Int32) × (Nat → Int32) × (Nat → Int32) × (Nat → Int32) × (Nat → Int64)) (om : Int32 × (Nat → Int32)), f_X10_homeGroups N y1 y2 size on kinds nb reached dist lastW par ord paths = some (r, oc) ∧ f_X11_homeGroups N y1 y2 wide tall groups cameBy kind homeward = some (r, om) ∧ Rl size on kinds marks nb plen rowW rowS wide tall groups rowMany top east south rolled kind mark rowWay rowSeen := by
  obtain ⟨w, h, g, n, K, M, rw_, rs, hB, hC, hM⟩ := id hR
  obtain ⟨b1, b2, b3, b4, b5, b6, b7, b8, b9, b10⟩ := id hB
  obtain ⟨rfl, rfl, c3, c4, c5, rfl, c7, c8⟩ := id hC
  obtain ⟨rfl, rfl, rfl, rfl, m5, m6, m7, m8, m9, m10⟩ := id hM
  have w1 := wh25 b2 b4
  have w2 := wh4 b1 b3
  have hNB : 1000000000000 ≤ N := hN
  unfold f_X10_homeGroups f_X11_homeGroups
  rw [p_isPlace y1 (by omega), m_isPlace y1 (by omega) (by omega), p_has y2 (by omega), m_isCell y2 (by omega) (by omega)]
  simp only [Option.bind_some, bI_0]
  cases hb : inb y1 (3 * (w * h)) with
  | false => exact ⟨-1, _, _, rfl, rfl, hR⟩
  | true =>
    obtain ⟨p, hp, rfl⟩ := inb_of hb (by omega)
    cases hb2 : inb y2 (w * h) with
    | false => exact ⟨-1, _, _, rfl, rfl, hR⟩
    | true =>
      obtain ⟨c, hc, rfl⟩ := inb_of hb2 (by omega)
      simp only [Bool.true_eq_false, if_false, at8]
      unfold f_X1_groupsAtEnd
      have hs0 : 8 * p + g < 24 * (w * h) := by omega
      obtain ⟨o, y2, z, V, q1, q2, q3, q4, q5, q6⟩ := hm_both hB hC hM (N := N) (p := p) (c := c) (reached, dist, lastW, par, ord, paths) homeward hNB hp (by omega)
      rw [show f_X1_endOf N (nI p) (nI c) (nI (w * h)) (nI g) kinds nb reached dist lastW par ord paths = some (en o, y2) from q1, Option.bind_some, q2, Option.bind_some, rdn (show 8 * p + g < 600 by omega) (by decide), Option.bind_some, cln (by omega), q3 _ hs0]
      rcases q6 with ⟨rfl, e⟩ | ⟨S, s1, s2, s3, rfl, s5⟩
      · rw [e, if_pos (show nI FAR = 100000000 from rfl), if_pos (show en none = -1 from rfl)]
        exact ⟨-9, _, _, rfl, rfl, hR⟩
      · have hF : V (8 * p + g) < FAR := by unfold FAR; omega
        have hgx := (gry_X (bl_b hB) q4 q5 hG_0 hs0 hF (V (8 * p + g)) (Nat.le_refl _)).1
        obtain ⟨cb, hcb⟩ := m_hg47 (N := N) (cb := cameBy) (by omega) (m_bl hB hM) q4 q5 hG_0 q3 (by omega) hs0 s3
        rw [if_neg (show ¬ nI (V (8 * p + g)) = 100000000 from fun q => by have := (nI_eq (b := 100000000) (by omega) (by decide)).mp q; omega), hcb, Option.bind_some, if_neg (show ¬ en (some (gX (bl w h K) V (8 * p + g) (V (8 * p + g)))) = -1 from nI_m1 (by omega))]
        exact ⟨_, _, _, rfl, rfl, hR⟩
