/-! must -/
theorem upd_h {f : Nat → Int32} {K : Nat → Nat} {o : Nat} (h : ∀ c, c < 25 → f c = nI (K c)) : ∀ c, c < 25 → upd f o 1 c = nI (if c = o then 1 else K c) := fun c hc => by
  rw [updn]
  by_cases e : c = o
  · rw [if_pos e, if_pos e]; rfl
  · rw [if_neg e, if_neg e]; exact h c hc
theorem upd_b {f : Nat → Int32} {K : Nat → Nat} {o : Nat} (ho : o < 25) (h : ∀ c, c < 25 → f c = nI (K c)) : ∀ c, c < 25 → upd (upd f o 1) o (f o) c = nI (K c) := fun c hc => by
  rw [updn]
  by_cases e : c = o
  · rw [if_pos e, e]; exact h o ho
  · rw [if_neg e, updn, if_neg e]; exact h c hc
theorem s_must (N : Nat) (hN : NB ≤ N) {size : Int32} {on : Int32} {kinds : Nat → Int32} {marks : Nat → Int32} {nb : Nat → Int32} {reached : Int32} {dist : Nat → Int32} {lastW : Nat → Int32} {par : Nat → Int32} {ord : Nat → Int32} {paths : Nat → Int64} {plen : Int32} {rowW : Nat → Int32} {rowS : Nat → Int32} {wide : Int32} {tall : Int32} {groups : Int32} {rowMany : Int32} {top : Nat → Int32} {east : Nat → Int32} {south : Nat → Int32} {rolled : Nat → Int32} {kind : Nat → Int32} {mark : Nat → Int32} {rowWay : Nat → Int32} {rowSeen : Nat → Int32} {homeward : Nat → Int32} (hR : Rl size on kinds marks nb plen rowW rowS wide tall groups rowMany top east south rolled kind mark rowWay rowSeen) (y1 : Int32) (y2 : Int32) (y3 : Int32) : ∃ (r : Int32) (oc : (Nat → Int32) × Int32 × (Nat → Int32) × (Nat → Int32) × (Nat → Int32) × (Nat → Int32) × (Nat → Int64)) (om : (Nat → Int32) × (Nat → Int32)), f_X10_must N y1 y2 y3 size on kinds nb reached dist lastW par ord paths = some (r, oc) ∧ f_X11_must N y1 y2 y3 wide tall groups kind homeward = some (r, om) ∧ Rl size on oc.1 marks nb plen rowW rowS wide tall groups rowMany top east south rolled om.1 mark rowWay rowSeen := by
  obtain ⟨w, h, g, n, K, M, rw_, rs, hB, hC, hM⟩ := id hR
  obtain ⟨b1, b2, b3, b4, b5, b6, b7, b8, b9, b10⟩ := id hB
  obtain ⟨rfl, rfl, c3, c4, c5, rfl, c7, c8⟩ := id hC
  obtain ⟨rfl, rfl, rfl, rfl, m5, m6, m7, m8, m9, m10⟩ := id hM
  have w1 := wh25 b2 b4
  have w2 := wh4 b1 b3
  have hNB : 1000000000000 ≤ N := hN
  unfold f_X10_must f_X11_must
  rw [p_isPlace y1 (by omega), m_isPlace y1 (by omega) (by omega), p_has y2 (by omega), m_isCell y2 (by omega) (by omega), p_has y3 (by omega), m_isCell y3 (by omega) (by omega)]
  simp only [Option.bind_some, bI_0]
  cases hb : inb y1 (3 * (w * h)) with
  | false => exact ⟨-1, _, _, rfl, rfl, hR⟩
  | true =>
    obtain ⟨p, hp, rfl⟩ := inb_of hb (by omega)
    cases hb2 : inb y2 (w * h) with
    | false => exact ⟨-1, _, _, rfl, rfl, hR⟩
    | true =>
      obtain ⟨c, hc, rfl⟩ := inb_of hb2 (by omega)
      cases hb3 : inb y3 (w * h) with
      | false => exact ⟨-1, _, _, rfl, rfl, hR⟩
      | true =>
        obtain ⟨o3, ho3, rfl⟩ := inb_of hb3 (by omega)
        simp only [Bool.true_eq_false, if_false, at8]
        unfold f_X1_needs
        have hs0 : 8 * p + g < 24 * (w * h) := by omega
        obtain ⟨o, y2, z, V, q1, q2, q3, q4, q5, q6⟩ := hm_both hB hC hM (N := N) (p := p) (c := c) (reached, dist, lastW, par, ord, paths) homeward hNB hp (by omega)
        rw [show f_X1_endOf N (nI p) (nI c) (nI (w * h)) (nI g) kinds nb reached dist lastW par ord paths = some (en o, y2) from q1, Option.bind_some, q2, Option.bind_some, rdn (show 8 * p + g < 600 by omega) (by decide), Option.bind_some, cln (show 8 * p + g < 2 ^ 31 by omega), q3 _ hs0]
        rcases q6 with ⟨rfl, e⟩ | ⟨S, s1, s2, s3, rfl, s5⟩
        · rw [e, if_pos (show nI FAR = 100000000 from rfl), if_pos (show en none = -1 from rfl)]
          exact ⟨0, _, _, rfl, rfl, hR⟩
        · have hF : V (8 * p + g) < FAR := by unfold FAR; omega
          have hgx := (gry_X (bl_b hB) q4 q5 hG_0 hs0 hF (V (8 * p + g)) (Nat.le_refl _)).1
          have hB2 : Bd w h g n (fun c => if c = o3 then 1 else K c) M rw_ rs := ⟨b1, b2, b3, b4, b5, b6, fun c => by
            show (if c = o3 then 1 else K c) ≤ 8
            split
            · omega
            · exact b7 c, b8, b9, b10⟩
          have hC2 : Rc w h g n (fun c => if c = o3 then 1 else K c) M rw_ rs (nI (w * h)) (nI g) (upd kinds o3 1) marks nb (nI n) rowW rowS := ⟨rfl, rfl, upd_h c3, c4, c5, rfl, c7, c8⟩
          have hM2 : Rm w h g n (fun c => if c = o3 then 1 else K c) M rw_ rs (nI w) (nI h) (nI g) (nI n) top east south rolled (upd kind o3 1) mark rowWay rowSeen := ⟨rfl, rfl, rfl, rfl, m5, m6, upd_h m7, m8, m9, m10⟩
          obtain ⟨o2, yy, z2, V2, r1, r2, r3, r4, r5, r6⟩ := hm_both hB2 hC2 hM2 (N := N) (p := p) (c := c) y2 z hNB hp (by omega)
          have hE : Rl (nI (w * h)) (nI g) (upd (upd kinds o3 1) o3 (kinds o3)) marks nb (nI n) rowW rowS (nI w) (nI h) (nI g) (nI n) top east south rolled (upd (upd kind o3 1) o3 (kind o3)) mark rowWay rowSeen := ⟨w, h, g, n, K, M, rw_, rs, hB, ⟨rfl, rfl, upd_b (by omega) c3, c4, c5, rfl, c7, c8⟩, ⟨rfl, rfl, rfl, rfl, m5, m6, upd_b (by omega) m7, m8, m9, m10⟩⟩
          rw [if_neg (show ¬ nI (V (8 * p + g)) = 100000000 from fun q => by have := (nI_eq (b := 100000000) (by omega) (by decide)).mp q; omega), if_neg (show ¬ en (some (gX (bl w h K) V (8 * p + g) (V (8 * p + g)))) = -1 from nI_m1 (by omega)), p_changeKind ho3 w1, Option.bind_some, rdn (show o3 < 25 by omega) (by decide), Option.bind_some, ckn (show o3 < 25 by omega) (by decide), Option.bind_some, cln (show o3 < 2 ^ 31 by omega), r2, Option.bind_some, rdn (show 8 * p + g < 600 by omega) (by decide), Option.bind_some, r3 _ hs0]
          dsimp only
          rw [r1, Option.bind_some]
          dsimp only
          unfold f_X1_needs_j38 f_X11_must_j96
          rw [p_changeKind ho3 w1, Option.bind_some, ckn (show o3 < 25 by omega) (by decide), Option.bind_some, cln (show o3 < 2 ^ 31 by omega)]
          rcases r6 with ⟨rfl, e⟩ | ⟨S2, t1, t2, t3, rfl, t5⟩
          · rw [e, if_pos (show (100000000 : Int32) ≤ nI FAR from Int32.le_refl _), if_pos (show en none = -1 from rfl)]
            exact ⟨1, _, _, rfl, rfl, hE⟩
          · have hF2 : V2 (8 * p + g) < FAR := by unfold FAR; omega
            have hgx2 := (gry_X (bl_b hB2) r4 r5 hG_0 hs0 hF2 (V2 (8 * p + g)) (Nat.le_refl _)).1
            rw [if_neg (show ¬ (100000000 : Int32) ≤ nI (V2 (8 * p + g)) from nI_ge (b := 100000000) (by omega) (by decide)), if_neg (show ¬ en (some (gX (bl w h (fun c => if c = o3 then 1 else K c)) V2 (8 * p + g) (V2 (8 * p + g)))) = -1 from nI_m1 (by omega))]
            exact ⟨0, _, _, rfl, rfl, hE⟩
