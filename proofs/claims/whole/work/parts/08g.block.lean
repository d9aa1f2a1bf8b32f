/-! the block: sound places, its roll on both sides -/
def snd (w h : Nat) (K : Nat → Nat) (g p : Nat) : Bool := opn K g (p / 3) && (if p % 3 = 0 then K (p / 3) != 2 else match bes w h (p / 3) (p % 3 - 1) with
  | none => false
  | some c => opn K g c)
theorem dv3 {p : Nat} (h : p < 2 ^ 31) : nI p / 3 = nI (p / 3) := pk_div (d := 3) h (by decide) (by decide)
theorem rq3 {p : Nat} (h : p < 2 ^ 31) : nI p - nI (p / 3) * 3 = nI (p % 3) := by rw [← dv3 h]; exact pk_rem (d := 3) h (by decide) (by decide)
theorem dv8 {p : Nat} (h : p < 2 ^ 31) : nI p / 8 = nI (p / 8) := pk_div (d := 8) h (by decide) (by decide)
theorem rq8 {p : Nat} (h : p < 2 ^ 31) : nI p - nI (p / 8) * 8 = nI (p % 8) := by rw [← dv8 h]; exact pk_rem (d := 8) h (by decide) (by decide)
theorem at8 (c s : Nat) : 8 * nI c + nI s = nI (8 * c + s) := by rw [li 8, pk_mul, nI_add]
theorem at3 (c s : Nat) : 3 * nI c + nI s = nI (3 * c + s) := by rw [li 3, pk_mul, nI_add]
theorem kd2 (k : Nat) (h : k < 2 ^ 31) : (nI k = 2) = (k = 2) := propext ⟨fun z => (nI_eq (b := 2) h (by decide)).mp z, fun z => by rw [z]; rfl⟩
theorem kd1 (k : Nat) (h : k < 2 ^ 31) : (nI k = 1) = (k = 1) := propext ⟨fun z => (nI_eq (b := 1) h (by decide)).mp z, fun z => by rw [z]; rfl⟩
section BLK
variable {w h g n : Nat} {K M rw_ rs : Nat → Nat} {kinds marks nb : Nat → Int32} {rowW rowS : Nat → Int32} {top east south rolled kind mark rowWay rowSeen : Nat → Int32} {size on plen wide tall groups rowMany : Int32}
theorem p_bes (hB : Bd w h g n K M rw_ rs) (hC : Rc w h g n K M rw_ rs size on kinds marks nb plen rowW rowS) {c d : Nat} (hc : c < w * h) (hd : d < 4) : f_X2_beside (nI c) (nI d) size nb = some (en (bes w h c d)) := by
  obtain ⟨b1, b2, b3, b4, b5, b6, b7, b8, b9, b10⟩ := hB
  obtain ⟨rfl, rfl, c3, c4, c5, rfl, c7, c8⟩ := hC
  exact p_beside rfl (wh25 b2 b4) (c5 c hc d hd) hc hd
theorem p_opn (hB : Bd w h g n K M rw_ rs) (hC : Rc w h g n K M rw_ rs size on kinds marks nb plen rowW rowS) {c g2 : Nat} (hg : g2 < 8) (hc : c < w * h) : f_X2_isOpen (nI c) (nI g2) size kinds = some (bI (opn K g2 c)) := by
  obtain ⟨b1, b2, b3, b4, b5, b6, b7, b8, b9, b10⟩ := hB
  obtain ⟨rfl, rfl, c3, c4, c5, rfl, c7, c8⟩ := hC
  have w1 := wh25 b2 b4
  exact p_isOpen (K := K) (c3 c (by omega)) (b7 c) hg hc w1
theorem p_isSound (hB : Bd w h g n K M rw_ rs) (hC : Rc w h g n K M rw_ rs size on kinds marks nb plen rowW rowS) {p g2 : Nat} (hg : g2 < 8) (hp : p < 3 * (w * h)) : f_X0_isSound_22 (nI p) (nI g2) size kinds nb = some (bI (snd w h K g2 p)) := by
  obtain ⟨b1, b2, b3, b4, b5, b6, b7, b8, b9, b10⟩ := id hB
  have w1 := wh25 b2 b4
  have hc : p / 3 < w * h := by omega
  have h3 : p % 3 < 3 := Nat.mod_lt _ (by decide)
  unfold f_X0_isSound_22
  simp only [dv3 (show p < 2 ^ 31 by omega), rq3 (show p < 2 ^ 31 by omega), p_opn hB hC hg hc]
  rw [if_pos (nI_pos' (by omega))]
  simp only [Option.bind_some, bI_0, nI_0' (p % 3) (by omega)]
  unfold snd
  cases ho : opn K g2 (p / 3) with
  | false => rfl
  | true =>
    rw [if_neg (by decide), Bool.true_and]
    by_cases e0 : p % 3 = 0
    · rw [if_pos e0, if_pos e0]
      obtain ⟨rfl, rfl, c3, c4, c5, rfl, c7, c8⟩ := id hC
      rw [p_kindOf hc w1, Option.bind_some, c3 _ (by omega)]
      simp only [kd2 (K (p / 3)) (by have := b7 (p / 3); omega)]
      by_cases e2 : K (p / 3) = 2
      · rw [if_pos e2, e2]; rfl
      · rw [if_neg e2, show (K (p / 3) != 2) = true from bne_iff_ne.mpr e2]; rfl
    · rw [if_neg e0, if_neg e0, show nI (p % 3) - 1 = nI (p % 3 - 1) from pk_sub (b := 1) (by omega), p_bes hB hC hc (by omega), Option.bind_some]
      cases hb : bes w h (p / 3) (p % 3 - 1) with
      | none =>
        obtain ⟨rfl, rfl, c3, c4, c5, rfl, c7, c8⟩ := id hC
        rfl
      | some c =>
        have hc2 := bes_lt b1 b2 b3 b4 hc (by omega) hb
        rw [show en (some c) = nI c from rfl, p_opn hB hC hg hc2, Option.bind_some, nxb, Option.bind_some]
theorem m_opn (hB : Bd w h g n K M rw_ rs) (hM : Rm w h g n K M rw_ rs wide tall groups rowMany top east south rolled kind mark rowWay rowSeen) {c g2 : Nat} (hg : g2 < 8) (hc : c < w * h) : f_X11_isOpen (nI c) (nI g2) kind = some (bI (opn K g2 c)) := by
  obtain ⟨b1, b2, b3, b4, b5, b6, b7, b8, b9, b10⟩ := hB
  obtain ⟨rfl, rfl, rfl, rfl, m5, m6, m7, m8, m9, m10⟩ := hM
  have w1 := wh25 b2 b4
  exact m_isOpen (K := K) (m7 c (by omega)) (b7 c) hg (by omega)
theorem m_isSound (hB : Bd w h g n K M rw_ rs) (hM : Rm w h g n K M rw_ rs wide tall groups rowMany top east south rolled kind mark rowWay rowSeen) {p g2 : Nat} (hg : g2 < 8) (hp : p < 3 * (w * h)) : f_X11_isSound (nI p) (nI g2) wide tall kind = some (bI (snd w h K g2 p)) := by
  obtain ⟨b1, b2, b3, b4, b5, b6, b7, b8, b9, b10⟩ := id hB
  have w1 := wh25 b2 b4
  have hc : p / 3 < w * h := by omega
  have h3 : p % 3 < 3 := Nat.mod_lt _ (by decide)
  have e25 : p / 3 < 25 := by omega
  unfold f_X11_isSound f_X11_otherOf f_X11_otherOf_j28
  simp only [dv3 (show p < 2 ^ 31 by omega), rq3 (show p < 2 ^ 31 by omega), nI_0' (p % 3) (by omega), kd1 (p % 3) (by omega), m_opn hB hM hg hc]
  unfold snd
  by_cases e0 : p % 3 = 0
  · simp only [if_pos e0, Option.bind_some]
    rw [if_neg (nI_m9 (by omega)), m_opn hB hM hg hc]
    obtain ⟨rfl, rfl, rfl, rfl, m5, m6, m7, m8, m9, m10⟩ := id hM
    rw [Option.bind_some, rdn e25 (by decide), Option.bind_some, cln (by omega), m7 _ e25]
    simp only [bI_0, kd2 (K (p / 3)) (by have := b7 (p / 3); omega)]
    cases opn K g2 (p / 3) with
    | false => rfl
    | true =>
      rw [if_neg (by decide), Bool.true_and]
      by_cases e2 : K (p / 3) = 2
      · rw [if_pos e2, e2]; rfl
      · rw [if_neg e2, show (K (p / 3) != 2) = true from bne_iff_ne.mpr e2]; rfl
  · simp only [if_neg e0]
    obtain ⟨rfl, rfl, rfl, rfl, m5, m6, m7, m8, m9, m10⟩ := id hM
    have key : (if p % 3 = 1 then (f_X11_beside (nI (p / 3)) 0 (nI w) (nI h)).bind fun r_2 => some r_2 else (f_X11_beside (nI (p / 3)) 1 (nI w) (nI h)).bind fun r_2 => some r_2) = some (en9 (bes w h (p / 3) (p % 3 - 1))) := by
      by_cases e1 : p % 3 = 1
      · rw [if_pos e1, show f_X11_beside (nI (p / 3)) 0 (nI w) (nI h) = _ from (bes_both (d := 0) b1 b2 b3 b4 hc (by decide)).1, e1]; rfl
      · rw [if_neg e1, show f_X11_beside (nI (p / 3)) 1 (nI w) (nI h) = _ from (bes_both (d := 1) b1 b2 b3 b4 hc (by decide)).1, show p % 3 = 2 by omega]; rfl
    rw [key, Option.bind_some]
    cases hb : bes w h (p / 3) (p % 3 - 1) with
    | none => rw [if_pos (show en9 none = -9 from rfl), Bool.and_false]; rfl
    | some c =>
      have hc2 := bes_lt b1 b2 b3 b4 hc (by omega) hb
      rw [if_neg (show ¬ en9 (some c) = -9 from nI_m9 (by omega)), show en9 (some c) = nI c from rfl, m_opn hB hM hg hc2]
      simp only [Option.bind_some, bI_0]
      cases opn K g2 (p / 3) <;> cases opn K g2 c <;> rfl
end BLK
theorem s_sound (N : Nat) (hN : NB ≤ N) {size : Int32} {on : Int32} {kinds : Nat → Int32} {marks : Nat → Int32} {nb : Nat → Int32} {plen : Int32} {rowW : Nat → Int32} {rowS : Nat → Int32} {wide : Int32} {tall : Int32} {groups : Int32} {rowMany : Int32} {top : Nat → Int32} {east : Nat → Int32} {south : Nat → Int32} {rolled : Nat → Int32} {kind : Nat → Int32} {mark : Nat → Int32} {rowWay : Nat → Int32} {rowSeen : Nat → Int32} (hR : Rl size on kinds marks nb plen rowW rowS wide tall groups rowMany top east south rolled kind mark rowWay rowSeen) (y1 : Int32) : ∃ (r : Int32), f_X10_sound y1 size on kinds nb = some r ∧ f_X11_sound y1 wide tall groups kind = some r ∧ Rl size on kinds marks nb plen rowW rowS wide tall groups rowMany top east south rolled kind mark rowWay rowSeen := by
  obtain ⟨w, h, g, n, K, M, rw_, rs, hB, hC, hM⟩ := id hR
  obtain ⟨b1, b2, b3, b4, b5, b6, b7, b8, b9, b10⟩ := id hB
  obtain ⟨rfl, rfl, c3, c4, c5, rfl, c7, c8⟩ := id hC
  obtain ⟨rfl, rfl, rfl, rfl, m5, m6, m7, m8, m9, m10⟩ := id hM
  have w1 := wh25 b2 b4
  have w2 := wh4 b1 b3
  have hNB : 1000000000000 ≤ N := hN
  unfold f_X10_sound f_X11_sound f_X1_isSoundNow f_X2_groupsOn
  rw [p_isPlace y1 (by omega), m_isPlace y1 (by omega) (by omega)]
  simp only [Option.bind_some, bI_0]
  cases hb : inb y1 (3 * (w * h)) with
  | false => exact ⟨-1, rfl, rfl, hR⟩
  | true =>
    obtain ⟨p, hp, rfl⟩ := inb_of hb (by omega)
    rw [p_isSound hB hC b5 hp, m_isSound hB hM b5 hp]
    simp only [Bool.true_eq_false, if_false, Option.bind_some, nxb, p_oneIf, bI_0]
    refine ⟨_, rfl, ?_, hR⟩
    cases snd w h K g p <;> rfl
