/-! the die's roll on both sides; the start of all -/
def ck_1 (x : Option (Int32 × Int32 × (Nat → Int32) × (Nat → Int32) × (Nat → Int32))) : Bool := match x with
  | none => false
  | some o => decide (o.1 = nI 16) && decide (o.2.1 = nI 0) && (List.range 25).all (fun c => decide (o.2.2.1 c = nI 0) && decide (o.2.2.2.1 c = nI 0)) && (List.range 16).all (fun c => (List.range 4).all fun d => decide (o.2.2.2.2 (4 * c + d) = en (bes 4 4 c d)))
theorem ck_1_ok : ck_1 (f_X2_lay_bw 200 4 4 0 0 (fun _ => 0) (fun _ => 0) (fun _ => 0)) = true := by decide +kernel
def ck_2 (x : Option ((Nat → Int32) × (Nat → Int32) × (Nat → Int32) × (Nat → Int32))) : Bool := match x with
  | none => false
  | some o => (List.range 24).all (fun s => decide (o.1 s = nI (tp s)) && decide (o.2.1 s = nI (ea s)) && decide (o.2.2.1 s = nI (so s)) && (List.range 4).all fun d => decide (o.2.2.2 (4 * s + d) = nI (tu s d)))
theorem ck_2_ok : ck_2 (f_X11_init_tail 200 (fun _ => 0) (fun _ => 0) (fun _ => 0) (fun _ => 0)) = true := by decide +kernel
theorem s_init : ∃ o o2, f_X2_lay_bw 200 4 4 0 0 (fun _ => 0) (fun _ => 0) (fun _ => 0) = some o ∧ f_X11_init_tail 200 (fun _ => 0) (fun _ => 0) (fun _ => 0) (fun _ => 0) = some o2 ∧ Rl o.1 o.2.1 o.2.2.1 o.2.2.2.1 o.2.2.2.2 0 (fun _ => 0) (fun _ => 0) 4 4 0 0 o2.1 o2.2.1 o2.2.2.1 o2.2.2.2 (fun _ => 0) (fun _ => 0) (fun _ => 0) (fun _ => 0) := by
  have h1 := ck_1_ok
  have h2 := ck_2_ok
  cases e1 : f_X2_lay_bw 200 4 4 0 0 (fun _ => 0) (fun _ => 0) (fun _ => 0) with
  | none => rw [e1] at h1; cases h1
  | some o =>
    cases e2 : f_X11_init_tail 200 (fun _ => 0) (fun _ => 0) (fun _ => 0) (fun _ => 0) with
    | none => rw [e2] at h2; cases h2
    | some o2 =>
      rw [e1] at h1
      rw [e2] at h2
      simp only [ck_1, ck_2, Bool.and_eq_true, decide_eq_true_eq, List.all_eq_true, List.mem_range] at h1 h2
      obtain ⟨⟨⟨a1, a2⟩, a3⟩, a4⟩ := h1
      refine ⟨o, o2, rfl, rfl, 4, 4, 0, 0, fun _ => 0, fun _ => 0, fun _ => 0, fun _ => 0, ⟨by decide, by decide, by decide, by decide, by decide, by decide, fun _ => Nat.zero_le _, fun _ => Nat.zero_le _, fun _ => Nat.zero_lt_succ 3, fun _ => Nat.zero_le _⟩, ⟨a1, a2, fun c hc => (a3 c hc).1, fun c hc => (a3 c hc).2, fun c hc d hd => a4 c hc d hd, rfl, fun i hi => absurd hi (Nat.not_lt_zero i), fun i hi => absurd hi (Nat.not_lt_zero i)⟩, ⟨rfl, rfl, rfl, rfl, fun s hs => ⟨(h2 s hs).1.1.1, (h2 s hs).1.1.2, (h2 s hs).1.2⟩, fun s hs d hd => (h2 s hs).2 d hd, fun c hc => rfl, fun c hc => rfl, fun i hi => absurd hi (Nat.not_lt_zero i), fun i hi => absurd hi (Nat.not_lt_zero i)⟩⟩
/-- cells beside, on the reference's side -/
theorem bes_all : (List.range 6).all (fun w => (List.range 6).all fun h => decide (w < 2) || decide (h < 2) || (List.range 25).all fun c => decide (w * h ≤ c) || (List.range 4).all fun d => decide (f_X11_beside (nI c) (nI d) (nI w) (nI h) = some (en9 (bes w h c d))) && (match bes w h c d with | none => true | some q => decide (q < w * h))) = true := by decide +kernel
theorem bes_both {w h c d : Nat} (w1 : 2 ≤ w) (w2 : w ≤ 5) (h1 : 2 ≤ h) (h2 : h ≤ 5) (hc : c < w * h) (hd : d < 4) : f_X11_beside (nI c) (nI d) (nI w) (nI h) = some (en9 (bes w h c d)) ∧ (match bes w h c d with | none => true | some q => decide (q < w * h)) = true := by
  have k := List.all_eq_true.mp bes_all w (List.mem_range.mpr (by omega))
  have k := List.all_eq_true.mp k h (List.mem_range.mpr (by omega))
  have w3 := wh25 w2 h2
  simp only [Bool.or_eq_true, decide_eq_true_eq] at k
  rcases k with (k | k) | k
  · omega
  · omega
  · have k := List.all_eq_true.mp k c (List.mem_range.mpr (by omega))
    simp only [Bool.or_eq_true, decide_eq_true_eq] at k
    rcases k with k | k
    · omega
    · have k := List.all_eq_true.mp k d (List.mem_range.mpr hd)
      simp only [Bool.and_eq_true, decide_eq_true_eq] at k
      exact k
theorem bes_lt {w h c d q : Nat} (w1 : 2 ≤ w) (w2 : w ≤ 5) (h1 : 2 ≤ h) (h2 : h ≤ 5) (hc : c < w * h) (hd : d < 4) (e : bes w h c d = some q) : q < w * h := by
  have k := (bes_both w1 w2 h1 h2 hc hd).2
  rw [e] at k
  exact of_decide_eq_true k
theorem p_beside {w h c d n : Nat} {nb : Nat → Int32} (hn : n = w * h) (w1 : w * h ≤ 25) (hb : nb (4 * c + d) = en (bes w h c d)) (hc : c < w * h) (hd : d < 4) : f_X2_beside (nI c) (nI d) (nI n) nb = some (en (bes w h c d)) := by
  subst hn
  unfold f_X2_beside f_X2_beside_j26
  have e : nI c * 4 + nI d = nI (4 * c + d) := by rw [show nI c * 4 = nI (c * 4) from pk_mul c 4, nI_add, Nat.mul_comm]
  rw [if_neg (nI_pos (by omega)), if_neg (nI_ge hc (by omega)), if_neg (nI_pos (by omega)), if_neg (show ¬ (4 : Int32) ≤ nI d from nI_ge hd (by decide)), if_neg (by decide), e, rdn (show 4 * c + d < 100 by omega) (by decide), Option.bind_some, cln (by omega), hb]
theorem p_besideN {d n : Nat} {x : Int32} {nb : Nat → Int32} (hx : x = -1) : f_X2_beside x (nI d) (nI n) nb = some (-1) := by subst hx; rfl
/-- the die's roll from a state (24 times a cell, and a stance) -/
def rl (w h : Nat) (K M : Nat → Nat) (g st d : Nat) : Option Nat := match bes w h (st / 24) d with
  | none => none
  | some c => if opn K g c && (M c == 0 || M c == tp (tu (st % 24) d)) then some (24 * c + tu (st % 24) d) else none
theorem rl_lt {w h : Nat} {K M : Nat → Nat} {g st d q : Nat} (w1 : 2 ≤ w) (w2 : w ≤ 5) (h1 : 2 ≤ h) (h2 : h ≤ 5) (hs : st < 24 * (w * h)) (hd : d < 4) (e : rl w h K M g st d = some q) : q < 24 * (w * h) := by
  unfold rl at e
  cases hb : bes w h (st / 24) d with
  | none => rw [hb] at e; cases e
  | some c =>
    rw [hb] at e
    have hc := bes_lt w1 w2 h1 h2 (show st / 24 < w * h by omega) hd hb
    have ht := tu_lt (s := st % 24) (Nat.mod_lt _ (by decide)) hd
    simp only at e
    split at e
    · cases e; omega
    · cases e
theorem dv24 {st : Nat} (h : st < 2 ^ 31) : nI st / 24 = nI (st / 24) := pk_div (d := 24) h (by decide) (by decide)
theorem rm24 {st : Nat} (h : st < 2 ^ 31) : nI st - nI st / 24 * 24 = nI (st % 24) := pk_rem (d := 24) h (by decide) (by decide)
theorem rq24 {st : Nat} (h : st < 2 ^ 31) : nI st - nI (st / 24) * 24 = nI (st % 24) := by rw [← dv24 h]; exact rm24 h
theorem at24 (c s : Nat) : 24 * nI c + nI s = nI (24 * c + s) := by rw [li 24, pk_mul, nI_add]
theorem nI_m1 {k : Nat} (h : k < 2 ^ 31) : ¬ nI k = -1 := fun z => by
  have e : (nI k).toInt = (-1 : Int32).toInt := by rw [z]
  rw [tl k h] at e
  have e2 : (-1 : Int32).toInt = -1 := rfl
  omega
theorem nI_m9 {k : Nat} (h : k < 2 ^ 31) : ¬ nI k = -9 := fun z => by
  have e : (nI k).toInt = (-9 : Int32).toInt := by rw [z]
  rw [tl k h] at e
  have e2 : (-9 : Int32).toInt = -9 := rfl
  omega
theorem nI_0' (k : Nat) (h : k < 2 ^ 31) : (nI k = 0) = (k = 0) := propext ⟨fun z => (nI_eq (b := 0) h (by decide)).mp z, fun z => by rw [z]; rfl⟩
section DIE
variable {w h g n : Nat} {K M rw_ rs : Nat → Nat} {kinds marks nb : Nat → Int32} {rowW rowS : Nat → Int32} {top east south rolled kind mark rowWay rowSeen : Nat → Int32} {size on plen wide tall groups rowMany : Int32}
theorem p_after (hB : Bd w h g n K M rw_ rs) (hC : Rc w h g n K M rw_ rs size on kinds marks nb plen rowW rowS) {st d : Nat} (hs : st < 24 * (w * h)) (hd : d < 4) : f_X4_after (nI st) (nI d) size on kinds marks nb = some (en (rl w h K M g st d)) := by
  obtain ⟨b1, b2, b3, b4, b5, b6, b7, b8, b9, b10⟩ := hB
  obtain ⟨rfl, rfl, c3, c4, c5, rfl, c7, c8⟩ := hC
  have w1 := wh25 b2 b4
  have hcell : st / 24 < w * h := by omega
  have hst : st % 24 < 24 := Nat.mod_lt _ (by decide)
  unfold f_X4_after f_X4_cellOf f_X4_stanceOf f_X2_groupsOn
  simp only [Option.bind_some, dv24 (show st < 2 ^ 31 by omega), rq24 (show st < 2 ^ 31 by omega), p_beside rfl w1 (c5 _ hcell d hd) hcell hd]
  unfold rl
  cases hb : bes w h (st / 24) d with
  | none => rfl
  | some c =>
    have hc := bes_lt b1 b2 b3 b4 hcell hd hb
    simp only [en]
    rw [p_isOpen (K := K) (c3 c (by omega)) (b7 c) b5 hc w1]
    simp only [Option.bind_some, bI_0, p_turned hst hd, p_markOf hc w1, c4 c (show c < 25 by omega), p_topOf (tu_lt hst hd), nI_0' (M c) (by have := b8 c; omega)]
    unfold f_X4_after_j68 f_X4_at
    simp only [Option.bind_some, at24]
    cases ho : opn K g c with
    | false => simp
    | true =>
      by_cases e1 : M c = 0
      · simp [e1]
      · have := b8 c
        have ht : tp (tu (st % 24) d) < 2 ^ 31 := by have := (tp_b _ (tu_lt hst hd)).1; omega
        by_cases e2 : M c = tp (tu (st % 24) d)
        · simp [e1, e2]
        · have e3 : ¬ nI (M c) = nI (tp (tu (st % 24) d)) := fun z => e2 ((nI_eq (by omega) ht).mp z)
          simp [e1, e2, e3]
theorem m_rollOf (hB : Bd w h g n K M rw_ rs) (hM : Rm w h g n K M rw_ rs wide tall groups rowMany top east south rolled kind mark rowWay rowSeen) {st d : Nat} (hs : st < 24 * (w * h)) (hd : d < 4) : f_X11_rollOf (nI st) (nI d) wide tall groups top rolled kind mark = some (en9 (rl w h K M g st d)) := by
  obtain ⟨b1, b2, b3, b4, b5, b6, b7, b8, b9, b10⟩ := hB
  obtain ⟨rfl, rfl, rfl, rfl, m5, m6, m7, m8, m9, m10⟩ := hM
  have w1 := wh25 b2 b4
  have hcell : st / 24 < w * h := by omega
  have hst : st % 24 < 24 := Nat.mod_lt _ (by decide)
  unfold f_X11_rollOf
  simp only [dv24 (show st < 2 ^ 31 by omega), rq24 (show st < 2 ^ 31 by omega), (bes_both b1 b2 b3 b4 hcell hd).1, Option.bind_some]
  unfold rl
  cases hb : bes w h (st / 24) d with
  | none => rfl
  | some c =>
    have hc := bes_lt b1 b2 b3 b4 hcell hd hb
    have hc25 : c < 25 := by omega
    rw [if_neg (show ¬ en9 (some c) = -9 from nI_m9 (by omega))]
    simp only [en9]
    rw [m_isOpen (K := K) (m7 c hc25) (b7 c) b5 hc25]
    have ht := tu_lt hst hd
    simp only [Option.bind_some, bI_0, show 4 * nI (st % 24) + nI d = nI (4 * (st % 24) + d) from fs4 _ _, rdn (show 4 * (st % 24) + d < 96 by omega) (show 96 < 2 ^ 31 by decide), cln (show 4 * (st % 24) + d < 2 ^ 31 by omega), m6 _ hst d hd, rdn hc25 (show 25 < 2 ^ 31 by decide), cln (show c < 2 ^ 31 by omega), m8 c hc25, rdn ht (show 24 < 2 ^ 31 by decide), cln (show tu (st % 24) d < 2 ^ 31 by omega), (m5 _ ht).1, nI_0' (M c) (by have := b8 c; omega)]
    unfold f_X11_rollOf_j71
    simp only [at24]
    cases ho : opn K g c with
    | false => simp
    | true =>
      by_cases e1 : M c = 0
      · simp [e1]
      · have := b8 c
        have ht : tp (tu (st % 24) d) < 2 ^ 31 := by have := (tp_b _ (tu_lt hst hd)).1; omega
        by_cases e2 : M c = tp (tu (st % 24) d)
        · simp [e1, e2]
        · have e3 : ¬ nI (M c) = nI (tp (tu (st % 24) d)) := fun z => e2 ((nI_eq (by omega) ht).mp z)
          simp [e1, e2, e3]
end DIE
theorem p_isStart (x y : Int32) {n : Nat} (h : n < 2 ^ 31) : f_X10_isStart x y (nI n) = some (bI (inb x n && inb y 24)) := by
  unfold f_X10_isStart
  rw [p_has x h, p_isStance]
  simp only [Option.bind_some, bI_0]
  cases inb x n <;> cases inb y 24 <;> rfl
theorem p_nine (o : Option Nat) (h : ∀ q, o = some q → q < 2 ^ 31) : f_X10_noneIfNowhere (en o) = some (en9 o) := by
  unfold f_X10_noneIfNowhere
  cases o with
  | none => rfl
  | some q => rw [if_neg (show ¬ en (some q) = -1 from nI_m1 (h q rfl))]; rfl
theorem s_roll (N : Nat) (hN : NB ≤ N) {size : Int32} {on : Int32} {kinds : Nat → Int32} {marks : Nat → Int32} {nb : Nat → Int32} {plen : Int32} {rowW : Nat → Int32} {rowS : Nat → Int32} {wide : Int32} {tall : Int32} {groups : Int32} {rowMany : Int32} {top : Nat → Int32} {east : Nat → Int32} {south : Nat → Int32} {rolled : Nat → Int32} {kind : Nat → Int32} {mark : Nat → Int32} {rowWay : Nat → Int32} {rowSeen : Nat → Int32} (hR : Rl size on kinds marks nb plen rowW rowS wide tall groups rowMany top east south rolled kind mark rowWay rowSeen) (y1 : Int32) (y2 : Int32) (y3 : Int32) : ∃ (r : Int32), f_X10_roll y1 y2 y3 size on kinds marks nb = some r ∧ f_X11_roll y1 y2 y3 wide tall groups top rolled kind mark = some r ∧ Rl size on kinds marks nb plen rowW rowS wide tall groups rowMany top east south rolled kind mark rowWay rowSeen := by
  obtain ⟨w, h, g, n, K, M, rw_, rs, hB, hC, hM⟩ := id hR
  obtain ⟨b1, b2, b3, b4, b5, b6, b7, b8, b9, b10⟩ := id hB
  obtain ⟨rfl, rfl, c3, c4, c5, rfl, c7, c8⟩ := id hC
  obtain ⟨rfl, rfl, rfl, rfl, m5, m6, m7, m8, m9, m10⟩ := id hM
  have w1 := wh25 b2 b4
  have w2 := wh4 b1 b3
  have hNB : 1000000000000 ≤ N := hN
  unfold f_X10_roll f_X11_roll
  rw [p_isStart y1 y2 (by omega), m_isCell y1 (by omega) (by omega), m_isStance, p_isWay, m_isWay]
  simp only [Option.bind_some, bI_0]
  cases hb : inb y1 (w * h) with
  | false => exact ⟨-1, rfl, rfl, hR⟩
  | true =>
    obtain ⟨c, hc, rfl⟩ := inb_of hb (by omega)
    cases hb2 : inb y2 24 with
    | false => exact ⟨-1, rfl, rfl, hR⟩
    | true =>
      obtain ⟨s, hs, rfl⟩ := inb_of hb2 (by omega)
      cases hb3 : inb y3 4 with
      | false => exact ⟨-2, rfl, rfl, hR⟩
      | true =>
        obtain ⟨d, hd, rfl⟩ := inb_of hb3 (by omega)
        unfold f_X4_at
        simp only [Bool.and_self, Bool.true_eq_false, if_false, Option.bind_some, at24, p_after hB hC (show 24 * c + s < 24 * (w * h) by omega) hd, m_rollOf hB hM (show 24 * c + s < 24 * (w * h) by omega) hd]
        rw [p_nine _ (fun q hq => by have := rl_lt b1 b2 b3 b4 (show 24 * c + s < 24 * (w * h) by omega) hd hq; omega)]
        exact ⟨_, rfl, rfl, hR⟩
