/-! loops that count; stance, row, cell, board, the start -/
theorem lp_run {α β : Type} {b : (α → Option β) → α → Option β} (st : Nat → α) (m : Nat) {fin : β} (hs : ∀ i, i < m → ∀ rec, b rec (st i) = rec (st (i + 1))) (he : ∀ rec, b rec (st m) = some fin) : ∀ N, m < N → nx_lp b N (st 0) = some fin := by
  have key : ∀ k i, i + k = m → ∀ N, k < N → nx_lp b N (st i) = some fin := by
    intro k
    induction k with
    | zero =>
      intro i hi N hN
      obtain ⟨N, rfl⟩ : ∃ N', N = N' + 1 := ⟨N - 1, by omega⟩
      rw [show i = m by omega]
      exact he _
    | succ k ih =>
      intro i hi N hN
      obtain ⟨N, rfl⟩ : ∃ N', N = N' + 1 := ⟨N - 1, by omega⟩
      show b (nx_lp b N) (st i) = some fin
      rw [hs i (by omega)]
      exact ih (i + 1) (by omega) N (by omega)
  intro N hN
  exact key m 0 (by omega) N hN
def fnd (t e : Nat) : Nat := (List.range 24).findIdx (fun s => tp s == t && ea s == e)
theorem fnd_1 : ∀ t, t < 7 → ∀ e, e < 7 → fnd t e ≤ 24 := by decide +kernel
theorem fnd_2b : ∀ t, t < 7 → ∀ e, e < 7 → (List.range 24).all (fun s => decide (s < fnd t e → ¬ (tp s = t ∧ ea s = e))) = true := by decide +kernel
theorem fnd_3 : ∀ t, t < 7 → ∀ e, e < 7 → fnd t e < 24 → tp (fnd t e) = t ∧ ea (fnd t e) = e := by decide +kernel
theorem fnd_k : ∀ t, t < 7 → ∀ e, e < 7 → fnd t e ≤ 24 ∧ (∀ s, s < 24 → s < fnd t e → ¬ (tp s = t ∧ ea s = e)) ∧ (fnd t e < 24 → tp (fnd t e) = t ∧ ea (fnd t e) = e) := fun t ht e he => ⟨fnd_1 t ht e he, fun s hs => of_decide_eq_true (List.all_eq_true.mp (fnd_2b t ht e he) s (List.mem_range.mpr hs)), fnd_3 t ht e he⟩
theorem tp_b : ∀ s, s < 24 → tp s < 7 ∧ 0 < tp s ∧ ea s < 7 ∧ so s < 7 := by decide +kernel
theorem m_stanceOf {t e N : Nat} {top east : Nat → Int32} (ht : t < 7) (he : e < 7) (hT : ∀ s, s < 24 → top s = nI (tp s) ∧ east s = nI (ea s)) (hN : 24 < N) : f_X11_stanceOf N (nI t) (nI e) top east = some (if fnd t e < 24 then nI (fnd t e) else -9) := by
  obtain ⟨k1, k2, k3⟩ := fnd_k t ht e he
  unfold f_X11_stanceOf
  have hl : f_X11_stanceOf_l2 (nI t) (nI e) top east N 0 = some (if fnd t e < 24 then .inl (nI (fnd t e)) else .inr ()) := by
    refine lp_run (fun i => nI i) (fnd t e) (fun i hi rec => ?_) (fun rec => ?_) N (by omega)
    · show f_X11_stanceOf_b2 (nI t) (nI e) top east rec (nI i) = rec (nI (i + 1))
      unfold f_X11_stanceOf_b2
      have hi24 : i < 24 := by omega
      obtain ⟨q1, q2⟩ := hT i hi24
      obtain ⟨p1, -, p3, -⟩ := tp_b i hi24
      rw [if_neg (show ¬ (24 : Int32) ≤ nI i from nI_ge hi24 (by decide)), rdn hi24 (by decide), Option.bind_some, cln (by omega), q1]
      by_cases h1 : tp i = t
      · rw [if_pos (by rw [h1]), rdn hi24 (by decide), Option.bind_some, q2, if_neg (fun z => k2 i hi24 hi ⟨h1, (nI_eq (by omega) (by omega)).mp z⟩), nI_1]
      · rw [if_neg (fun z => h1 ((nI_eq (by omega) (by omega)).mp z)), nI_1]
    · show f_X11_stanceOf_b2 (nI t) (nI e) top east rec (nI (fnd t e)) = _
      unfold f_X11_stanceOf_b2
      by_cases hf : fnd t e < 24
      · obtain ⟨q1, q2⟩ := hT _ hf
        obtain ⟨r1, r2⟩ := k3 hf
        rw [if_neg (show ¬ (24 : Int32) ≤ nI (fnd t e) from nI_ge hf (by decide)), rdn hf (by decide), Option.bind_some, cln (by omega), q1, r1, if_pos rfl, rdn hf (by decide), Option.bind_some, q2, r2, if_pos rfl, if_pos hf]
      · rw [if_pos (show (24 : Int32) ≤ nI (fnd t e) from nI_le (a := 24) (Nat.not_lt.mp hf) (by omega)), if_neg hf]
  rw [hl, Option.bind_some]
  by_cases hf : fnd t e < 24
  · rw [if_pos hf, if_pos hf]; rfl
  · rw [if_neg hf, if_neg hf]; rfl
theorem st_k : ∀ t, t < 7 → ∀ e, e < 7 → 1 ≤ t → 1 ≤ e → (if nI e = nI t then some (-9 : Int32) else (if nI e = 7 - nI t then some (-9) else ((f_X3_numbered (nI t) (nI e)).bind fun r_6 => some r_6))) = some (if fnd t e < 24 then nI (fnd t e) else -9) := by decide +kernel
theorem s_stance (N : Nat) (hN : NB ≤ N) {size : Int32} {on : Int32} {kinds : Nat → Int32} {marks : Nat → Int32} {nb : Nat → Int32} {plen : Int32} {rowW : Nat → Int32} {rowS : Nat → Int32} {wide : Int32} {tall : Int32} {groups : Int32} {rowMany : Int32} {top : Nat → Int32} {east : Nat → Int32} {south : Nat → Int32} {rolled : Nat → Int32} {kind : Nat → Int32} {mark : Nat → Int32} {rowWay : Nat → Int32} {rowSeen : Nat → Int32} (hR : Rl size on kinds marks nb plen rowW rowS wide tall groups rowMany top east south rolled kind mark rowWay rowSeen) (y1 : Int32) (y2 : Int32) : ∃ (r : Int32), f_X10_stance y1 y2 = some r ∧ f_X11_stance N y1 y2 top east = some r ∧ Rl size on kinds marks nb plen rowW rowS wide tall groups rowMany top east south rolled kind mark rowWay rowSeen := by
  obtain ⟨w, h, g, n, K, M, rw_, rs, hB, hC, hM⟩ := id hR
  obtain ⟨b1, b2, b3, b4, b5, b6, b7, b8, b9, b10⟩ := id hB
  obtain ⟨rfl, rfl, c3, c4, c5, rfl, c7, c8⟩ := id hC
  obtain ⟨rfl, rfl, rfl, rfl, m5, m6, m7, m8, m9, m10⟩ := id hM
  have w1 := wh25 b2 b4
  have w2 := wh4 b1 b3
  have hNB : 1000000000000 ≤ N := hN
  unfold f_X10_stance f_X11_stance
  rw [p_isFace, p_isFace, m_inr (m := 1) (n := 6) rfl rfl, m_inr (m := 1) (n := 6) rfl rfl]
  simp only [Option.bind_some, bI_0]
  cases hb : inr y1 1 6 with
  | false => exact ⟨-2, rfl, rfl, hR⟩
  | true =>
    obtain ⟨t, t1, t2, rfl⟩ := inr_of hb (by decide)
    cases hb2 : inr y2 1 6 with
    | false => exact ⟨-2, rfl, rfl, hR⟩
    | true =>
      obtain ⟨e, e1, e2, rfl⟩ := inr_of hb2 (by decide)
      simp only [Bool.true_eq_false, if_false]
      rw [st_k t (by omega) e (by omega) t1 e1, m_stanceOf (by omega) (by omega) (fun s hs => ⟨(m5 s hs).1, (m5 s hs).2.1⟩) (by omega)]
      exact ⟨_, rfl, rfl, hR⟩
theorem updn {f : Nat → Int32} {k : Nat} {x : Int32} {j : Nat} : upd f k x j = if j = k then x else f j := rfl
theorem s_row (N : Nat) (hN : NB ≤ N) {size : Int32} {on : Int32} {kinds : Nat → Int32} {marks : Nat → Int32} {nb : Nat → Int32} {plen : Int32} {rowW : Nat → Int32} {rowS : Nat → Int32} {wide : Int32} {tall : Int32} {groups : Int32} {rowMany : Int32} {top : Nat → Int32} {east : Nat → Int32} {south : Nat → Int32} {rolled : Nat → Int32} {kind : Nat → Int32} {mark : Nat → Int32} {rowWay : Nat → Int32} {rowSeen : Nat → Int32} (hR : Rl size on kinds marks nb plen rowW rowS wide tall groups rowMany top east south rolled kind mark rowWay rowSeen) (y1 : Int32) (y2 : Int32) : ∃ (r : Int32) (oc : Int32 × (Nat → Int32) × (Nat → Int32)) (om : Int32 × (Nat → Int32) × (Nat → Int32)), f_X10_row y1 y2 plen rowW rowS = some (r, oc) ∧ f_X11_row y1 y2 rowMany rowWay rowSeen = some (r, om) ∧ Rl size on kinds marks nb oc.1 oc.2.1 oc.2.2 wide tall groups om.1 top east south rolled kind mark om.2.1 om.2.2 := by
  obtain ⟨w, h, g, n, K, M, rw_, rs, hB, hC, hM⟩ := id hR
  obtain ⟨b1, b2, b3, b4, b5, b6, b7, b8, b9, b10⟩ := id hB
  obtain ⟨rfl, rfl, c3, c4, c5, rfl, c7, c8⟩ := id hC
  obtain ⟨rfl, rfl, rfl, rfl, m5, m6, m7, m8, m9, m10⟩ := id hM
  have w1 := wh25 b2 b4
  have w2 := wh4 b1 b3
  have hNB : 1000000000000 ≤ N := hN
  unfold f_X10_row f_X11_row
  rw [p_isWay, m_isWay, m_inr (m := 0) (n := 6) rfl rfl]
  simp only [Option.bind_some, bI_0]
  cases hb : inb y1 4 with
  | false => exact ⟨-2, _, _, rfl, rfl, hR⟩
  | true =>
    obtain ⟨d, hd, rfl⟩ := inb_of hb (by decide)
    simp only [Bool.true_eq_false, if_false]
    cases hb2 : inr y2 0 6 with
    | false =>
      have h1 := of_decide_eq_false hb2
      refine ⟨-2, (nI n, rowW, rowS), (nI n, rowWay, rowSeen), ?_, if_pos rfl, hR⟩
      simp only [Int32.lt_iff_toInt_lt, Int32.le_iff_toInt_le]
      by_cases h2 : y2.toInt < (0 : Int32).toInt
      · rw [if_pos h2]
      · have e0 : (0 : Int32).toInt = 0 := rfl
        have e6 : (6 : Int32).toInt = 6 := rfl
        rw [if_neg h2, if_neg (by omega)]
    | true =>
      obtain ⟨v, v1, v2, rfl⟩ := inr_of hb2 (by decide)
      rw [if_neg (nI_pos (by omega)), if_pos (show nI v ≤ 6 from nI_le v2 (by decide)), if_neg (by decide)]
      unfold f_X7_length
      rw [Option.bind_some]
      by_cases hn : n = 20
      · subst hn
        exact ⟨-4, _, _, rfl, rfl, hR⟩
      · have hn2 : n < 20 := by omega
        rw [if_pos (show nI n < 20 from nI_lt hn2 (by decide)), if_neg (show ¬ nI n = 20 from fun z => hn ((nI_eq (b := 20) (by omega) (by decide)).mp z))]
        unfold f_X7_append f_X7_append_j39
        rw [if_neg (show ¬ 20 ≤ nI n from nI_ge hn2 (by decide)), ckn hn2 (by decide)]
        simp only [Option.bind_some, cln (show n < 2 ^ 31 by omega), nI_1]
        refine ⟨_, _, _, rfl, rfl, ?_⟩
        refine ⟨w, h, g, n + 1, K, M, fun i => if i = n then d else rw_ i, fun i => if i = n then v else rs i, ⟨b1, b2, b3, b4, b5, by omega, b7, b8, fun i => ?_, fun i => ?_⟩, ⟨rfl, rfl, c3, c4, c5, rfl, fun i hi => ?_, fun i hi => ?_⟩, ⟨rfl, rfl, rfl, rfl, m5, m6, m7, m8, fun i hi => ?_, fun i hi => ?_⟩⟩
        · by_cases e : i = n
          · simp only [if_pos e]; exact hd
          · simp only [if_neg e]; exact b9 i
        · by_cases e : i = n
          · simp only [if_pos e]; exact v2
          · simp only [if_neg e]; exact b10 i
        · show upd rowW n (nI d) i = _
          by_cases e : i = n
          · simp only [updn, if_pos e]
          · simp only [updn, if_neg e]; exact c7 i (by omega)
        · show upd rowS n (nI v) i = _
          by_cases e : i = n
          · simp only [updn, if_pos e]
          · simp only [updn, if_neg e]; exact c8 i (by omega)
        · show upd rowWay n (nI d) i = _
          by_cases e : i = n
          · simp only [updn, if_pos e]
          · simp only [updn, if_neg e]; exact m9 i (by omega)
        · show upd rowSeen n (nI v) i = _
          by_cases e : i = n
          · simp only [updn, if_pos e]
          · simp only [updn, if_neg e]; exact m10 i (by omega)
theorem p_kindOf {n c : Nat} {kinds : Nat → Int32} (hc : c < n) (hn : n ≤ 25) : f_X2_kindOf (nI c) (nI n) kinds = some (kinds c) := by
  unfold f_X2_kindOf
  rw [if_neg (nI_pos (by omega)), if_neg (nI_ge hc (by omega)), rdn (by omega) (by decide), Option.bind_some, cln (by omega)]
theorem p_markOf {n c : Nat} {kinds : Nat → Int32} (hc : c < n) (hn : n ≤ 25) : f_X2_markOf (nI c) (nI n) kinds = some (kinds c) := by
  unfold f_X2_markOf
  rw [if_neg (nI_pos (by omega)), if_neg (nI_ge hc (by omega)), rdn (by omega) (by decide), Option.bind_some, cln (by omega)]
theorem p_changeKind {n c : Nat} {x : Int32} {kinds : Nat → Int32} (hc : c < n) (hn : n ≤ 25) : f_X2_changeKind (nI c) x (nI n) kinds = some (kinds c, upd kinds c x) := by
  unfold f_X2_changeKind
  rw [p_kindOf hc hn, p_has _ (by omega), inb_n hc (by omega), Option.bind_some, Option.bind_some, if_neg (by decide), ckn (by omega) (by decide), Option.bind_some, cln (by omega)]
theorem p_changeMark {n c : Nat} {x : Int32} {kinds : Nat → Int32} (hc : c < n) (hn : n ≤ 25) : f_X2_changeMark (nI c) x (nI n) kinds = some (kinds c, upd kinds c x) := by
  unfold f_X2_changeMark
  rw [p_markOf hc hn, p_has _ (by omega), inb_n hc (by omega), Option.bind_some, Option.bind_some, if_neg (by decide), ckn (by omega) (by decide), Option.bind_some, cln (by omega)]
theorem upd_nI {f : Nat → Int32} {F : Nat → Nat} {c v : Nat} (hf : ∀ i, i < 25 → f i = nI (F i)) : ∀ i, i < 25 → upd f c (nI v) i = nI (if i = c then v else F i) := fun i hi => by
  by_cases e : i = c
  · simp only [updn, if_pos e]
  · simp only [updn, if_neg e]; exact hf i hi
theorem upd_id {f : Nat → Int32} {c : Nat} : upd f c (f c) = f := by
  funext j
  by_cases e : j = c
  · rw [updn, if_pos e, e]
  · rw [updn, if_neg e]
theorem p_not {x : Int32} {n : Nat} {l : Int32} (hl : l.toInt = n) (h : inr x 0 n = false) {α : Type} {A B : α} : (if x < 0 then A else (if l < x then A else B)) = A := by
  have h1 := of_decide_eq_false h
  simp only [Int32.lt_iff_toInt_lt, hl]
  by_cases h2 : x.toInt < (0 : Int32).toInt
  · rw [if_pos h2]
  · have e0 : (0 : Int32).toInt = 0 := rfl
    rw [if_neg h2, if_pos (by omega)]
theorem p_yes {v n : Nat} {l : Int32} (hl : l = nI n) (hn : n < 2 ^ 31) (h : v ≤ n) {α : Type} {A B C : α} : (if nI v < 0 then A else (if l < nI v then B else C)) = C := by
  rw [if_neg (nI_pos (by omega)), hl, if_neg (fun z => absurd h (Nat.not_le.mpr ((nI_ltI (by omega) (by omega)).mp z)))]
theorem s_cell (N : Nat) (hN : NB ≤ N) {size : Int32} {on : Int32} {kinds : Nat → Int32} {marks : Nat → Int32} {nb : Nat → Int32} {plen : Int32} {rowW : Nat → Int32} {rowS : Nat → Int32} {wide : Int32} {tall : Int32} {groups : Int32} {rowMany : Int32} {top : Nat → Int32} {east : Nat → Int32} {south : Nat → Int32} {rolled : Nat → Int32} {kind : Nat → Int32} {mark : Nat → Int32} {rowWay : Nat → Int32} {rowSeen : Nat → Int32} (hR : Rl size on kinds marks nb plen rowW rowS wide tall groups rowMany top east south rolled kind mark rowWay rowSeen) (y1 : Int32) (y2 : Int32) (y3 : Int32) : ∃ (r : Int32) (oc : (Nat → Int32) × (Nat → Int32)) (om : (Nat → Int32) × (Nat → Int32)), f_X10_cell y1 y2 y3 size kinds marks = some (r, oc) ∧ f_X11_cell y1 y2 y3 wide tall kind mark = some (r, om) ∧ Rl size on oc.1 oc.2 nb plen rowW rowS wide tall groups rowMany top east south rolled om.1 om.2 rowWay rowSeen := by
  obtain ⟨w, h, g, n, K, M, rw_, rs, hB, hC, hM⟩ := id hR
  obtain ⟨b1, b2, b3, b4, b5, b6, b7, b8, b9, b10⟩ := id hB
  obtain ⟨rfl, rfl, c3, c4, c5, rfl, c7, c8⟩ := id hC
  obtain ⟨rfl, rfl, rfl, rfl, m5, m6, m7, m8, m9, m10⟩ := id hM
  have w1 := wh25 b2 b4
  have w2 := wh4 b1 b3
  have hNB : 1000000000000 ≤ N := hN
  unfold f_X10_cell f_X11_cell
  rw [p_has y1 (by omega), m_isCell y1 (by omega) (by omega)]
  simp only [Option.bind_some, bI_0]
  cases hb : inb y1 (w * h) with
  | false => exact ⟨-1, _, _, rfl, rfl, hR⟩
  | true =>
    obtain ⟨c, hc, rfl⟩ := inb_of hb (by omega)
    simp only [Bool.true_eq_false, if_false]
    have hc25 : c < 25 := by omega
    have cl := cln (show c < 2 ^ 31 by omega)
    have kk : ∀ v : Nat, v ≤ 8 → Rl (nI (w * h)) (nI g) (upd kinds c (nI v)) marks nb (nI n) rowW rowS (nI w) (nI h) (nI g) (nI n) top east south rolled (upd kind c (nI v)) mark rowWay rowSeen := fun v hv =>
      ⟨w, h, g, n, fun i => if i = c then v else K i, M, rw_, rs, ⟨b1, b2, b3, b4, b5, b6, fun i => by by_cases e : i = c <;> simp [e, hv, b7], b8, b9, b10⟩, ⟨rfl, rfl, upd_nI c3, c4, c5, rfl, c7, c8⟩, ⟨rfl, rfl, rfl, rfl, m5, m6, upd_nI m7, m8, m9, m10⟩⟩
    have km : ∀ v : Nat, v ≤ 6 → Rl (nI (w * h)) (nI g) kinds (upd marks c (nI v)) nb (nI n) rowW rowS (nI w) (nI h) (nI g) (nI n) top east south rolled kind (upd mark c (nI v)) rowWay rowSeen := fun v hv =>
      ⟨w, h, g, n, K, fun i => if i = c then v else M i, rw_, rs, ⟨b1, b2, b3, b4, b5, b6, b7, fun i => by by_cases e : i = c <;> simp [e, hv, b8], b9, b10⟩, ⟨rfl, rfl, c3, upd_nI c4, c5, rfl, c7, c8⟩, ⟨rfl, rfl, rfl, rfl, m5, m6, m7, upd_nI m8, m9, m10⟩⟩
    unfold f_X10_cell_j37 f_X11_cell_j26 f_X11_cell_j46 f_X11_cell_j65 f_X11_cell_j86 f_X11_cell_j107
    simp only [m_inr (x := y3) (a := 0) (b := 8) (m := 0) (n := 8) rfl rfl, m_inr (x := y3) (a := 0) (b := 6) (m := 0) (n := 6) rfl rfl, Option.bind_some, bI_0, p_changeKind hc w1, p_changeMark hc w1, rdn hc25 (show 25 < 2 ^ 31 by decide), ckn hc25 (show 25 < 2 ^ 31 by decide), cl, upd_id]
    by_cases h0 : y2 = 0
    · subst h0
      simp only [if_true, show ¬ ((0 : Int32) = 1) by decide, if_false]
      cases hb2 : inr y3 0 8 with
      | false =>
        rw [p_not (l := 8) (n := 8) rfl hb2]
        exact ⟨-2, _, _, rfl, rfl, hR⟩
      | true =>
        obtain ⟨v, v1, v2, rfl⟩ := inr_of hb2 (by decide)
        rw [p_yes (l := 8) (n := 8) rfl (by decide) v2, c3 c hc25, m7 c hc25]
        exact ⟨_, _, _, rfl, rfl, kk v v2⟩
    · by_cases h1 : y2 = 1
      · subst h1
        simp only [if_true, show ¬ ((1 : Int32) = 0) by decide, if_false]
        cases hb2 : inr y3 0 6 with
        | false =>
          rw [p_not (l := 6) (n := 6) rfl hb2]
          exact ⟨-2, _, _, rfl, rfl, hR⟩
        | true =>
          obtain ⟨v, v1, v2, rfl⟩ := inr_of hb2 (by decide)
          rw [p_yes (l := 6) (n := 6) rfl (by decide) v2, c4 c hc25, m8 c hc25]
          exact ⟨_, _, _, rfl, rfl, km v v2⟩
      · simp only [if_neg h0, if_neg h1]
        exact ⟨-2, _, _, rfl, rfl, hR⟩
/-- rows that are filled -/
def fil (v : Int32) (n : Nat) (f : Nat → Int32) : Nat → Int32 := fun j => if j < n then v else f j
theorem fil_0 (v : Int32) (f : Nat → Int32) : fil v 0 f = f := by funext j; exact if_neg (Nat.not_lt_zero j)
theorem fil_s (v : Int32) (n : Nat) (f : Nat → Int32) : upd (fil v n f) n v = fil v (n + 1) f := by
  funext j
  show (if j = n then v else if j < n then v else f j) = if j < n + 1 then v else f j
  by_cases h : j < n
  · rw [if_neg (show ¬ j = n by omega), if_pos h, if_pos (by omega)]
  · rw [if_neg h]
    by_cases e : j = n
    · rw [if_pos e, if_pos (by omega)]
    · rw [if_neg e, if_neg (by omega)]
theorem p_fill2 {N : Nat} {v : Int32} {f : Nat → Int32} (hN : 25 < N) : f_J7_fill_53178_r2 N v f = some (fil v 25 f) := by
  unfold f_J7_fill_53178_r2
  have hl : f_J7_fill_53178_r2_l5 v 25 N (0, f) = some (fil v 25 f) := by
    have := lp_run (b := fun rec z => f_J7_fill_53178_r2_b5 v 25 rec z.1 z.2) (fun i => (nI i, fil v i f)) 25 (fin := fil v 25 f) (fun i hi rec => ?_) (fun rec => rfl) N hN
    · rw [fil_0] at this; exact this
    · show f_J7_fill_53178_r2_b5 v 25 rec (nI i) (fil v i f) = _
      unfold f_J7_fill_53178_r2_b5
      rw [if_neg (show ¬ (25 : Int32) ≤ nI i from nI_ge hi (by decide)), ckn hi (by decide), Option.bind_some, cln (by omega), nI_1, fil_s]
  rw [hl]; rfl
theorem p_fill3 {N : Nat} {v : Int32} {f : Nat → Int32} (hN : 25 < N) : f_J7_fill_53178_r3 N v f = some (fil v 25 f) := by
  unfold f_J7_fill_53178_r3
  have hl : f_J7_fill_53178_r3_l5 v 25 N (0, f) = some (fil v 25 f) := by
    have := lp_run (b := fun rec z => f_J7_fill_53178_r3_b5 v 25 rec z.1 z.2) (fun i => (nI i, fil v i f)) 25 (fin := fil v 25 f) (fun i hi rec => ?_) (fun rec => rfl) N hN
    · rw [fil_0] at this; exact this
    · show f_J7_fill_53178_r3_b5 v 25 rec (nI i) (fil v i f) = _
      unfold f_J7_fill_53178_r3_b5
      rw [if_neg (show ¬ (25 : Int32) ≤ nI i from nI_ge hi (by decide)), ckn hi (by decide), Option.bind_some, cln (by omega), nI_1, fil_s]
  rw [hl]; rfl
/-- the neighbours of the first c cells laid -/
def nbq (w h c : Nat) (nb : Nat → Int32) : Nat → Int32 := fun j => if j < 4 * c then en (bes w h (j / 4) (j % 4)) else nb j
theorem nbq_0 (w h : Nat) (nb : Nat → Int32) : nbq w h 0 nb = nb := by funext j; exact if_neg (by omega)
theorem nbq_s {w h c : Nat} {nb : Nat → Int32} : upd (upd (upd (upd (nbq w h c nb) (c * 4) (en (bes w h c 0))) (c * 4 + 1) (en (bes w h c 1))) (c * 4 + 2) (en (bes w h c 2))) (c * 4 + 3) (en (bes w h c 3)) = nbq w h (c + 1) nb := by
  funext j
  simp only [updn, nbq]
  by_cases h3 : j = c * 4 + 3
  · rw [if_pos h3, if_pos (by omega), show j / 4 = c by omega, show j % 4 = 3 by omega]
  · rw [if_neg h3]
    by_cases h2 : j = c * 4 + 2
    · rw [if_pos h2, if_pos (by omega), show j / 4 = c by omega, show j % 4 = 2 by omega]
    · rw [if_neg h2]
      by_cases h1 : j = c * 4 + 1
      · rw [if_pos h1, if_pos (by omega), show j / 4 = c by omega, show j % 4 = 1 by omega]
      · rw [if_neg h1]
        by_cases h0 : j = c * 4
        · rw [if_pos h0, if_pos (by omega), show j / 4 = c by omega, show j % 4 = 0 by omega]
        · rw [if_neg h0]
          by_cases hl : j < 4 * c
          · rw [if_pos hl, if_pos (by omega)]
          · rw [if_neg hl, if_neg (by omega)]
theorem bes_at {w h x y : Nat} (hx : x < w) : (bes w h (y * w + x) 0 = if x + 1 < w then some (y * w + x + 1) else none) ∧ (bes w h (y * w + x) 1 = if y + 1 < h then some (y * w + x + w) else none) ∧ (bes w h (y * w + x) 2 = if 0 < x then some (y * w + x - 1) else none) ∧ (bes w h (y * w + x) 3 = if 0 < y then some (y * w + x - w) else none) := by
  have e1 : (y * w + x) % w = x := by rw [Nat.add_comm, Nat.add_mul_mod_self_right, Nat.mod_eq_of_lt hx]
  have e2 : (y * w + x) / w = y := by rw [Nat.add_comm, Nat.add_mul_div_right _ _ (by omega), Nat.div_eq_of_lt hx, Nat.zero_add]
  simp [bes, e1, e2]
theorem p_lay53 {w h y N : Nat} {nb : Nat → Int32} (hw : w ≤ 5) (hh : h ≤ 5) (hy : y < h) (hN : 25 < N) : f_X2_lay_l53 (nI w) (nI h) (nI y) N (0, nbq w h (y * w) nb) = some (nbq w h ((y + 1) * w) nb) := by
  have hyw : y * w ≤ 20 := Nat.le_trans (Nat.mul_le_mul (show y ≤ 4 by omega) hw) (by decide)
  have hwh : ∀ x, x < w → y * w + x < 25 := fun x hx => by omega
  have := lp_run (b := fun rec z => f_X2_lay_b53 (nI w) (nI h) (nI y) rec z.1 z.2) (fun x => (nI x, nbq w h (y * w + x) nb)) w (fin := nbq w h (y * w + w) nb) (fun x hx rec => ?_) (fun rec => ?_) N (by omega)
  · rw [Nat.succ_mul]; exact this
  · show f_X2_lay_b53 (nI w) (nI h) (nI y) rec (nI x) (nbq w h (y * w + x) nb) = _
    obtain ⟨q0, q1, q2, q3⟩ := bes_at (h := h) (y := y) hx
    have hc := hwh x hx
    have e5 : nI y * nI w + nI x = nI (y * w + x) := by rw [pk_mul, nI_add]
    have e4 : nI (y * w + x) * 4 = nI ((y * w + x) * 4) := pk_mul _ 4
    have k1 : nI ((y * w + x) * 4) + 1 = nI ((y * w + x) * 4 + 1) := nI_add _ 1
    have k2 : nI ((y * w + x) * 4) + 2 = nI ((y * w + x) * 4 + 2) := nI_add _ 2
    have k3 : nI ((y * w + x) * 4) + 3 = nI ((y * w + x) * 4 + 3) := nI_add _ 3
    have v0 : ∀ {α : Type} (F : Int32 → α), (if nI w ≤ nI x + 1 then F (-1) else F (nI (y * w + x) + 1)) = F (en (bes w h (y * w + x) 0)) := fun F => by
      rw [q0, nI_1, nI_1]
      by_cases z : x + 1 < w
      · rw [if_neg (nI_ge z (by omega)), if_pos z]; rfl
      · rw [if_pos (nI_le (by omega) (by omega)), if_neg z]; rfl
    have v1 : ∀ {α : Type} (F : Int32 → α), (if nI h ≤ nI y + 1 then F (-1) else F (nI (y * w + x) + nI w)) = F (en (bes w h (y * w + x) 1)) := fun F => by
      rw [q1, nI_1, nI_add]
      by_cases z : y + 1 < h
      · rw [if_neg (nI_ge z (by omega)), if_pos z]; rfl
      · rw [if_pos (nI_le (by omega) (by omega)), if_neg z]; rfl
    have v2 : ∀ {α : Type} (F : Int32 → α), (if nI x ≤ 0 then F (-1) else F (nI (y * w + x) - 1)) = F (en (bes w h (y * w + x) 2)) := fun F => by
      rw [q2]
      by_cases z : 0 < x
      · rw [if_neg (nI_nle z (by omega)), if_pos z]; exact congrArg F (pk_sub (b := 1) (by omega))
      · rw [if_pos (by rw [show x = 0 by omega]; decide), if_neg z]; rfl
    have v3 : ∀ {α : Type} (F : Int32 → α), (if nI y ≤ 0 then F (-1) else F (nI (y * w + x) - nI w)) = F (en (bes w h (y * w + x) 3)) := fun F => by
      rw [q3]
      by_cases z : 0 < y
      · rw [if_neg (nI_nle z (by omega)), if_pos z]; exact congrArg F (pk_sub (Nat.le_trans (Nat.le_mul_of_pos_left w z) (Nat.le_add_right _ _)))
      · rw [if_pos (by rw [show y = 0 by omega]; decide), if_neg z]; rfl
    generalize hcc : y * w + x = c at *
    have j3 : ∀ (z : Int32) (f : Nat → Int32), f_X2_lay_j164 rec (nI w) (nI h) (nI y) (nI x) z (nI c * 4 + 3) f = rec (nI (x + 1), upd f (c * 4 + 3) z) := fun z f => by
      unfold f_X2_lay_j164
      rw [e4, k3, ckn (show c * 4 + 3 < 100 by omega) (by decide), Option.bind_some, cln (by omega), nI_1]
    have j2 : ∀ (z : Int32) (f : Nat → Int32), f_X2_lay_j141 rec (nI w) (nI h) (nI y) (nI x) (nI c) z (nI c * 4 + 2) f = rec (nI (x + 1), upd (upd f (c * 4 + 2) z) (c * 4 + 3) (en (bes w h c 3))) := fun z f => by
      unfold f_X2_lay_j141
      rw [show nI c * 4 + 2 = nI (c * 4 + 2) by rw [e4, k2], ckn (show c * 4 + 2 < 100 by omega) (by decide), Option.bind_some, cln (by omega)]
      exact (v3 (fun q => f_X2_lay_j164 rec (nI w) (nI h) (nI y) (nI x) q (nI c * 4 + 3) (upd f (c * 4 + 2) z))).trans (j3 _ _)
    have j1 : ∀ (z : Int32) (f : Nat → Int32), f_X2_lay_j117 rec (nI w) (nI h) (nI y) (nI x) (nI c) z (nI c * 4 + 1) f = rec (nI (x + 1), upd (upd (upd f (c * 4 + 1) z) (c * 4 + 2) (en (bes w h c 2))) (c * 4 + 3) (en (bes w h c 3))) := fun z f => by
      unfold f_X2_lay_j117
      rw [show nI c * 4 + 1 = nI (c * 4 + 1) by rw [e4, k1], ckn (show c * 4 + 1 < 100 by omega) (by decide), Option.bind_some, cln (by omega)]
      exact (v2 (fun q => f_X2_lay_j141 rec (nI w) (nI h) (nI y) (nI x) (nI c) q (nI c * 4 + 2) (upd f (c * 4 + 1) z))).trans (j2 _ _)
    have j0 : ∀ (z : Int32) (f : Nat → Int32), f_X2_lay_j91 rec (nI w) (nI h) (nI y) (nI x) (nI c) z (nI c * 4) f = rec (nI (x + 1), upd (upd (upd (upd f (c * 4) z) (c * 4 + 1) (en (bes w h c 1))) (c * 4 + 2) (en (bes w h c 2))) (c * 4 + 3) (en (bes w h c 3))) := fun z f => by
      unfold f_X2_lay_j91
      rw [show nI c * 4 = nI (c * 4) from e4, ckn (show c * 4 < 100 by omega) (by decide), Option.bind_some, cln (by omega), ← e4]
      exact (v1 (fun q => f_X2_lay_j117 rec (nI w) (nI h) (nI y) (nI x) (nI c) q (nI c * 4 + 1) (upd f (c * 4) z))).trans (j1 _ _)
    unfold f_X2_lay_b53
    rw [if_neg (nI_ge hx (by omega)), e5]
    refine (v0 (fun q => f_X2_lay_j91 rec (nI w) (nI h) (nI y) (nI x) (nI c) q (nI c * 4) (nbq w h c nb))).trans ((j0 _ _).trans ?_)
    rw [nbq_s, ← hcc]
    rfl
  · show f_X2_lay_b53 (nI w) (nI h) (nI y) rec (nI w) _ = _
    unfold f_X2_lay_b53
    rw [if_pos (Int32.le_refl _)]
theorem p_lay45 {w h N : Nat} {nb : Nat → Int32} (hw : w ≤ 5) (hh : h ≤ 5) (hN : 25 < N) : f_X2_lay_l45 N (nI w) (nI h) N (0, nb) = some (nbq w h (w * h) nb) := by
  have := lp_run (b := fun rec z => f_X2_lay_b45 N (nI w) (nI h) rec z.1 z.2) (fun y => (nI y, nbq w h (y * w) nb)) h (fin := nbq w h (h * w) nb) (fun y hy rec => ?_) (fun rec => ?_) N (by omega)
  · rw [Nat.zero_mul, nbq_0] at this; rw [Nat.mul_comm w h]; exact this
  · show f_X2_lay_b45 N (nI w) (nI h) rec (nI y) (nbq w h (y * w) nb) = _
    unfold f_X2_lay_b45
    rw [if_neg (nI_ge hy (by omega)), p_lay53 hw hh hy hN, Option.bind_some, nI_1]
  · show f_X2_lay_b45 N (nI w) (nI h) rec (nI h) _ = _
    unfold f_X2_lay_b45
    rw [if_pos (Int32.le_refl _)]
theorem m_board48 {N : Nat} {x1 x2 : Int32} {kind mark : Nat → Int32} (hN : 25 < N) : f_X11_board_l48 x1 x2 N (0, kind, mark) = some (fil 0 25 kind, fil 0 25 mark) := by
  have := lp_run (b := fun rec z => f_X11_board_b48 x1 x2 rec z.1 z.2.1 z.2.2) (fun i => (nI i, fil 0 i kind, fil 0 i mark)) 25 (fin := (fil 0 25 kind, fil 0 25 mark)) (fun i hi rec => ?_) (fun rec => rfl) N hN
  · rw [fil_0, fil_0] at this; exact this
  · show f_X11_board_b48 x1 x2 rec (nI i) (fil 0 i kind) (fil 0 i mark) = _
    unfold f_X11_board_b48
    rw [if_neg (show ¬ (25 : Int32) ≤ nI i from nI_ge hi (by decide)), ckn hi (by decide), Option.bind_some, Option.bind_some, cln (by omega), nI_1, fil_s, fil_s]
theorem fil_lt {v : Int32} {n : Nat} {f : Nat → Int32} {j : Nat} (h : j < n) : fil v n f j = v := if_pos h
theorem s_board (N : Nat) (hN : NB ≤ N) {size : Int32} {on : Int32} {kinds : Nat → Int32} {marks : Nat → Int32} {nb : Nat → Int32} {plen : Int32} {rowW : Nat → Int32} {rowS : Nat → Int32} {wide : Int32} {tall : Int32} {groups : Int32} {rowMany : Int32} {top : Nat → Int32} {east : Nat → Int32} {south : Nat → Int32} {rolled : Nat → Int32} {kind : Nat → Int32} {mark : Nat → Int32} {rowWay : Nat → Int32} {rowSeen : Nat → Int32} (hR : Rl size on kinds marks nb plen rowW rowS wide tall groups rowMany top east south rolled kind mark rowWay rowSeen) (y1 : Int32) (y2 : Int32) : ∃ (r : Int32) (oc : Int32 × Int32 × (Nat → Int32) × (Nat → Int32) × (Nat → Int32)) (om : Int32 × Int32 × Int32 × (Nat → Int32) × (Nat → Int32)), f_X10_board N y1 y2 size on kinds marks nb = some (r, oc) ∧ f_X11_board N y1 y2 wide tall groups kind mark = some (r, om) ∧ Rl oc.1 oc.2.1 oc.2.2.1 oc.2.2.2.1 oc.2.2.2.2 plen rowW rowS om.1 om.2.1 om.2.2.1 rowMany top east south rolled om.2.2.2.1 om.2.2.2.2 rowWay rowSeen := by
  obtain ⟨w, h, g, n, K, M, rw_, rs, hB, hC, hM⟩ := id hR
  obtain ⟨b1, b2, b3, b4, b5, b6, b7, b8, b9, b10⟩ := id hB
  obtain ⟨rfl, rfl, c3, c4, c5, rfl, c7, c8⟩ := id hC
  obtain ⟨rfl, rfl, rfl, rfl, m5, m6, m7, m8, m9, m10⟩ := id hM
  have w1 := wh25 b2 b4
  have w2 := wh4 b1 b3
  have hNB : 1000000000000 ≤ N := hN
  unfold f_X10_board f_X11_board
  rw [p_isSide, p_isSide, m_inr (m := 2) (n := 5) rfl rfl, m_inr (m := 2) (n := 5) rfl rfl]
  simp only [Option.bind_some, bI_0]
  cases hb : inr y1 2 5 with
  | false => exact ⟨-2, _, _, rfl, rfl, hR⟩
  | true =>
    obtain ⟨w', u1, u2, rfl⟩ := inr_of hb (by decide)
    cases hb2 : inr y2 2 5 with
    | false => exact ⟨-2, _, _, rfl, rfl, hR⟩
    | true =>
      obtain ⟨h', v1, v2, rfl⟩ := inr_of hb2 (by decide)
      have hN25 : 25 < N := by omega
      simp only [Bool.true_eq_false, if_false]
      unfold f_X2_lay f_X2_size
      rw [p_isSide, p_isSide, hb, hb2]
      simp only [Option.bind_some, bI_0, Bool.true_eq_false, if_false, p_fill2 hN25, p_fill3 hN25, p_lay45 u2 v2 hN25, m_board48 hN25, pk_mul]
      refine ⟨_, _, _, rfl, rfl, ?_⟩
      refine ⟨w', h', 0, n, fun _ => 0, fun _ => 0, rw_, rs, ⟨u1, u2, v1, v2, by decide, b6, fun _ => Nat.zero_le _, fun _ => Nat.zero_le _, b9, b10⟩, ⟨rfl, rfl, fun c hc => fil_lt hc, fun c hc => fil_lt hc, fun c hc d hd => ?_, rfl, c7, c8⟩, ⟨rfl, rfl, rfl, rfl, m5, m6, fun c hc => fil_lt hc, fun c hc => fil_lt hc, m9, m10⟩⟩
      show nbq w' h' (w' * h') nb (4 * c + d) = _
      unfold nbq
      rw [if_pos (by omega), show (4 * c + d) / 4 = c by omega, show (4 * c + d) % 4 = d by omega]
