/-! which start fits, what is sure -/
def fst_ (p : Nat → Bool) (i : Int32) : Nat → Nat → Nat → Int32 ⊕ Unit
  | 0, _, _ => .inr ()
  | m + 1, k, c => if p k then (if nI c = i then .inl (nI k) else fst_ p i m (k + 1) (c + 1)) else fst_ p i m (k + 1) c
theorem fst_in (p : Nat → Bool) (i : Int32) : ∀ m k c x, fst_ p i m k c = .inl x → ∃ q, q < k + m ∧ x = nI q := by
  intro m
  induction m with
  | zero => intro k c x e; cases e
  | succ m ih =>
    intro k c x e
    unfold fst_ at e
    split at e
    · split at e
      · cases e; exact ⟨k, by omega, rfl⟩
      · obtain ⟨q, hq, e⟩ := ih _ _ _ e; exact ⟨q, by omega, e⟩
    · obtain ⟨q, hq, e⟩ := ih _ _ _ e; exact ⟨q, by omega, e⟩
theorem s_start (N : Nat) (hN : NB ≤ N) {size : Int32} {on : Int32} {kinds : Nat → Int32} {marks : Nat → Int32} {nb : Nat → Int32} {plen : Int32} {rowW : Nat → Int32} {rowS : Nat → Int32} {wide : Int32} {tall : Int32} {groups : Int32} {rowMany : Int32} {top : Nat → Int32} {east : Nat → Int32} {south : Nat → Int32} {rolled : Nat → Int32} {kind : Nat → Int32} {mark : Nat → Int32} {rowWay : Nat → Int32} {rowSeen : Nat → Int32} (hR : Rl size on kinds marks nb plen rowW rowS wide tall groups rowMany top east south rolled kind mark rowWay rowSeen) (y1 : Int32) : ∃ (r : Int32), f_X10_start N y1 size on kinds marks nb plen rowW rowS = some r ∧ f_X11_start N y1 wide tall groups rowMany top rolled kind mark rowWay rowSeen = some r ∧ Rl size on kinds marks nb plen rowW rowS wide tall groups rowMany top east south rolled kind mark rowWay rowSeen := by
  obtain ⟨w, h, g, n, K, M, rw_, rs, hB, hC, hM⟩ := id hR
  obtain ⟨b1, b2, b3, b4, b5, b6, b7, b8, b9, b10⟩ := id hB
  obtain ⟨rfl, rfl, c3, c4, c5, rfl, c7, c8⟩ := id hC
  obtain ⟨rfl, rfl, rfl, rfl, m5, m6, m7, m8, m9, m10⟩ := id hM
  have w1 := wh25 b2 b4
  have w2 := wh4 b1 b3
  have hNB : 1000000000000 ≤ N := hN
  have hN20 : 20 < N := by omega
  let p : Nat → Bool := fun st => (bhd w h K M g rw_ rs n 0 st).isSome
  have h1 : f_X7_fittingAt_l4 N y1 (nI (w * h)) (nI g) kinds marks nb (nI n) rowW rowS N (0, 0) = some (fst_ p y1 (24 * (w * h)) 0 0) := by
    refine lp_rel (fun m x y => ∃ k c, k + m = 24 * (w * h) ∧ x = (nI c, nI k) ∧ y = fst_ p y1 m k c) ?_ N (24 * (w * h)) _ _ ⟨0, 0, by omega, rfl, rfl⟩ (by omega)
    rintro m x y ⟨k, c, hk, rfl, rfl⟩ rec ih
    show f_X7_fittingAt_b4 N y1 (nI (w * h)) (nI g) kinds marks nb (nI n) rowW rowS rec (nI c) (nI k) = _
    unfold f_X7_fittingAt_b4 f_X7_allStarts f_X2_size
    rw [Option.bind_some, Option.bind_some, al24]
    cases m with
    | zero => rw [if_pos (nI_le (by omega) (by omega))]; rfl
    | succ m =>
      have hi : k < 24 * (w * h) := by omega
      rw [if_neg (nI_ge hi (by omega)), p_endOf hB hC hN20 hi, Option.bind_some, nI_1, nI_1]
      unfold fst_
      cases hb : bhd w h K M g rw_ rs n 0 k with
      | none =>
        have hp : p k = false := by show Option.isSome _ = false; rw [hb]; rfl
        rw [hp, if_pos (show en none = -1 from rfl), if_neg (by decide)]
        exact ih m _ _ (by omega) ⟨k + 1, c, by omega, rfl, rfl⟩
      | some q =>
        have hp : p k = true := by show Option.isSome _ = true; rw [hb]; rfl
        rw [hp, if_neg (show ¬ en (some q) = -1 from nI_m1 (by have := bhd_lt hB _ _ _ _ hi hb; omega)), if_pos rfl]
        by_cases e : nI c = y1
        · rw [if_pos e, if_pos e]
        · rw [if_neg e, if_neg e]
          exact ih m _ _ (by omega) ⟨k + 1, c + 1, by omega, rfl, rfl⟩
  have h2 : f_X11_start_l4 N y1 (nI w) (nI h) (nI g) (nI n) top rolled kind mark rowWay rowSeen N (0, 0) = some (fst_ p y1 (24 * (w * h)) 0 0) := by
    refine lp_rel (fun m x y => ∃ k c, k + m = 24 * (w * h) ∧ x = (nI c, nI k) ∧ y = fst_ p y1 m k c) ?_ N (24 * (w * h)) _ _ ⟨0, 0, by omega, rfl, rfl⟩ (by omega)
    rintro m x y ⟨k, c, hk, rfl, rfl⟩ rec ih
    show f_X11_start_b4 N y1 (nI w) (nI h) (nI g) (nI n) top rolled kind mark rowWay rowSeen rec (nI c) (nI k) = _
    unfold f_X11_start_b4 f_X11_cells
    rw [Option.bind_some, pk_mul, al24]
    cases m with
    | zero => rw [if_pos (nI_le (by omega) (by omega))]; rfl
    | succ m =>
      have hi : k < 24 * (w * h) := by omega
      rw [if_neg (nI_ge hi (by omega)), m_behind hB hM hN20 hi, Option.bind_some, nI_1, nI_1]
      unfold fst_
      cases hb : bhd w h K M g rw_ rs n 0 k with
      | none =>
        have hp : p k = false := by show Option.isSome _ = false; rw [hb]; rfl
        rw [hp, if_pos (show en9 none = -9 from rfl), if_neg (by decide)]
        exact ih m _ _ (by omega) ⟨k + 1, c, by omega, rfl, rfl⟩
      | some q =>
        have hp : p k = true := by show Option.isSome _ = true; rw [hb]; rfl
        rw [hp, if_neg (show ¬ en9 (some q) = -9 from nI_m9 (by have := bhd_lt hB _ _ _ _ hi hb; omega)), if_pos rfl]
        by_cases e : nI c = y1
        · rw [if_pos e, if_pos e]
        · rw [if_neg e, if_neg e]
          exact ih m _ _ (by omega) ⟨k + 1, c + 1, by omega, rfl, rfl⟩
  unfold f_X10_start f_X7_fittingAt f_X11_start f_X10_noneIfNowhere
  rw [h1, h2, Option.bind_some, Option.bind_some]
  cases hf : fst_ p y1 (24 * (w * h)) 0 0 with
  | inr u => exact ⟨-9, rfl, rfl, hR⟩
  | inl x =>
    obtain ⟨q, hq, rfl⟩ := fst_in _ _ _ _ _ _ hf
    refine ⟨nI q, ?_, rfl, hR⟩
    show (Option.bind (some (nI q)) fun r_2 => Option.bind (if r_2 = -1 then some (-9) else some r_2) fun r_4 => some r_4) = _
    rw [Option.bind_some, if_neg (nI_m1 (by omega))]; rfl
def agr (b : Nat → Option Nat) (tv : Nat → Nat → Nat) : Nat → Nat → Option Nat → Int32 ⊕ Int32
  | 0, _, cur => .inr (en9 cur)
  | m + 1, k, cur => match b k with
    | none => agr b tv m (k + 1) cur
    | some q => match cur with
      | none => agr b tv m (k + 1) (some (tv k q))
      | some v => if v = tv k q then agr b tv m (k + 1) (some (tv k q)) else .inl (-9)
def smf (cur : Option Nat) (t : Nat) : Bool := match cur with
  | none => true
  | some v => decide (v = t)
def agm (b : Nat → Option Nat) (tv : Nat → Nat → Nat) : Nat → Nat → Option Nat → Bool → Int32 × Int32
  | 0, _, cur, sm => (en9 cur, bI sm)
  | m + 1, k, cur, sm => match b k with
    | none => agm b tv m (k + 1) cur sm
    | some q => agm b tv m (k + 1) (some (tv k q)) (sm && smf cur (tv k q))
theorem agm_f (b : Nat → Option Nat) (tv : Nat → Nat → Nat) : ∀ m k cur, (agm b tv m k cur false).2 = 0 := by
  intro m
  induction m with
  | zero => intro k cur; rfl
  | succ m ih =>
    intro k cur
    unfold agm
    cases b k with
    | none => exact ih _ _
    | some q => exact ih _ _
theorem agm_r (b : Nat → Option Nat) (tv : Nat → Nat → Nat) : ∀ m k cur, (if (agm b tv m k cur true).2 = 0 then some (-9 : Int32) else some (agm b tv m k cur true).1) = Sum.elim (fun rr => some rr) (fun y => some y) (agr b tv m k cur) := by
  intro m
  induction m with
  | zero => intro k cur; rfl
  | succ m ih =>
    intro k cur
    unfold agm agr
    cases b k with
    | none => exact ih _ _
    | some q =>
      cases cur with
      | none => exact ih _ _
      | some v =>
        by_cases e : v = tv k q
        · simp only [e, smf, decide_true, Bool.and_self, if_true]
          exact ih _ _
        · simp only [e, smf, decide_false, Bool.and_false, if_false]
          rw [if_pos (agm_f b tv m (k + 1) _)]; rfl
def tvf (wh st q : Nat) : Nat := if wh = 0 then q / 24 else if wh = 1 then tp (q % 24) else st / 24
theorem s_sure (N : Nat) (hN : NB ≤ N) {size : Int32} {on : Int32} {kinds : Nat → Int32} {marks : Nat → Int32} {nb : Nat → Int32} {plen : Int32} {rowW : Nat → Int32} {rowS : Nat → Int32} {wide : Int32} {tall : Int32} {groups : Int32} {rowMany : Int32} {top : Nat → Int32} {east : Nat → Int32} {south : Nat → Int32} {rolled : Nat → Int32} {kind : Nat → Int32} {mark : Nat → Int32} {rowWay : Nat → Int32} {rowSeen : Nat → Int32} (hR : Rl size on kinds marks nb plen rowW rowS wide tall groups rowMany top east south rolled kind mark rowWay rowSeen) (y1 : Int32) : ∃ (r : Int32), f_X10_sure N y1 size on kinds marks nb plen rowW rowS = some r ∧ f_X11_sure N y1 wide tall groups rowMany top rolled kind mark rowWay rowSeen = some r ∧ Rl size on kinds marks nb plen rowW rowS wide tall groups rowMany top east south rolled kind mark rowWay rowSeen := by
  obtain ⟨w, h, g, n, K, M, rw_, rs, hB, hC, hM⟩ := id hR
  obtain ⟨b1, b2, b3, b4, b5, b6, b7, b8, b9, b10⟩ := id hB
  obtain ⟨rfl, rfl, c3, c4, c5, rfl, c7, c8⟩ := id hC
  obtain ⟨rfl, rfl, rfl, rfl, m5, m6, m7, m8, m9, m10⟩ := id hM
  have w1 := wh25 b2 b4
  have w2 := wh4 b1 b3
  have hNB : 1000000000000 ≤ N := hN
  have hN20 : 20 < N := by omega
  unfold f_X10_sure f_X11_sure
  rw [m_inr (m := 0) (n := 2) rfl rfl]
  simp only [Option.bind_some, bI_0]
  cases hb : inr y1 0 2 with
  | false =>
    have h1 := of_decide_eq_false hb
    refine ⟨-2, ?_, if_pos rfl, hR⟩
    simp only [Int32.lt_iff_toInt_lt, Int32.le_iff_toInt_le]
    by_cases h2 : y1.toInt < (0 : Int32).toInt
    · rw [if_pos h2]
    · have e0 : (0 : Int32).toInt = 0 := rfl
      have e6 : (2 : Int32).toInt = 2 := rfl
      rw [if_neg h2, if_neg (by omega)]
  | true =>
    obtain ⟨wh, v1, v2, rfl⟩ := inr_of hb (by decide)
    rw [if_neg (nI_pos (by omega)), if_pos (show nI wh ≤ 2 from nI_le v2 (by decide)), if_neg (by decide)]
    have tvb : ∀ st q, st < 24 * (w * h) → q < 24 * (w * h) → tvf wh st q < 2 ^ 31 := fun st q hs hq => by
      unfold tvf
      have := (tp_m q).1
      split
      · omega
      · split <;> omega
    have wh0 : (nI wh = 0) = (wh = 0) := nI_0' wh (by omega)
    have wh1 : (nI wh = 1) = (wh = 1) := propext ⟨fun z => (nI_eq (b := 1) (by omega) (by decide)).mp z, fun z => by rw [z]; rfl⟩
    have h1 : f_X7_agreed_l5 N (nI wh) (nI (w * h)) (nI g) kinds marks nb (nI n) rowW rowS N ((-9), 0) = some (agr (bhd w h K M g rw_ rs n 0) (tvf wh) (24 * (w * h)) 0 none) := by
      refine lp_rel (fun m x y => ∃ k cur, k + m = 24 * (w * h) ∧ (∀ v, cur = some v → v < 2 ^ 31) ∧ x = (en9 cur, nI k) ∧ y = agr (bhd w h K M g rw_ rs n 0) (tvf wh) m k cur) ?_ N (24 * (w * h)) _ _ ⟨0, none, by omega, fun v e => (by cases e), rfl, rfl⟩ (by omega)
      rintro m x y ⟨k, cur, hk, hcur, rfl, rfl⟩ rec ih
      show f_X7_agreed_b5 N (nI wh) (nI (w * h)) (nI g) kinds marks nb (nI n) rowW rowS rec (en9 cur) (nI k) = _
      unfold f_X7_agreed_b5 f_X7_allStarts f_X2_size
      rw [Option.bind_some, Option.bind_some, al24]
      cases m with
      | zero => rw [if_pos (nI_le (by omega) (by omega))]; rfl
      | succ m =>
        have hi : k < 24 * (w * h) := by omega
        rw [if_neg (nI_ge hi (by omega)), p_endOf hB hC hN20 hi, Option.bind_some, nI_1]
        unfold agr
        cases hb : bhd w h K M g rw_ rs n 0 k with
        | none =>
          rw [if_pos (show en none = -1 from rfl)]
          exact ih m _ _ (by omega) ⟨k + 1, cur, by omega, hcur, rfl, rfl⟩
        | some q =>
          have hq := bhd_lt hB _ _ _ _ hi hb
          rw [if_neg (show ¬ en (some q) = -1 from nI_m1 (by omega)), show en (some q) = nI q from rfl]
          have et : f_X7_toldOf (nI k) (nI q) (nI wh) = some (nI (tvf wh k q)) := by
            unfold f_X7_toldOf f_X4_cellOf f_X4_stanceOf tvf
            simp only [Option.bind_some, dv24 (show q < 2 ^ 31 by omega), dv24 (show k < 2 ^ 31 by omega), rq24 (show q < 2 ^ 31 by omega), p_topOf (show q % 24 < 24 from Nat.mod_lt _ (by decide)), wh0, wh1]
            by_cases a0 : wh = 0
            · rw [if_pos a0, if_pos a0]
            · rw [if_neg a0, if_neg a0]
              by_cases a1 : wh = 1
              · rw [if_pos a1, if_pos a1]
              · rw [if_neg a1, if_neg a1]
          have hv := tvb k q hi hq
          rw [et, Option.bind_some]
          cases cur with
          | none =>
            rw [if_pos (show en9 none = -9 from rfl)]
            exact ih m _ _ (by omega) ⟨k + 1, some (tvf wh k q), by omega, fun v e => by cases e; exact hv, rfl, rfl⟩
          | some v =>
            rw [if_neg (show ¬ en9 (some v) = -9 from nI_m9 (hcur v rfl))]
            by_cases e : v = tvf wh k q
            · rw [if_pos (show en9 (some v) = nI (tvf wh k q) by rw [← e]; rfl)]
              simp only [if_pos e]
              exact ih m _ _ (by omega) ⟨k + 1, some (tvf wh k q), by omega, fun v e => by cases e; exact hv, rfl, rfl⟩
            · rw [if_neg (show ¬ en9 (some v) = nI (tvf wh k q) from fun z => e ((nI_eq (hcur v rfl) hv).mp z))]
              simp only [if_neg e]
    have h2 : f_X11_sure_l23 N (nI wh) (nI w) (nI h) (nI g) (nI n) top rolled kind mark rowWay rowSeen N ((-9), 1, 0) = some (agm (bhd w h K M g rw_ rs n 0) (tvf wh) (24 * (w * h)) 0 none true) := by
      refine lp_rel (fun m x y => ∃ k cur sm, k + m = 24 * (w * h) ∧ (∀ v, cur = some v → v < 2 ^ 31) ∧ x = (en9 cur, bI sm, nI k) ∧ y = agm (bhd w h K M g rw_ rs n 0) (tvf wh) m k cur sm) ?_ N (24 * (w * h)) _ _ ⟨0, none, true, by omega, fun v e => (by cases e), rfl, rfl⟩ (by omega)
      rintro m x y ⟨k, cur, sm, hk, hcur, rfl, rfl⟩ rec ih
      show f_X11_sure_b23 N (nI wh) (nI w) (nI h) (nI g) (nI n) top rolled kind mark rowWay rowSeen rec (en9 cur) (bI sm) (nI k) = _
      unfold f_X11_sure_b23 f_X11_cells
      rw [Option.bind_some, pk_mul, al24]
      cases m with
      | zero => rw [if_pos (nI_le (by omega) (by omega))]; rfl
      | succ m =>
        have hi : k < 24 * (w * h) := by omega
        rw [if_neg (nI_ge hi (by omega)), m_behind hB hM hN20 hi, Option.bind_some, nI_1]
        unfold agm
        cases hb : bhd w h K M g rw_ rs n 0 k with
        | none =>
          rw [if_pos (show en9 none = -9 from rfl)]
          exact ih m _ _ (by omega) ⟨k + 1, cur, sm, by omega, hcur, rfl, rfl⟩
        | some q =>
          have hq := bhd_lt hB _ _ _ _ hi hb
          have hq24 : q % 24 < 24 := Nat.mod_lt _ (by decide)
          have hv := tvb k q hi hq
          rw [if_neg (show ¬ en9 (some q) = -9 from nI_m9 (by omega)), show en9 (some q) = nI q from rfl]
          have ej : ∀ v : Nat, v = tvf wh k q → f_X11_sure_j85 rec (nI wh) (en9 cur) (bI sm) (nI k) (nI v) = some (agm (bhd w h K M g rw_ rs n 0) (tvf wh) m (k + 1) (some (tvf wh k q)) (sm && smf cur (tvf wh k q))) := by
            rintro v rfl
            unfold f_X11_sure_j85
            rw [nI_1]
            have goal : ∀ b : Bool, rec (nI (tvf wh k q), bI b, nI (k + 1)) = some (agm (bhd w h K M g rw_ rs n 0) (tvf wh) m (k + 1) (some (tvf wh k q)) b) := fun b => ih m _ _ (by omega) ⟨k + 1, some (tvf wh k q), b, by omega, fun v e => by cases e; exact hv, rfl, rfl⟩
            cases sm with
            | false => rw [if_pos (show bI false = 0 from rfl), Bool.false_and]; exact goal false
            | true =>
              rw [if_neg (by decide), Bool.true_and]
              cases cur with
              | none => rw [if_pos (show en9 none = -9 from rfl)]; exact goal true
              | some v =>
                rw [if_neg (show ¬ en9 (some v) = -9 from nI_m9 (hcur v rfl))]
                by_cases e : v = tvf wh k q
                · rw [if_pos (show en9 (some v) = nI (tvf wh k q) by rw [← e]; rfl)]
                  rw [show smf (some v) (tvf wh k q) = true from decide_eq_true e]
                  exact goal true
                · rw [if_neg (show ¬ en9 (some v) = nI (tvf wh k q) from fun z => e ((nI_eq (hcur v rfl) hv).mp z))]
                  rw [show smf (some v) (tvf wh k q) = false from decide_eq_false e]
                  exact goal false
          simp only [wh0, wh1, dv24 (show q < 2 ^ 31 by omega), rq24 (show q < 2 ^ 31 by omega), dv24 (show k < 2 ^ 31 by omega), rdn hq24 (show 24 < 2 ^ 31 by decide), cln (show q % 24 < 2 ^ 31 by omega), (m5 _ hq24).1, Option.bind_some]
          by_cases a0 : wh = 0
          · rw [if_pos a0]; exact ej _ (by unfold tvf; rw [if_pos a0])
          · rw [if_neg a0]
            by_cases a1 : wh = 1
            · rw [if_pos a1]; exact ej _ (by unfold tvf; rw [if_neg a0, if_pos a1])
            · rw [if_neg a1]; exact ej _ (by unfold tvf; rw [if_neg a0, if_neg a1])
    unfold f_X7_agreed
    rw [h1, h2, Option.bind_some, Option.bind_some, agm_r]
    cases agr (bhd w h K M g rw_ rs n 0) (tvf wh) (24 * (w * h)) 0 none with
    | inl x => exact ⟨x, rfl, rfl, hR⟩
    | inr x => exact ⟨x, rfl, rfl, hR⟩
