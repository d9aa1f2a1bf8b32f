/-! rows that are read: where a row leads, how many starts fit, which, what is sure -/
theorem lp_rel {α β : Type} {b : (α → Option β) → α → Option β} (P : Nat → α → β → Prop) (hs : ∀ m x y, P m x y → ∀ rec, (∀ m' x' y', m' < m → P m' x' y' → rec x' = some y') → b rec x = some y) : ∀ N m x y, P m x y → m < N → nx_lp b N x = some y := by
  intro N
  induction N with
  | zero => intro m x y _ h; omega
  | succ N ih =>
    intro m x y hp hm
    exact hs m x y hp (nx_lp b N) (fun m' x' y' h1 h2 => ih m' x' y' h2 (by omega))
def prt (q : Nat) : Nat := 7 - tp (q % 24)
def bhd (w h : Nat) (K M : Nat → Nat) (g : Nat) (rw_ rs : Nat → Nat) : Nat → Nat → Nat → Option Nat
  | 0, _, st => some st
  | m + 1, k, st => match rl w h K M g st (rw_ k) with
    | none => none
    | some q => if rs k = 0 ∨ rs k = prt q then bhd w h K M g rw_ rs m (k + 1) q else none
theorem tp_m (q : Nat) : tp (q % 24) < 7 ∧ 0 < tp (q % 24) := ⟨(tp_b _ (Nat.mod_lt _ (by decide))).1, (tp_b _ (Nat.mod_lt _ (by decide))).2.1⟩
theorem p_printOf {q : Nat} (h : q < 2 ^ 31) : f_X4_printOf (nI q) = some (nI (prt q)) := by
  unfold f_X4_printOf f_X4_stanceOf f_X3_belowOf
  rw [rm24 h, Option.bind_some, p_topOf (Nat.mod_lt _ (by decide)), Option.bind_some, Option.bind_some]
  have := tp_m q
  exact congrArg some (pk_sub (a := 7) (by omega))
section ROWS
variable {w h g n : Nat} {K M rw_ rs : Nat → Nat} {kinds marks nb : Nat → Int32} {rowW rowS : Nat → Int32} {top east south rolled kind mark rowWay rowSeen : Nat → Int32} {size on plen wide tall groups rowMany : Int32}
theorem m_print (hM : Rm w h g n K M rw_ rs wide tall groups rowMany top east south rolled kind mark rowWay rowSeen) {q : Nat} (hq : q < 2 ^ 31) : f_X11_print (nI q) top = some (nI (prt q)) := by
  obtain ⟨rfl, rfl, rfl, rfl, m5, m6, m7, m8, m9, m10⟩ := hM
  unfold f_X11_print
  have ht : q % 24 < 24 := Nat.mod_lt _ (by decide)
  rw [rm24 hq, rdn ht (by decide), Option.bind_some, cln (by omega), (m5 _ ht).1]
  have := tp_m q
  exact congrArg some (pk_sub (a := 7) (by omega))
theorem bhd_lt (hB : Bd w h g n K M rw_ rs) : ∀ m k st q, st < 24 * (w * h) → bhd w h K M g rw_ rs m k st = some q → q < 24 * (w * h) := by
  obtain ⟨b1, b2, b3, b4, b5, b6, b7, b8, b9, b10⟩ := hB
  intro m
  induction m with
  | zero => intro k st q hs e; cases e; exact hs
  | succ m ih =>
    intro k st q hs e
    unfold bhd at e
    cases hr : rl w h K M g st (rw_ k) with
    | none => rw [hr] at e; cases e
    | some q2 =>
      rw [hr] at e
      simp only at e
      split at e
      · exact ih (k + 1) q2 q (rl_lt b1 b2 b3 b4 hs (b9 k) hr) e
      · cases e
theorem p_endOf (hB : Bd w h g n K M rw_ rs) (hC : Rc w h g n K M rw_ rs size on kinds marks nb plen rowW rowS) {N st : Nat} (hN : 20 < N) (hs : st < 24 * (w * h)) : f_X7_endOf N (nI st) size on kinds marks nb plen rowW rowS = some (en (bhd w h K M g rw_ rs n 0 st)) := by
  obtain ⟨b1, b2, b3, b4, b5, b6, b7, b8, b9, b10⟩ := id hB
  have hC0 := hC
  obtain ⟨rfl, rfl, c3, c4, c5, rfl, c7, c8⟩ := hC
  have w1 := wh25 b2 b4
  unfold f_X7_endOf
  have hl : f_X7_endOf_l4 (nI (w * h)) (nI g) kinds marks nb (nI n) rowW rowS N (nI st, 0) = some (match bhd w h K M g rw_ rs n 0 st with | none => .inl (-1) | some q => .inr (nI q)) := by
    refine lp_rel (fun m x y => ∃ k s, k + m = n ∧ s < 24 * (w * h) ∧ x = (nI s, nI k) ∧ y = (match bhd w h K M g rw_ rs m k s with | none => Sum.inl (-1) | some q => Sum.inr (nI q))) ?_ N n _ _ ⟨0, st, by omega, hs, rfl, rfl⟩ (by omega)
    rintro m x y ⟨k, s, hk, hs, rfl, rfl⟩ rec ih
    show f_X7_endOf_b4 (nI (w * h)) (nI g) kinds marks nb (nI n) rowW rowS rec (nI s) (nI k) = _
    unfold f_X7_endOf_b4
    cases m with
    | zero =>
      rw [if_pos (nI_le (by omega) (by omega))]
      rfl
    | succ m =>
      have hkn : k < n := by omega
      rw [if_neg (nI_ge hkn (by omega)), if_neg (show ¬ (20 : Int32) ≤ nI k from nI_ge (show k < 20 by omega) (by decide)), rdn (show k < 20 by omega) (by decide), Option.bind_some, cln (by omega), c7 k hkn, p_after hB hC0 hs (b9 k), Option.bind_some]
      unfold bhd
      cases hr : rl w h K M g s (rw_ k) with
      | none => rfl
      | some q =>
        have hq := rl_lt b1 b2 b3 b4 hs (b9 k) hr
        rw [if_neg (show ¬ en (some q) = -1 from nI_m1 (by omega)), rdn (show k < 20 by omega) (by decide), Option.bind_some, c8 k hkn]
        simp only [en, Option.bind_some, p_printOf (show q < 2 ^ 31 by omega), nI_1, nI_0' (rs k) (by have := b10 k; omega)]
        have e10 := b10 k
        have ept : prt q < 8 := by unfold prt; omega
        by_cases e0 : rs k = 0
        · rw [if_pos e0, if_pos (Or.inl e0)]
          exact ih m _ _ (by omega) ⟨k + 1, q, by omega, hq, rfl, rfl⟩
        · rw [if_neg e0]
          by_cases e1 : rs k = prt q
          · rw [if_pos (by rw [e1]), if_pos (Or.inr e1)]
            exact ih m _ _ (by omega) ⟨k + 1, q, by omega, hq, rfl, rfl⟩
          · rw [if_neg (fun z => e1 ((nI_eq (by omega) (by omega)).mp z)), if_neg (fun z => z.elim e0 e1)]
  rw [hl, Option.bind_some]
  cases bhd w h K M g rw_ rs n 0 st <;> rfl
theorem m_behind (hB : Bd w h g n K M rw_ rs) (hM : Rm w h g n K M rw_ rs wide tall groups rowMany top east south rolled kind mark rowWay rowSeen) {N st : Nat} (hN : 20 < N) (hs : st < 24 * (w * h)) : f_X11_behind N (nI st) wide tall groups rowMany top rolled kind mark rowWay rowSeen = some (en9 (bhd w h K M g rw_ rs n 0 st)) := by
  obtain ⟨b1, b2, b3, b4, b5, b6, b7, b8, b9, b10⟩ := id hB
  have hM0 := hM
  obtain ⟨rfl, rfl, rfl, rfl, m5, m6, m7, m8, m9, m10⟩ := hM
  have w1 := wh25 b2 b4
  unfold f_X11_behind
  have hl : f_X11_behind_l4 (nI w) (nI h) (nI g) (nI n) top rolled kind mark rowWay rowSeen N (nI st, 0) = some (en9 (bhd w h K M g rw_ rs n 0 st)) := by
    refine lp_rel (fun m x y => ∃ k o, k + m = n ∧ (∀ s, o = some s → s < 24 * (w * h)) ∧ x = (en9 o, nI k) ∧ y = en9 (o.bind (bhd w h K M g rw_ rs m k))) ?_ N n _ _ ⟨0, some st, by omega, fun s e => by cases e; exact hs, rfl, rfl⟩ (by omega)
    rintro m x y ⟨k, o, hk, hs, rfl, rfl⟩ rec ih
    show f_X11_behind_b4 (nI w) (nI h) (nI g) (nI n) top rolled kind mark rowWay rowSeen rec (en9 o) (nI k) = _
    unfold f_X11_behind_b4
    cases m with
    | zero =>
      rw [if_pos (nI_le (by omega) (by omega))]
      cases o <;> rfl
    | succ m =>
      have hkn : k < n := by omega
      rw [if_neg (nI_ge hkn (by omega))]
      cases o with
      | none => rfl
      | some s =>
        have hs := hs s rfl
        rw [if_neg (show ¬ en9 (some s) = -9 from nI_m9 (by omega)), rdn (show k < 20 by omega) (by decide), Option.bind_some, cln (by omega), m9 k hkn]
        rw [show en9 (some s) = nI s from rfl, m_rollOf hB hM0 hs (b9 k), Option.bind_some]
        show _ = some (en9 (bhd w h K M g rw_ rs (m + 1) k s))
        unfold bhd
        cases hr : rl w h K M g s (rw_ k) with
        | none =>
          exact ih m _ _ (by omega) ⟨k + 1, none, by omega, fun s e => (by cases e), by rw [← nI_1], rfl⟩
        | some q =>
          have hq := rl_lt b1 b2 b3 b4 hs (b9 k) hr
          rw [if_neg (show ¬ en9 (some q) = -9 from nI_m9 (by omega)), rdn (show k < 20 by omega) (by decide), Option.bind_some, m10 k hkn]
          simp only [Option.bind_some, nI_1, nI_0' (rs k) (by have := b10 k; omega)]
          have e10 := b10 k
          have ept : prt q < 8 := by unfold prt; omega
          by_cases e0 : rs k = 0
          · rw [if_pos e0, if_pos (Or.inl e0)]
            exact ih m _ _ (by omega) ⟨k + 1, some q, by omega, fun s e => by cases e; exact hq, rfl, rfl⟩
          · rw [if_neg e0, show en9 (some q) = nI q from rfl, m_print hM0 (by omega), Option.bind_some]
            by_cases e1 : rs k = prt q
            · rw [if_pos (by rw [e1]), if_pos (Or.inr e1)]
              exact ih m _ _ (by omega) ⟨k + 1, some q, by omega, fun s e => by cases e; exact hq, rfl, rfl⟩
            · rw [if_neg (fun z => e1 ((nI_eq (by omega) (by omega)).mp z)), if_neg (fun z => z.elim e0 e1)]
              exact ih m _ _ (by omega) ⟨k + 1, none, by omega, fun s e => (by cases e), rfl, rfl⟩
  rw [hl, Option.bind_some]
end ROWS
def ctn (p : Nat → Bool) : Nat → Nat
  | 0 => 0
  | n + 1 => ctn p n + (if p n then 1 else 0)
theorem ctn_le (p : Nat → Bool) : ∀ n, ctn p n ≤ n
  | 0 => Nat.le_refl _
  | n + 1 => by have := ctn_le p n; unfold ctn; split <;> omega
theorem al24 (n : Nat) : 24 * nI n = nI (24 * n) := by rw [li 24, pk_mul]
theorem s_starts (N : Nat) (hN : NB ≤ N) {size : Int32} {on : Int32} {kinds : Nat → Int32} {marks : Nat → Int32} {nb : Nat → Int32} {plen : Int32} {rowW : Nat → Int32} {rowS : Nat → Int32} {wide : Int32} {tall : Int32} {groups : Int32} {rowMany : Int32} {top : Nat → Int32} {east : Nat → Int32} {south : Nat → Int32} {rolled : Nat → Int32} {kind : Nat → Int32} {mark : Nat → Int32} {rowWay : Nat → Int32} {rowSeen : Nat → Int32} (hR : Rl size on kinds marks nb plen rowW rowS wide tall groups rowMany top east south rolled kind mark rowWay rowSeen) : ∃ (r : Int32), f_X10_starts N size on kinds marks nb plen rowW rowS = some r ∧ f_X11_starts N wide tall groups rowMany top rolled kind mark rowWay rowSeen = some r ∧ Rl size on kinds marks nb plen rowW rowS wide tall groups rowMany top east south rolled kind mark rowWay rowSeen := by
  obtain ⟨w, h, g, n, K, M, rw_, rs, hB, hC, hM⟩ := id hR
  obtain ⟨b1, b2, b3, b4, b5, b6, b7, b8, b9, b10⟩ := id hB
  obtain ⟨rfl, rfl, c3, c4, c5, rfl, c7, c8⟩ := id hC
  obtain ⟨rfl, rfl, rfl, rfl, m5, m6, m7, m8, m9, m10⟩ := id hM
  have w1 := wh25 b2 b4
  have w2 := wh4 b1 b3
  have hNB : 1000000000000 ≤ N := hN
  have hN20 : 20 < N := by omega
  let p : Nat → Bool := fun st => (bhd w h K M g rw_ rs n 0 st).isSome
  refine ⟨nI (ctn p (24 * (w * h))), ?_, ?_, hR⟩
  · unfold f_X10_starts f_X7_fitting
    have hl := lp_run (b := fun rec z => f_X7_fitting_b4 N (nI (w * h)) (nI g) kinds marks nb (nI n) rowW rowS rec z.1 z.2) (fun i => (nI (ctn p i), nI i)) (24 * (w * h)) (fin := nI (ctn p (24 * (w * h)))) (fun i hi rec => ?_) (fun rec => ?_) N (by omega)
    · rw [show f_X7_fitting_l4 N (nI (w * h)) (nI g) kinds marks nb (nI n) rowW rowS N (0, 0) = some (nI (ctn p (24 * (w * h)))) from hl]; rfl
    · show f_X7_fitting_b4 N (nI (w * h)) (nI g) kinds marks nb (nI n) rowW rowS rec (nI (ctn p i)) (nI i) = rec (nI (ctn p (i + 1)), nI (i + 1))
      unfold f_X7_fitting_b4 f_X7_allStarts f_X2_size f_X7_fitting_j27
      rw [Option.bind_some, Option.bind_some, al24, if_neg (nI_ge hi (by omega)), p_endOf hB hC hN20 hi, Option.bind_some, nI_1]
      show _ = rec (nI (ctn p i + if p i then 1 else 0), _)
      cases hb : bhd w h K M g rw_ rs n 0 i with
      | none =>
        have hp : p i = false := by show Option.isSome _ = false; rw [hb]; rfl
        rw [hp, if_pos (show en none = -1 from rfl)]
        show rec (nI (ctn p i) + nI 0, _) = _
        rw [nI_add]; rfl
      | some q =>
        have hp : p i = true := by show Option.isSome _ = true; rw [hb]; rfl
        rw [hp, if_neg (show ¬ en (some q) = -1 from nI_m1 (by have := bhd_lt hB _ _ _ _ hi hb; omega))]
        show rec (nI (ctn p i) + 1, _) = _
        rw [nI_1]; rfl
    · show f_X7_fitting_b4 N (nI (w * h)) (nI g) kinds marks nb (nI n) rowW rowS rec (nI (ctn p (24 * (w * h)))) (nI (24 * (w * h))) = _
      unfold f_X7_fitting_b4 f_X7_allStarts f_X2_size
      rw [Option.bind_some, Option.bind_some, al24, if_pos (Int32.le_refl _)]
  · unfold f_X11_starts
    have hl := lp_run (b := fun rec z => f_X11_starts_b4 N (nI w) (nI h) (nI g) (nI n) top rolled kind mark rowWay rowSeen rec z.1 z.2) (fun i => (nI (ctn p i), nI i)) (24 * (w * h)) (fin := nI (ctn p (24 * (w * h)))) (fun i hi rec => ?_) (fun rec => ?_) N (by omega)
    · rw [show f_X11_starts_l4 N (nI w) (nI h) (nI g) (nI n) top rolled kind mark rowWay rowSeen N (0, 0) = some (nI (ctn p (24 * (w * h)))) from hl]; rfl
    · show f_X11_starts_b4 N (nI w) (nI h) (nI g) (nI n) top rolled kind mark rowWay rowSeen rec (nI (ctn p i)) (nI i) = rec (nI (ctn p (i + 1)), nI (i + 1))
      unfold f_X11_starts_b4 f_X11_cells f_X11_starts_j31
      rw [Option.bind_some, pk_mul, al24, if_neg (nI_ge hi (by omega)), m_behind hB hM hN20 hi, Option.bind_some, nI_1]
      show _ = rec (nI (ctn p i + if p i then 1 else 0), _)
      cases hb : bhd w h K M g rw_ rs n 0 i with
      | none =>
        have hp : p i = false := by show Option.isSome _ = false; rw [hb]; rfl
        rw [hp, if_pos (show en9 none = -9 from rfl)]
        show rec (nI (ctn p i) + nI 0, _) = _
        rw [nI_add]; rfl
      | some q =>
        have hp : p i = true := by show Option.isSome _ = true; rw [hb]; rfl
        rw [hp, if_neg (show ¬ en9 (some q) = -9 from nI_m9 (by have := bhd_lt hB _ _ _ _ hi hb; omega)), nI_1]; rfl
    · show f_X11_starts_b4 N (nI w) (nI h) (nI g) (nI n) top rolled kind mark rowWay rowSeen rec (nI (ctn p (24 * (w * h)))) (nI (24 * (w * h))) = _
      unfold f_X11_starts_b4 f_X11_cells
      rw [Option.bind_some, pk_mul, al24, if_pos (Int32.le_refl _)]
