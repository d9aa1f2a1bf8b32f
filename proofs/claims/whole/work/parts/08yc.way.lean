/-! way -/
def gs85 (rf : Int32 → Int32 → Option Int32) (onward : Nat → Int32) (x7 : Int32) (rec : Int32 → Option Int32) (x8 : Int32) : Option Int32 :=
  (rf x7 x8).bind fun r_2 => if r_2 = (-9) then (rec (x8 + 1)) else ((rf x7 x8).bind fun r_4 => (nx_rd onward 600 r_4).bind fun _ => (nx_rd onward 600 x7).bind fun _ => if (onward r_4.toNatClampNeg) = ((onward x7.toNatClampNeg) - 1) then (some x8) else (rec (x8 + 1)))
theorem gs_way {x5 x7 x9 wide tall groups : Int32} {top rolled kind mark onward : Nat → Int32} : f_X11_way_l85 x5 x7 x9 wide tall groups top rolled kind mark onward = nx_lp (gs85 (fun a b => f_X11_rollOf a b wide tall groups top rolled kind mark) onward x7) := rfl
theorem gs_home {x1 wide tall : Int32} {kind homeward : Nat → Int32} : f_X11_homeStep_l2 x1 wide tall kind homeward = nx_lp (gs85 (fun a b => f_X11_blockRoll a b wide tall kind) homeward x1) := rfl
section GS
variable {A : Nat → Nat → Option Nat} {M : Nat} {G : Nat → Bool} {V : Nat → Nat} {rf : Int32 → Int32 → Option Int32} {onward : Nat → Int32}
theorem m_gs85 (hM : M ≤ 600) (hA : ∀ s d, s < M → d < 4 → rf (nI s) (nI d) = some (en9 (A s d)) ∧ ∀ t, A s d = some t → t < M) (hI : RI A (fun _ => 1) M G V) (hX : RX A (fun _ => 1) M V) (hG : ∀ t, G t = true → t < M) (hy : ∀ t, t < M → onward t = nI (V t)) {N s : Nat} (hN : 1000 < N) (hs : s < M) (h0 : 0 < V s) (hF : V s < FAR) : nx_lp (gs85 rf onward (nI s)) N 0 = some (nI (gdw A V s)) := by
  obtain ⟨d, hd, hk⟩ := gry_ok (fun s d hs hd => (hA s d hs hd).2) hI hX hG hs h0 hF
  obtain ⟨g1, g2, g3, g4⟩ := gdw_l hd hk
  unfold FAR at hF
  have hbody : ∀ d, d < 4 → ∀ rec, gs85 rf onward (nI s) rec (nI d) = if okd A V s d = true then some (nI d) else rec (nI (d + 1)) := fun d hd rec => by
    unfold gs85
    obtain ⟨a1, a2⟩ := hA s d hs hd
    rw [a1, Option.bind_some, nI_1]
    unfold okd
    cases ho : A s d with
    | none => rw [if_pos (show en9 none = -9 from rfl)]; rfl
    | some o =>
      have ho6 := a2 o ho
      have hv := hI.1 o ho6
      unfold FAR at hv
      rw [if_neg (show ¬ en9 (some o) = -9 from nI_m9 (by omega)), Option.bind_some, show en9 (some o) = nI o from rfl, rdn (show o < 600 by omega) (by decide), Option.bind_some, rdn (show s < 600 by omega) (by decide), Option.bind_some, cln (by omega), cln (by omega), hy o ho6, hy s hs, show nI (V s) - 1 = nI (V s - 1) from pk_sub (b := 1) h0]
      show _ = if (V o + 1 == V s) = true then _ else _
      by_cases e : V o + 1 = V s
      · rw [if_pos (by rw [show V o = V s - 1 by omega]), if_pos (beq_iff_eq.mpr e)]
      · rw [if_neg (fun z => e (by have := (nI_eq (by omega) (by omega)).mp z; omega)), if_neg (fun z => e (beq_iff_eq.mp z))]
  exact lp_run (b := gs85 rf onward (nI s)) (fun i => nI i) (gdw A V s) (fun i hi rec => by rw [hbody i (by omega), if_neg (by rw [g4 i hi]; decide)]) (fun rec => by rw [hbody _ g3, if_pos g1]) N (by omega)
end GS
theorem m_inV {x : Int32} {v : Nat} (hv : v < 1000) : f_X11_in x.toInt64 0 ((nI v - 1).toInt64) = some (bI (inb x v)) := by
  cases v with
  | zero =>
    rw [m_in]
    congr 2
    unfold inb
    congr 1
    refine propext ⟨fun z => ?_, fun z => ?_⟩
    · have : ((nI 0 - 1).toInt64).toInt = -1 := rfl
      have h0 : (0 : Int64).toInt = 0 := rfl
      omega
    · omega
  | succ v => rw [nI_pred, m_inr (m := 0) (n := v) rfl (toL (by omega)), ← inr0 x (Nat.succ_pos v)]; rfl
section WA
variable {w h g n : Nat} {K M rw_ rs : Nat → Nat} {size on : Int32} {kinds marks nb : Nat → Int32} {plen : Int32} {rowW rowS : Nat → Int32} {wide tall groups rowMany : Int32} {top east south rolled kind mark rowWay rowSeen : Nat → Int32}
theorem m_on11 {N goal v T : Nat} {x3 : Nat → Int32} (hN : 1000 < N) (ht : ∀ s, s < 24 → top s = nI (tp s)) (hT : T ≤ 600) (hg : goal < 25) (hv : v < 34) (hv2 : v < 7 ∨ 9 < v) : ∃ y, f_X11_layOnward_l11 (nI goal) (nI v) (nI T) top N (0, x3) = some y ∧ ∀ t, t < T → y t = nI (if gl goal v t then 0 else 100000000) := by
  refine lp_ex (b := fun rec z => f_X11_layOnward_b11 (nI goal) (nI v) (nI T) top rec z.1 z.2) (fun m x => ∃ k, m + k = T ∧ x.1 = nI k ∧ ∀ t, t < k → x.2 t = nI (if gl goal v t then 0 else 100000000)) (fun y => ∀ t, t < T → y t = nI (if gl goal v t then 0 else 100000000)) ?_ N T (0, x3) ⟨0, by omega, rfl, fun t ht => absurd ht (Nat.not_lt_zero t)⟩ (by omega)
  rintro m ⟨x4, ro⟩ ⟨k, hm, hx, h1⟩ rec hrec
  have hx : x4 = nI k := hx
  subst hx
  show ∃ y, f_X11_layOnward_b11 (nI goal) (nI v) (nI T) top rec (nI k) ro = some y ∧ _
  unfold f_X11_layOnward_b11 f_X11_layOnward_j40
  by_cases e : k = T
  · subst e
    rw [if_pos (Int32.le_refl _)]
    exact ⟨_, rfl, h1⟩
  · rw [if_neg (nI_ge (show k < T by omega) (by omega)), m_isGoal ht (by omega) hg hv hv2, Option.bind_some, ckn (show k < 600 by omega) (by decide), Option.bind_some, Option.bind_some, cln (by omega), nI_1]
    cases hgk : gl goal v k with
    | false =>
      rw [if_pos (show bI false = 0 from rfl)]
      refine hrec (m - 1) _ (by omega) ⟨k + 1, by omega, rfl, fun t ht => ?_⟩
      show upd ro k (nI 100000000) t = _
      rw [updn]
      by_cases e2 : t = k
      · rw [if_pos e2, e2, hgk]; rfl
      · rw [if_neg e2]; exact h1 t (by omega)
    | true =>
      rw [if_neg (show ¬ bI true = 0 by decide)]
      refine hrec (m - 1) _ (by omega) ⟨k + 1, by omega, rfl, fun t ht => ?_⟩
      show upd ro k (nI 0) t = _
      rw [updn]
      by_cases e2 : t = k
      · rw [if_pos e2, e2, hgk]; rfl
      · rw [if_neg e2]; exact h1 t (by omega)
/-- the values at the beginning -/
theorem RI_0 {A : Nat → Nat → Option Nat} {c : Nat → Nat} {T : Nat} {P : Nat → Bool} : RI A c T (fun t => decide (t < T) && P t) (fun t => if P t then 0 else 100000000) :=
  ⟨fun t _ => by
    show (if P t = true then 0 else 100000000) ≤ 100000000
    split <;> omega, fun t ht hv => by
    have hv : (if P t = true then 0 else 100000000) < 100000000 := hv
    by_cases e : P t = true
    · exact ⟨0, t, by simp [ht, e], if_pos e, rfl⟩
    · rw [if_neg e] at hv; omega, fun t _ hg => by
    have := (Bool.and_eq_true_iff.mp hg).2
    show (if P t = true then 0 else 100000000) = 0
    rw [if_pos this]⟩
theorem hG_0 {T : Nat} {P : Nat → Bool} : ∀ t, (decide (t < T) && P t) = true → t < T := fun _ h => of_decide_eq_true (Bool.and_eq_true_iff.mp h).1
theorem m_layOnward (hB : Bd w h g n K M rw_ rs) (hM : Rm w h g n K M rw_ rs wide tall groups rowMany top east south rolled kind mark rowWay rowSeen) {N goal v : Nat} {onward : Nat → Int32} (hN : 1000000000000 ≤ N) (hg : goal < 25) (hv : v < 34) (hv2 : v < 7 ∨ 9 < v) : ∃ y, f_X11_layOnward N (nI goal) (nI v) wide tall groups top rolled kind mark onward = some y ∧ ∃ V, (∀ t, t < 24 * (w * h) → y t = nI (V t)) ∧ RI (rl w h K M g) (fun _ => 1) (24 * (w * h)) (fun t => decide (t < 24 * (w * h)) && gl goal v t) V ∧ RX (rl w h K M g) (fun _ => 1) (24 * (w * h)) V := by
  have w1 := wh25 hB.2.1 hB.2.2.2.1
  unfold f_X11_layOnward f_X11_cells
  obtain ⟨m1, m2, _, _, m5, _⟩ := id hM
  subst m1; subst m2
  obtain ⟨y, q1, q2⟩ := m_on11 (top := top) (N := N) (T := 24 * (w * h)) (x3 := onward) (by omega) (fun s hs => (m5 s hs).1) (by omega) hg hv hv2
  rw [Option.bind_some, show (24 : Int32) * (nI w * nI h) = nI (24 * (w * h)) by rw [pk_mul, al24], q1, Option.bind_some, grl_on]
  obtain ⟨y2, p1, V, p2, p3, p4⟩ := m_grl (A := rl w h K M g) (c := fun _ => 1) (M := 24 * (w * h)) (G := fun t => decide (t < 24 * (w * h)) && gl goal v t) (rf := fun a b => f_X11_rollOf a b (nI w) (nI h) groups top rolled kind mark) (cf := fun _ => some 1) (by omega) (fun s d hs hd => ⟨m_rollOf hB hM hs hd, rl_b hB s d hs hd⟩) (fun t _ => ⟨rfl, by omega, by omega⟩) hN q2 RI_0
  rw [p1]
  exact ⟨_, rfl, V, p2, p3, p4⟩
theorem m_way75 {A : Nat → Nat → Option Nat} {T : Nat} {G : Nat → Bool} {V : Nat → Nat} {onward : Nat → Int32} {N s0 i : Nat} (hT : T ≤ 600) (hA : ∀ s d, s < T → d < 4 → f_X11_rollOf (nI s) (nI d) wide tall groups top rolled kind mark = some (en9 (A s d)) ∧ ∀ t, A s d = some t → t < T) (hI : RI A (fun _ => 1) T G V) (hX : RX A (fun _ => 1) T V) (hG : ∀ t, G t = true → t < T) (hy : ∀ t, t < T → onward t = nI (V t)) (hN : 1000 < N) (hs : s0 < T) (hV : V s0 < 600) (hi : i < V s0) : f_X11_way_l75 N (nI i) wide tall groups top rolled kind mark onward N (nI s0, 0, 0) = some (nI (gdw A V (gX A V s0 i))) := by
  have hF : V s0 < FAR := by unfold FAR; omega
  have hAM : ∀ s d, s < T → d < 4 → ∀ t, A s d = some t → t < T := fun s d hs hd => (hA s d hs hd).2
  refine lp_run (b := fun rec z => f_X11_way_b75 N (nI i) wide tall groups top rolled kind mark onward rec z.1 z.2.1 z.2.2) (fun k => (nI (gX A V s0 k), (if k = 0 then 0 else nI (gdw A V (gX A V s0 (k - 1)))), nI k)) (i + 1) (fun k hk rec => ?_) (fun rec => ?_) N (by omega)
  · show f_X11_way_b75 N (nI i) wide tall groups top rolled kind mark onward rec (nI (gX A V s0 k)) (if k = 0 then 0 else nI (gdw A V (gX A V s0 (k - 1)))) (nI k) = rec (nI (gX A V s0 (k + 1)), (if k + 1 = 0 then 0 else nI (gdw A V (gX A V s0 k))), nI (k + 1))
    unfold f_X11_way_b75
    obtain ⟨x1, x2, x3⟩ := gry_X hAM hI hX hG hs hF k (by omega)
    obtain ⟨x4, x5, x6⟩ := x3 (by omega)
    rw [if_neg (nI_nlt (show k ≤ i by omega) (by omega)), gs_way, m_gs85 hT hA hI hX hG hy hN x1 (by omega) (by omega), Option.bind_some, (hA _ _ x1 x5).1, x4, Option.bind_some, nI_1, if_neg (by omega)]
    rfl
  · show f_X11_way_b75 N (nI i) wide tall groups top rolled kind mark onward rec (nI (gX A V s0 (i + 1))) (if i + 1 = 0 then 0 else nI (gdw A V (gX A V s0 i))) (nI (i + 1)) = _
    unfold f_X11_way_b75
    rw [if_pos (nI_lt (by omega) (by omega)), if_neg (by omega)]
end WA
theorem s_way (N : Nat) (hN : NB ≤ N) {size : Int32} {on : Int32} {kinds : Nat → Int32} {marks : Nat → Int32} {nb : Nat → Int32} {reached : Int32} {dist : Nat → Int32} {lastW : Nat → Int32} {par : Nat → Int32} {ord : Nat → Int32} {paths : Nat → Int64} {plen : Int32} {rowW : Nat → Int32} {rowS : Nat → Int32} {wide : Int32} {tall : Int32} {groups : Int32} {rowMany : Int32} {top : Nat → Int32} {east : Nat → Int32} {south : Nat → Int32} {rolled : Nat → Int32} {kind : Nat → Int32} {mark : Nat → Int32} {onward : Nat → Int32} {rowWay : Nat → Int32} {rowSeen : Nat → Int32} (hR : Rl size on kinds marks nb plen rowW rowS wide tall groups rowMany top east south rolled kind mark rowWay rowSeen) (y1 : Int32) (y2 : Int32) (y3 : Int32) (y4 : Int32) (y5 : Int32) : ∃ (r : Int32) (oc : Int32 × (Nat → Int32) × (Nat → Int32) × (Nat → Int32) × (Nat → Int32) × (Nat → Int64)) (om : (Nat → Int32)), f_X10_way N y1 y2 y3 y4 y5 size on kinds marks nb reached dist lastW par ord paths = some (r, oc) ∧ f_X11_way N y1 y2 y3 y4 y5 wide tall groups top rolled kind mark onward = some (r, om) ∧ Rl size on kinds marks nb plen rowW rowS wide tall groups rowMany top east south rolled kind mark rowWay rowSeen := by
  obtain ⟨w, h, g, n, K, M, rw_, rs, hB, hC, hM⟩ := id hR
  obtain ⟨b1, b2, b3, b4, b5, b6, b7, b8, b9, b10⟩ := id hB
  obtain ⟨rfl, rfl, c3, c4, c5, rfl, c7, c8⟩ := id hC
  obtain ⟨rfl, rfl, rfl, rfl, m5, m6, m7, m8, m9, m10⟩ := id hM
  have w1 := wh25 b2 b4
  have w2 := wh4 b1 b3
  have hNB : 1000000000000 ≤ N := hN
  unfold f_X10_way f_X11_way
  rw [p_ref w1, m_ref (by omega) (by omega), Option.bind_some, Option.bind_some]
  rcases may_c w1 y1 y2 y3 y4 with ⟨e1, e2⟩ | ⟨e1, c, s, gg, v, hc, hs, hg, hv, hv2, rfl, rfl, rfl, rfl⟩
  · rw [if_neg e1, if_neg e2]
    exact ⟨_, _, _, rfl, rfl, hR⟩
  · rw [if_pos e1, e1, if_pos (by decide)]
    unfold f_X4_at f_X5_stepAt
    rw [at24, Option.bind_some]
    obtain ⟨y2, S, o, q1, q2, q3, q4⟩ := p_endOf5 hB hC (reached, dist, lastW, par, ord, paths) (N := N) (s0 := 24 * c + s) (by omega) (by omega) (show gg < 25 by omega) hv hv2
    have hD6 := Sr_d6 q2
    have hs0 : 24 * c + s < 24 * (w * h) := by omega
    obtain ⟨z, z1, V, z2, z3, z4⟩ := m_layOnward hB hM (N := N) (onward := onward) hNB (show gg < 25 by omega) hv hv2
    have hoM : ∀ s, o = some s → s < 600 := fun s hs => by
      rcases FE_D q3.1 q4 with ⟨rfl, _⟩ | ⟨x, u, rfl, hx, _⟩
      · cases hs
      · cases hs; omega
    rw [show f_X5_endOf N (nI (24 * c + s)) (nI gg) (nI v) (nI (w * h)) (nI g) kinds marks nb reached dist lastW par ord paths = some (en o, y2) from q1, Option.bind_some, z1, Option.bind_some, rdn (show 24 * c + s < 600 by omega) (by decide), Option.bind_some, Option.bind_some, cln (by omega), z2 _ hs0]
    rcases gry_E (rl_b hB) q3 z3 z4 hG_0 hs0 (fun t ht => by rw [decide_eq_true ht]; rfl) q4 hD6 with ⟨rfl, e⟩ | ⟨e, rfl, e2, e3⟩
    · rw [e, if_pos (show nI FAR = 100000000 from rfl), p_stepN q2 hoM (fun i n _ _ h => by cases h), Option.bind_some]
      exact ⟨_, _, _, rfl, rfl, hR⟩
    · rw [if_neg (show ¬ nI (V (24 * c + s)) = 100000000 from fun q => by have := (nI_eq (b := 100000000) (by omega) (by decide)).mp q; omega), m_inV (by omega), Option.bind_some]
      cases hb : inb y5 (V (24 * c + s)) with
      | false =>
        rw [if_pos (show bI false = 0 from rfl), p_stepN q2 hoM (fun i n hi hi2 hn _ => by
          rw [Option.bind_some, e2] at hn
          cases hn
          refine Nat.le_of_not_lt (fun z => ?_)
          rw [hi, inb_n z (by omega)] at hb; cases hb), Option.bind_some]
        exact ⟨_, _, _, rfl, rfl, hR⟩
      | true =>
        obtain ⟨i, hi, rfl⟩ := inb_of hb (by omega)
        have hF : V (24 * c + s) < FAR := by unfold FAR; omega
        rw [if_neg (show ¬ bI true = 0 by decide), m_way75 (by omega) (fun s d hs hd => ⟨m_rollOf hB hM hs hd, rl_b hB s d hs hd⟩) z3 z4 hG_0 z2 (by omega) hs0 e hi, Option.bind_some]
        rw [show f_X8_stepTo N (en (some (gX (rl w h K M g) V (24 * c + s) (V (24 * c + s))))) (nI i) y2.2.1 y2.2.2.1 y2.2.2.2.1 = some (nI (gdw (rl w h K M g) V (gX (rl w h K M g) V (24 * c + s) i))) from p_stepTo (X := gX (rl w h K M g) V (24 * c + s)) (W := fun k => gdw (rl w h K M g) V (gX (rl w h K M g) V (24 * c + s) k)) q2 (by omega) e (fun k hk => by
          obtain ⟨a1, _, a3⟩ := gry_P (rl_b hB) q3 z3 z4 hG_0 hs0 hF k hk
          obtain ⟨a4, _⟩ := gry_X (rl_b hB) z3 z4 hG_0 hs0 hF k hk
          exact ⟨by omega, a1, a3⟩) hi, Option.bind_some]
        exact ⟨_, _, _, rfl, rfl, hR⟩
