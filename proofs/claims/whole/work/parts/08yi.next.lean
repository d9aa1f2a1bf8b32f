/-! next -/
def ht (o : Option Nat) (p : Nat) : Bool := match o with
  | none => false
  | some q => prt q == p
def psb (E R : Nat → Option Nat) : Nat → Bool
  | 0 => true
  | k + 1 => psb E R k && (match E k with
    | none => true
    | some o => (R o).isSome)
def tc (E R : Nat → Option Nat) (p k : Nat) : Nat := ctn (fun j => ht ((E j).bind R) p) k
def ftn (E : Nat → Option Nat) (k : Nat) : Nat := ctn (fun j => (E j).isSome) k
def mkn (f : Nat → Bool) : Nat → Nat
  | 0 => 0
  | d + 1 => mkn f d + (if f d then 2 ^ d else 0)
def mq (a b c d : Bool) : Nat := 0 + (if a then 2 ^ 0 else 0) + (if b then 2 ^ 1 else 0) + (if c then 2 ^ 2 else 0) + (if d then 2 ^ 3 else 0)
theorem mkn_q (f : Nat → Bool) : mkn f 4 = mq (f 0) (f 1) (f 2) (f 3) := rfl
theorem mkn_lt (f : Nat → Bool) : ∀ d, mkn f d < 2 ^ d
  | 0 => Nat.zero_lt_one
  | d + 1 => by
    have := mkn_lt f d
    rw [mkn, Nat.pow_succ]
    split <;> omega
theorem mq_and : ∀ a0 a1 a2 a3 b0 b1 b2 b3 : Bool, nI (mq a0 a1 a2 a3) &&& nI (mq b0 b1 b2 b3) = nI (mq (a0 && b0) (a1 && b1) (a2 && b2) (a3 && b3)) := by decide +kernel
theorem mq_bit : ∀ a0 a1 a2 a3 : Bool, ((nI (mq a0 a1 a2 a3) >>> (nI 0 &&& 31)) &&& 1 = bI a0 ∧ (nI (mq a0 a1 a2 a3) >>> (nI 1 &&& 31)) &&& 1 = bI a1) ∧ ((nI (mq a0 a1 a2 a3) >>> (nI 2 &&& 31)) &&& 1 = bI a2 ∧ (nI (mq a0 a1 a2 a3) >>> (nI 3 &&& 31)) &&& 1 = bI a3) := by decide +kernel
theorem mkn_bit (f : Nat → Bool) {d : Nat} (hd : d < 4) : (nI (mkn f 4) >>> (nI d &&& 31)) &&& 1 = bI (f d) := by
  have h := mq_bit (f 0) (f 1) (f 2) (f 3)
  rw [mkn_q]
  rcases (show d = 0 ∨ d = 1 ∨ d = 2 ∨ d = 3 by omega) with e | e | e | e
  · rw [e]; exact h.1.1
  · rw [e]; exact h.1.2
  · rw [e]; exact h.2.1
  · rw [e]; exact h.2.2
theorem or_bit : ∀ d, d < 4 → ∀ x, x < 2 ^ d → nI x ||| ((1 : Int32) <<< (nI d &&& 31)) = nI (x + 2 ^ d) := by decide +kernel
def mxs (f : Nat → Nat) : Nat → Nat
  | 0 => 0
  | n + 1 => if mxs f n < f (n + 1) then f (n + 1) else mxs f n
theorem mxs_c {f : Nat → Nat} : ∀ n, (∀ p, 1 ≤ p → p ≤ n → f p ≤ mxs f n) ∧ (mxs f n = 0 ∨ ∃ p, 1 ≤ p ∧ p ≤ n ∧ mxs f n = f p)
  | 0 => ⟨fun p h1 h2 => by omega, Or.inl rfl⟩
  | n + 1 => by
    obtain ⟨h1, h2⟩ := mxs_c (f := f) n
    rw [mxs]
    by_cases e : mxs f n < f (n + 1)
    · rw [if_pos e]
      refine ⟨fun p a b => ?_, Or.inr ⟨n + 1, by omega, by omega, rfl⟩⟩
      by_cases z : p = n + 1
      · rw [z]; omega
      · have := h1 p a (by omega); omega
    · rw [if_neg e]
      refine ⟨fun p a b => ?_, ?_⟩
      · by_cases z : p = n + 1
        · rw [z]; omega
        · exact h1 p a (by omega)
      · rcases h2 with q | ⟨p, a, b, c⟩
        · exact Or.inl q
        · exact Or.inr ⟨p, a, by omega, c⟩
theorem mxs_up {f f2 : Nat → Nat} {n p0 : Nat} (h1 : 1 ≤ p0) (h2 : p0 ≤ n) (e0 : f2 p0 = f p0 + 1) (e : ∀ p, p ≠ p0 → f2 p = f p) : mxs f2 n = if f p0 + 1 ≤ mxs f n then mxs f n else f p0 + 1 := by
  obtain ⟨a1, a2⟩ := mxs_c (f := f) n
  obtain ⟨b1, b2⟩ := mxs_c (f := f2) n
  have k1 := b1 p0 h1 h2
  rw [e0] at k1
  have k2 : mxs f n ≤ mxs f2 n := by
    rcases a2 with q | ⟨p, x, y, z⟩
    · omega
    · have := b1 p x y
      by_cases c : p = p0
      · rw [z, c]; omega
      · rw [e p c] at this; omega
  have k3 : mxs f2 n ≤ mxs f n ∨ mxs f2 n = f p0 + 1 := by
    rcases b2 with q | ⟨p, x, y, z⟩
    · exact Or.inl (by omega)
    · by_cases c : p = p0
      · rw [z, c, e0]; exact Or.inr rfl
      · have := a1 p x y
        rw [z, e p c]; exact Or.inl this
  split <;> omega
def fl (F : Nat → Option Nat) : Nat → Option (Nat × Nat)
  | 0 => none
  | n + 1 => match F n with
    | none => fl F n
    | some v => match fl F n with
      | none => some (n, v)
      | some q => if q.2 ≤ v then some q else some (n, v)
theorem fl_n {F : Nat → Option Nat} {n : Nat} (h : F n = none) : fl F (n + 1) = fl F n := by rw [fl, h]
theorem fl_0 {F : Nat → Option Nat} {n v : Nat} (h : F n = some v) (h2 : fl F n = none) : fl F (n + 1) = some (n, v) := by rw [fl, h, h2]
theorem fl_s {F : Nat → Option Nat} {n v : Nat} {q : Nat × Nat} (h : F n = some v) (h2 : fl F n = some q) : fl F (n + 1) = if q.2 ≤ v then some q else some (n, v) := by rw [fl, h, h2]
theorem fl_6 {F : Nat → Option Nat} (hF : ∀ k v, F k = some v → v ≤ 600) : ∀ n q, fl F n = some q → q.1 < n ∧ q.2 ≤ 600
  | 0, q, h => by cases h
  | n + 1, q, h => by
    cases e : F n with
    | none => rw [fl_n e] at h; have := fl_6 hF n q h; exact ⟨by omega, this.2⟩
    | some v =>
      have hv := hF n v e
      cases e2 : fl F n with
      | none => rw [fl_0 e e2] at h; cases h; exact ⟨Nat.lt_succ_self n, hv⟩
      | some q2 =>
        have h6 := fl_6 hF n q2 e2
        rw [fl_s e e2] at h
        by_cases z : q2.2 ≤ v
        · rw [if_pos z] at h; cases h; exact ⟨by omega, h6.2⟩
        · rw [if_neg z] at h; cases h; exact ⟨Nat.lt_succ_self n, hv⟩
theorem fl_none {F : Nat → Option Nat} (hF : ∀ k, F k = none) : ∀ n, fl F n = none
  | 0 => rfl
  | n + 1 => by rw [fl_n (hF n)]; exact fl_none hF n
theorem psb_f {E R : Nat → Option Nat} {k : Nat} (h : psb E R k = false) : ∀ j, k ≤ j → psb E R j = false
  | 0, hj => by rw [show k = 0 by omega] at h; exact h
  | j + 1, hj => by
    by_cases e : k = j + 1
    · rw [← e]; exact h
    · rw [psb, psb_f h j (by omega)]; rfl
theorem p_fill20 {N : Nat} {v : Int32} {f : Nat → Int32} (hN : 600 < N) : f_J7_fill_53178_r20 N v f = some (fil v 28 f) := by
  unfold f_J7_fill_53178_r20
  have hl : f_J7_fill_53178_r20_l5 v 28 N (0, f) = some (fil v 28 f) := by
    have := lp_run (b := fun rec z => f_J7_fill_53178_r20_b5 v 28 rec z.1 z.2) (fun i => (nI i, fil v i f)) 28 (fin := fil v 28 f) (fun i hi rec => ?_) (fun rec => rfl) N (by omega)
    · rw [fil_0] at this; exact this
    · show f_J7_fill_53178_r20_b5 v 28 rec (nI i) (fil v i f) = _
      unfold f_J7_fill_53178_r20_b5
      rw [if_neg (show ¬ (28 : Int32) ≤ nI i from nI_ge hi (by decide)), ckn hi (by decide), Option.bind_some, cln (by omega), nI_1, fil_s]
  rw [hl]; rfl
theorem at7 (d p : Nat) : nI d * 7 + nI p = nI (d * 7 + p) := by rw [li 7, pk_mul, nI_add]
section NX
variable {w h g n : Nat} {K M rw_ rs : Nat → Nat} {size on : Int32} {kinds marks nb : Nat → Int32} {plen : Int32} {rowW rowS : Nat → Int32} {wide tall groups rowMany : Int32} {top east south rolled kind mark rowWay rowSeen : Nat → Int32}
theorem p_tallyFrom (hB : Bd w h g n K M rw_ rs) (hC : Rc w h g n K M rw_ rs size on kinds marks nb plen rowW rowS) {N o : Nat} {Tl : Nat → Nat → Nat} {tally : Nat → Int32} (hN : 1000 < N) (ho : o < 24 * (w * h)) (hT : ∀ d p, d < 4 → p < 7 → tally (d * 7 + p) = nI (Tl d p)) : ∃ tally2, f_X7_tallyFrom N (nI o) size on kinds marks nb tally = some (nI (mkn (fun d => (rl w h K M g o d).isSome) 4), tally2) ∧ ∀ d p, d < 4 → p < 7 → tally2 (d * 7 + p) = nI (Tl d p + if ht (rl w h K M g o d) p then 1 else 0) := by
  have w1 := wh25 hB.2.1 hB.2.2.2.1
  have hl : ∃ z, f_X7_tallyFrom_l4 (nI o) size on kinds marks nb N (0, 0, tally) = some z ∧ z.1 = nI (mkn (fun d => (rl w h K M g o d).isSome) 4) ∧ ∀ d p, d < 4 → p < 7 → z.2 (d * 7 + p) = nI (Tl d p + if ht (rl w h K M g o d) p then 1 else 0) := by
    refine lp_ex (b := fun rec z => f_X7_tallyFrom_b4 (nI o) size on kinds marks nb rec z.1 z.2.1 z.2.2) (fun m z => ∃ d, m + d = 4 ∧ z.1 = nI (mkn (fun d => (rl w h K M g o d).isSome) d) ∧ z.2.1 = nI d ∧ ∀ d' p, d' < 4 → p < 7 → z.2.2 (d' * 7 + p) = nI (Tl d' p + if d' < d ∧ ht (rl w h K M g o d') p = true then 1 else 0)) (fun z => z.1 = nI (mkn (fun d => (rl w h K M g o d).isSome) 4) ∧ ∀ d p, d < 4 → p < 7 → z.2 (d * 7 + p) = nI (Tl d p + if ht (rl w h K M g o d) p then 1 else 0)) ?_ N 4 (0, 0, tally) ⟨0, rfl, rfl, rfl, fun d' p h1 h2 => by rw [if_neg (fun z => absurd z.1 (Nat.not_lt_zero d'))]; exact hT d' p h1 h2⟩ (by omega)
    rintro m ⟨x2, x3, tl⟩ ⟨d, hm1, hx, hy, h1⟩ rec hrec
    have hx : x2 = nI (mkn (fun d => (rl w h K M g o d).isSome) d) := hx
    have hy : x3 = nI d := hy
    subst hx
    subst hy
    have h1 : ∀ d' p, d' < 4 → p < 7 → tl (d' * 7 + p) = nI (Tl d' p + if d' < d ∧ ht (rl w h K M g o d') p = true then 1 else 0) := h1
    show ∃ z, f_X7_tallyFrom_b4 (nI o) size on kinds marks nb rec (nI (mkn (fun d => (rl w h K M g o d).isSome) d)) (nI d) tl = some z ∧ _
    unfold f_X7_tallyFrom_b4
    by_cases e : d = 4
    · subst e
      rw [if_pos (by decide)]
      refine ⟨_, rfl, rfl, fun d p hd hp => ?_⟩
      show tl (d * 7 + p) = _
      rw [h1 d p hd hp]
      cases ht (rl w h K M g o d) p with
      | false => rw [if_neg (fun z => by cases z.2), if_neg (by decide)]
      | true => rw [if_pos ⟨hd, rfl⟩, if_pos rfl]
    · have hd : d < 4 := by omega
      rw [if_neg (show ¬ (4 : Int32) ≤ nI d from nI_ge hd (by decide)), p_after hB hC ho hd, Option.bind_some, nI_1]
      cases hr : rl w h K M g o d with
      | none =>
        rw [if_pos (show en none = -1 from rfl)]
        refine hrec (m - 1) _ (by omega) ⟨d + 1, by omega, ?_, rfl, fun d' p h2 h3 => ?_⟩
        · show nI (mkn (fun d => (rl w h K M g o d).isSome) d) = nI (mkn (fun d => (rl w h K M g o d).isSome) d + if (rl w h K M g o d).isSome then 2 ^ d else 0)
          rw [hr]; rfl
        · show tl (d' * 7 + p) = _
          rw [h1 d' p h2 h3]
          congr 2
          by_cases c : d' = d
          · rw [c, hr, if_neg (fun z => by cases z.2), if_neg (fun z => by cases z.2)]
          · have : (d' < d) = (d' < d + 1) := propext ⟨fun z => by omega, fun z => by omega⟩
            simp only [this]
      | some q =>
        have hq := rl_b hB o d ho hd q hr
        have hp6 := prt_6 q
        rw [if_neg (show ¬ en (some q) = -1 from nI_m1 (by omega)), show en (some q) = nI q from rfl, p_printOf (by omega), Option.bind_some, at7, rdn (show d * 7 + prt q < 28 by omega) (by decide), Option.bind_some, ckn (show d * 7 + prt q < 28 by omega) (by decide), Option.bind_some, cln (by omega), or_bit d hd _ (mkn_lt _ d)]
        refine hrec (m - 1) _ (by omega) ⟨d + 1, by omega, ?_, rfl, fun d' p h2 h3 => ?_⟩
        · show nI (mkn (fun d => (rl w h K M g o d).isSome) d + 2 ^ d) = nI (mkn (fun d => (rl w h K M g o d).isSome) d + if (rl w h K M g o d).isSome then 2 ^ d else 0)
          rw [hr]; rfl
        · show upd tl (d * 7 + prt q) (tl (d * 7 + prt q) + 1) (d' * 7 + p) = _
          rw [updn]
          by_cases c : d' = d
          · subst c
            by_cases c2 : p = prt q
            · subst c2
              rw [if_pos rfl, h1 d' (prt q) h2 h3, if_neg (fun z => absurd z.1 (Nat.lt_irrefl d')), hr, if_pos ⟨Nat.lt_succ_self d', beq_self_eq_true (prt q)⟩, nI_1]
            · rw [if_neg (fun z => c2 (by omega)), h1 d' p h2 h3, hr, if_neg (fun z => absurd z.1 (Nat.lt_irrefl d')), if_neg (fun z => c2 (beq_iff_eq.mp z.2).symm)]
          · rw [if_neg (fun z => c (by omega)), h1 d' p h2 h3]
            have : (d' < d) = (d' < d + 1) := propext ⟨fun z => by omega, fun z => by omega⟩
            simp only [this]
  obtain ⟨⟨a, b⟩, q1, q2, q3⟩ := hl
  have q2 : a = nI (mkn (fun d => (rl w h K M g o d).isSome) 4) := q2
  subst q2
  refine ⟨b, ?_, q3⟩
  unfold f_X7_tallyFrom
  rw [q1]; rfl
theorem p_tw15 (hB : Bd w h g n K M rw_ rs) (hC : Rc w h g n K M rw_ rs size on kinds marks nb plen rowW rowS) {N : Nat} {tally : Nat → Int32} (hN : 1000 < N) (h0 : ∀ d p, d < 4 → p < 7 → tally (d * 7 + p) = 0) : ∃ z, f_X7_tellingWay_l15 N size on kinds marks nb plen rowW rowS N (0, 15, 0, tally) = some z ∧ z.1 = nI (ftn (bhd w h K M g rw_ rs n 0) (24 * (w * h))) ∧ z.2.1 = nI (mkn (fun d => psb (bhd w h K M g rw_ rs n 0) (fun o => rl w h K M g o d) (24 * (w * h))) 4) ∧ ∀ d p, d < 4 → p < 7 → z.2.2 (d * 7 + p) = nI (tc (bhd w h K M g rw_ rs n 0) (fun o => rl w h K M g o d) p (24 * (w * h))) := by
  have w1 := wh25 hB.2.1 hB.2.2.2.1
  have hz := hC.1
  refine lp_ex (b := fun rec z => f_X7_tellingWay_b15 N size on kinds marks nb plen rowW rowS rec z.1 z.2.1 z.2.2.1 z.2.2.2) (fun m z => ∃ k, m + k = 24 * (w * h) ∧ z.1 = nI (ftn (bhd w h K M g rw_ rs n 0) k) ∧ z.2.1 = nI (mkn (fun d => psb (bhd w h K M g rw_ rs n 0) (fun o => rl w h K M g o d) k) 4) ∧ z.2.2.1 = nI k ∧ ∀ d p, d < 4 → p < 7 → z.2.2.2 (d * 7 + p) = nI (tc (bhd w h K M g rw_ rs n 0) (fun o => rl w h K M g o d) p k)) (fun z => z.1 = nI (ftn (bhd w h K M g rw_ rs n 0) (24 * (w * h))) ∧ z.2.1 = nI (mkn (fun d => psb (bhd w h K M g rw_ rs n 0) (fun o => rl w h K M g o d) (24 * (w * h))) 4) ∧ ∀ d p, d < 4 → p < 7 → z.2.2 (d * 7 + p) = nI (tc (bhd w h K M g rw_ rs n 0) (fun o => rl w h K M g o d) p (24 * (w * h)))) ?_ N (24 * (w * h)) (0, 15, 0, tally) ⟨0, by omega, rfl, rfl, rfl, fun d p hd hp => h0 d p hd hp⟩ (by omega)
  rintro m ⟨x1, x2, x3, tl⟩ ⟨k, hm1, hx, hy, hk, h1⟩ rec hrec
  have hx : x1 = nI (ftn (bhd w h K M g rw_ rs n 0) k) := hx
  have hy : x2 = nI (mkn (fun d => psb (bhd w h K M g rw_ rs n 0) (fun o => rl w h K M g o d) k) 4) := hy
  have hk : x3 = nI k := hk
  subst hx; subst hy; subst hk
  have h1 : ∀ d p, d < 4 → p < 7 → tl (d * 7 + p) = nI (tc (bhd w h K M g rw_ rs n 0) (fun o => rl w h K M g o d) p k) := h1
  show ∃ z, f_X7_tellingWay_b15 N size on kinds marks nb plen rowW rowS rec (nI (ftn (bhd w h K M g rw_ rs n 0) k)) (nI (mkn (fun d => psb (bhd w h K M g rw_ rs n 0) (fun o => rl w h K M g o d) k) 4)) (nI k) tl = some z ∧ _
  unfold f_X7_tellingWay_b15 f_X7_allStarts f_X2_size
  rw [hz, Option.bind_some, Option.bind_some, al24]
  by_cases e : k = 24 * (w * h)
  · subst e
    rw [if_pos (Int32.le_refl _)]
    exact ⟨_, rfl, rfl, rfl, h1⟩
  · have hk : k < 24 * (w * h) := by omega
    rw [if_neg (nI_ge hk (by omega)), ← hz, p_endOf hB hC (by omega) hk, Option.bind_some, nI_1]
    cases hb : bhd w h K M g rw_ rs n 0 k with
    | none =>
      rw [if_pos (show en none = -1 from rfl)]
      refine hrec (m - 1) _ (by omega) ⟨k + 1, by omega, ?_, ?_, rfl, fun d p hd hp => ?_⟩
      · show nI (ftn (bhd w h K M g rw_ rs n 0) k) = nI (ftn (bhd w h K M g rw_ rs n 0) k + if (bhd w h K M g rw_ rs n 0 k).isSome then 1 else 0)
        rw [hb]; rfl
      · show nI (mkn (fun d => psb (bhd w h K M g rw_ rs n 0) (fun o => rl w h K M g o d) k) 4) = nI (mkn (fun d => psb (bhd w h K M g rw_ rs n 0) (fun o => rl w h K M g o d) (k + 1)) 4)
        congr 2
        funext d
        rw [psb, hb]
        exact (Bool.and_true _).symm
      · show tl (d * 7 + p) = nI (tc (bhd w h K M g rw_ rs n 0) (fun o => rl w h K M g o d) p k + if ht ((bhd w h K M g rw_ rs n 0 k).bind (fun o => rl w h K M g o d)) p then 1 else 0)
        rw [h1 d p hd hp, hb]; rfl
    | some o =>
      have ho := bhd_lt hB _ _ _ _ hk hb
      obtain ⟨tl2, q1, q2⟩ := p_tallyFrom hB hC (N := N) (o := o) hN ho h1
      rw [if_neg (show ¬ en (some o) = -1 from nI_m1 (by omega)), show en (some o) = nI o from rfl, q1, Option.bind_some]
      refine hrec (m - 1) _ (by omega) ⟨k + 1, by omega, ?_, ?_, rfl, fun d p hd hp => ?_⟩
      · show nI (ftn (bhd w h K M g rw_ rs n 0) k) + 1 = nI (ftn (bhd w h K M g rw_ rs n 0) k + if (bhd w h K M g rw_ rs n 0 k).isSome then 1 else 0)
        rw [hb, nI_1]; rfl
      · show nI (mkn (fun d => psb (bhd w h K M g rw_ rs n 0) (fun o => rl w h K M g o d) k) 4) &&& nI (mkn (fun d => (rl w h K M g o d).isSome) 4) = nI (mkn (fun d => psb (bhd w h K M g rw_ rs n 0) (fun o => rl w h K M g o d) (k + 1)) 4)
        rw [mkn_q, mkn_q, mkn_q, mq_and]
        simp only [psb, hb]
      · show tl2 (d * 7 + p) = nI (tc (bhd w h K M g rw_ rs n 0) (fun o => rl w h K M g o d) p k + if ht ((bhd w h K M g rw_ rs n 0 k).bind (fun o => rl w h K M g o d)) p then 1 else 0)
        rw [q2 d p hd hp, hb]; rfl
theorem p_mostT {N d : Nat} {tally : Nat → Int32} {f : Nat → Nat} (hN : 1000 < N) (hd : d < 4) (h : ∀ p, p < 7 → tally (d * 7 + p) = nI (f p)) (h6 : ∀ p, f p ≤ 600) : f_X7_mostTallied N (nI d) tally = some (nI (mxs f 6)) := by
  have hb : ∀ k, mxs f k ≤ 600 := fun k => by
    rcases (mxs_c (f := f) k).2 with q | ⟨p, _, _, q⟩
    · omega
    · rw [q]; exact h6 p
  have hl : f_X7_mostTallied_l4 (nI d) tally N (0, 1) = some (nI (mxs f 6)) := by
    refine lp_run (b := fun rec z => f_X7_mostTallied_b4 (nI d) tally rec z.1 z.2) (fun k => (nI (mxs f k), nI (k + 1))) 6 (fun k hk rec => ?_) (fun rec => ?_) N (by omega)
    · show f_X7_mostTallied_b4 (nI d) tally rec (nI (mxs f k)) (nI (k + 1)) = rec (nI (mxs f (k + 1)), nI (k + 1 + 1))
      unfold f_X7_mostTallied_b4
      have a1 := hb k
      have a2 := h6 (k + 1)
      rw [if_neg (show ¬ (6 : Int32) < nI (k + 1) from nI_nlt (b := k + 1) (a := 6) (by omega) (by decide)), at7, rdn (show d * 7 + (k + 1) < 28 by omega) (by decide), Option.bind_some, cln (by omega), h (k + 1) (by omega), nI_1, mxs]
      by_cases e : mxs f k < f (k + 1)
      · rw [if_pos (nI_lt e (by omega)), if_pos e]
      · rw [if_neg (nI_nlt (by omega) (by omega)), if_neg e]
    · show f_X7_mostTallied_b4 (nI d) tally rec (nI (mxs f 6)) (nI 7) = _
      unfold f_X7_mostTallied_b4
      rw [if_pos (by decide)]
  unfold f_X7_mostTallied
  rw [hl]; rfl
def fls (o : Option (Nat × Nat)) (x : Int32) : Int32 := match o with
  | none => x
  | some q => nI q.2
theorem p_leastT {N : Nat} {tally : Nat → Int32} {f : Nat → Nat → Nat} {b : Nat → Bool} (hN : 1000 < N) (h : ∀ d p, d < 4 → p < 7 → tally (d * 7 + p) = nI (f d p)) (h6 : ∀ d p, f d p ≤ 600) : f_X7_leastTallied N (nI (mkn b 4)) tally = some (fb (fl (fun d => if b d then some (mxs (f d) 6) else none) 4)) := by
  have hb : ∀ d, mxs (f d) 6 ≤ 600 := fun d => by
    rcases (mxs_c (f := f d) 6).2 with q | ⟨p, _, _, q⟩
    · omega
    · rw [q]; exact h6 d p
  have hF : ∀ k v, (fun d => if b d then some (mxs (f d) 6) else none) k = some v → v ≤ 600 := fun k v e => by
    have e : (if b k then some (mxs (f k) 6) else none) = some v := e
    cases hk : b k with
    | false => rw [hk] at e; cases e
    | true => rw [hk, if_pos rfl] at e; cases e; exact hb k
  have hl : f_X7_leastTallied_l8 N (nI (mkn b 4)) tally N ((-9), 0, 0) = some (fb (fl (fun d => if b d then some (mxs (f d) 6) else none) 4)) := by
    refine lp_run (b := fun rec z => f_X7_leastTallied_b8 N (nI (mkn b 4)) tally rec z.1 z.2.1 z.2.2) (fun d => (fb (fl (fun d => if b d then some (mxs (f d) 6) else none) d), fls (fl (fun d => if b d then some (mxs (f d) 6) else none) d) 0, nI d)) 4 (fun d hd rec => ?_) (fun rec => ?_) N (by omega)
    · show f_X7_leastTallied_b8 N (nI (mkn b 4)) tally rec (fb (fl (fun d => if b d then some (mxs (f d) 6) else none) d)) (fls (fl (fun d => if b d then some (mxs (f d) 6) else none) d) 0) (nI d) = rec (fb (fl (fun d => if b d then some (mxs (f d) 6) else none) (d + 1)), fls (fl (fun d => if b d then some (mxs (f d) 6) else none) (d + 1)) 0, nI (d + 1))
      unfold f_X7_leastTallied_b8 f_X7_leastTallied_j46
      rw [if_neg (show ¬ (4 : Int32) ≤ nI d from nI_ge hd (by decide)), mkn_bit b hd, p_mostT hN hd (fun p hp => h d p hd hp) (h6 d), Option.bind_some, nI_1]
      cases hbd : b d with
      | false => rw [if_pos (show bI false = 0 from rfl), fl_n (F := fun d => if b d then some (mxs (f d) 6) else none) (by rw [hbd]; rfl)]
      | true =>
        have e1 : (fun d => if b d then some (mxs (f d) 6) else none) d = some (mxs (f d) 6) := by
          show (if b d then some (mxs (f d) 6) else none) = _
          rw [hbd]; rfl
        have a1 := hb d
        rw [if_neg (show ¬ bI true = 0 by decide)]
        cases e2 : fl (fun d => if b d then some (mxs (f d) 6) else none) d with
        | none => rw [if_pos (show fb none = -9 from rfl), fl_0 e1 e2]; rfl
        | some q =>
          have hq := fl_6 hF d q e2
          rw [if_neg (show ¬ fb (some q) = -9 from nI_m9 (by omega)), fl_s e1 e2]
          by_cases z : q.2 ≤ mxs (f d) 6
          · rw [if_pos (show fls (some q) 0 ≤ nI (mxs (f d) 6) from nI_le z (by omega)), if_pos z]
          · rw [if_neg (show ¬ fls (some q) 0 ≤ nI (mxs (f d) 6) from nI_ge (by omega) (by omega)), if_neg z]; rfl
    · show f_X7_leastTallied_b8 N (nI (mkn b 4)) tally rec (fb (fl (fun d => if b d then some (mxs (f d) 6) else none) 4)) (fls (fl (fun d => if b d then some (mxs (f d) 6) else none) 4) 0) (nI 4) = _
      unfold f_X7_leastTallied_b8
      rw [if_pos (by decide)]
  unfold f_X7_leastTallied
  rw [hl]; rfl
def gby (E R : Nat → Option Nat) (T : Nat) : Option Nat := if ftn E T = 0 then none else if psb E R T then some (mxs (fun p => tc E R p T) 6) else none
theorem m_gb2 {N : Nat} {x1 : Int32} {prints : Nat → Int32} (hN : 1000 < N) : f_X11_greatestBy_l2 x1 N (0, prints) = some (fil 0 7 prints) := by
  have := lp_run (b := fun rec z => f_X11_greatestBy_b2 x1 rec z.1 z.2) (fun i => (nI i, fil 0 i prints)) 7 (fin := fil 0 7 prints) (fun i hi rec => ?_) (fun rec => rfl) N (by omega)
  · rw [fil_0] at this; exact this
  · show f_X11_greatestBy_b2 x1 rec (nI i) (fil 0 i prints) = _
    unfold f_X11_greatestBy_b2
    rw [if_neg (show ¬ (7 : Int32) ≤ nI i from nI_ge hi (by decide)), ckn hi (by decide), Option.bind_some, cln (by omega), nI_1, fil_s]
theorem m_greatestBy (hB : Bd w h g n K M rw_ rs) (hM : Rm w h g n K M rw_ rs wide tall groups rowMany top east south rolled kind mark rowWay rowSeen) {N d : Nat} {prints : Nat → Int32} (hN : 1000 < N) (hd : d < 4) : ∃ pr, f_X11_greatestBy N (nI d) wide tall groups rowMany top rolled kind mark rowWay rowSeen prints = some (en9 (gby (bhd w h K M g rw_ rs n 0) (fun o => rl w h K M g o d) (24 * (w * h))), pr) := by
  have w1 := wh25 hB.2.1 hB.2.2.2.1
  have e24 : 24 * (wide * tall) = nI (24 * (w * h)) := by rw [hM.1, hM.2.1, pk_mul, al24]
  have hl : ∃ z, f_X11_greatestBy_l26 N (nI d) wide tall groups rowMany top rolled kind mark rowWay rowSeen N ((-9), 0, fil 0 7 prints) = some z ∧ ∃ pr, Sum.elim (fun rr => some rr) (fun (y_25 : Int32 × (Nat → Int32)) => some (y_25.1, y_25.2)) z = some (en9 (gby (bhd w h K M g rw_ rs n 0) (fun o => rl w h K M g o d) (24 * (w * h))), pr) := by
    refine lp_ex (b := fun rec z => f_X11_greatestBy_b26 N (nI d) wide tall groups rowMany top rolled kind mark rowWay rowSeen rec z.1 z.2.1 z.2.2) (fun m z => ∃ k, m + k = 24 * (w * h) ∧ z.2.1 = nI k ∧ psb (bhd w h K M g rw_ rs n 0) (fun o => rl w h K M g o d) k = true ∧ (∀ p, p < 7 → z.2.2 p = nI (tc (bhd w h K M g rw_ rs n 0) (fun o => rl w h K M g o d) p k)) ∧ z.1 = en9 (if ftn (bhd w h K M g rw_ rs n 0) k = 0 then none else some (mxs (fun p => tc (bhd w h K M g rw_ rs n 0) (fun o => rl w h K M g o d) p k) 6))) (fun z => ∃ pr, Sum.elim (fun rr => some rr) (fun (y_25 : Int32 × (Nat → Int32)) => some (y_25.1, y_25.2)) z = some (en9 (gby (bhd w h K M g rw_ rs n 0) (fun o => rl w h K M g o d) (24 * (w * h))), pr)) ?_ N (24 * (w * h)) ((-9), 0, fil 0 7 prints) ⟨0, by omega, rfl, rfl, fun p hp => fil_lt hp, rfl⟩ (by omega)
    rintro m ⟨x2, x3, pr⟩ ⟨k, hm1, hk, hps, h1, hx⟩ rec hrec
    have hk : x3 = nI k := hk
    subst hk
    have h1 : ∀ p, p < 7 → pr p = nI (tc (bhd w h K M g rw_ rs n 0) (fun o => rl w h K M g o d) p k) := h1
    have hx : x2 = en9 (if ftn (bhd w h K M g rw_ rs n 0) k = 0 then none else some (mxs (fun p => tc (bhd w h K M g rw_ rs n 0) (fun o => rl w h K M g o d) p k) 6)) := hx
    show ∃ z, f_X11_greatestBy_b26 N (nI d) wide tall groups rowMany top rolled kind mark rowWay rowSeen rec x2 (nI k) pr = some z ∧ _
    unfold f_X11_greatestBy_b26 f_X11_cells
    rw [Option.bind_some, e24]
    by_cases e : k = 24 * (w * h)
    · subst e
      rw [if_pos (Int32.le_refl _)]
      refine ⟨_, rfl, pr, ?_⟩
      show some (x2, pr) = _
      unfold gby
      rw [hps, hx]
      rfl
    · have hk : k < 24 * (w * h) := by omega
      rw [if_neg (nI_ge hk (by omega)), m_behind hB hM (by omega) hk, Option.bind_some, nI_1]
      cases hb : bhd w h K M g rw_ rs n 0 k with
      | none =>
        rw [if_pos (show en9 none = -9 from rfl)]
        have et : ∀ p, tc (bhd w h K M g rw_ rs n 0) (fun o => rl w h K M g o d) p (k + 1) = tc (bhd w h K M g rw_ rs n 0) (fun o => rl w h K M g o d) p k := fun p => by
          show tc (bhd w h K M g rw_ rs n 0) (fun o => rl w h K M g o d) p k + (if ht ((bhd w h K M g rw_ rs n 0 k).bind (fun o => rl w h K M g o d)) p then 1 else 0) = _
          rw [hb]; rfl
        have ef : ftn (bhd w h K M g rw_ rs n 0) (k + 1) = ftn (bhd w h K M g rw_ rs n 0) k := by
          show ftn (bhd w h K M g rw_ rs n 0) k + (if (bhd w h K M g rw_ rs n 0 k).isSome then 1 else 0) = _
          rw [hb]; rfl
        refine hrec (m - 1) _ (by omega) ⟨k + 1, by omega, rfl, ?_, fun p hp => ?_, ?_⟩
        · rw [psb, hps, hb]; rfl
        · rw [et]; exact h1 p hp
        · rw [ef, show (fun p => tc (bhd w h K M g rw_ rs n 0) (fun o => rl w h K M g o d) p (k + 1)) = fun p => tc (bhd w h K M g rw_ rs n 0) (fun o => rl w h K M g o d) p k from funext et]
          exact hx
      | some o =>
        have ho := bhd_lt hB _ _ _ _ hk hb
        rw [if_neg (show ¬ en9 (some o) = -9 from nI_m9 (by omega)), show en9 (some o) = nI o from rfl, m_rollOf hB hM ho hd, Option.bind_some]
        cases hr : rl w h K M g o d with
        | none =>
          rw [if_pos (show en9 none = -9 from rfl)]
          refine ⟨_, rfl, pr, ?_⟩
          have hf : psb (bhd w h K M g rw_ rs n 0) (fun o => rl w h K M g o d) (k + 1) = false := by
            rw [psb, hps, hb]
            show (true && (rl w h K M g o d).isSome) = false
            rw [hr]; rfl
          show some ((-9 : Int32), pr) = _
          unfold gby
          rw [psb_f hf _ (show k + 1 ≤ 24 * (w * h) by omega)]
          by_cases c : ftn (bhd w h K M g rw_ rs n 0) (24 * (w * h)) = 0
          · rw [if_pos c]; rfl
          · rw [if_neg c]; rfl
        | some q =>
          have hq := rl_b hB o d ho hd q hr
          have hp6 := prt_6 q
          have et : ∀ p, tc (bhd w h K M g rw_ rs n 0) (fun o => rl w h K M g o d) p (k + 1) = tc (bhd w h K M g rw_ rs n 0) (fun o => rl w h K M g o d) p k + (if (prt q == p) = true then 1 else 0) := fun p => by
            show tc (bhd w h K M g rw_ rs n 0) (fun o => rl w h K M g o d) p k + (if ht ((bhd w h K M g rw_ rs n 0 k).bind (fun o => rl w h K M g o d)) p then 1 else 0) = _
            rw [hb]
            show tc (bhd w h K M g rw_ rs n 0) (fun o => rl w h K M g o d) p k + (if ht (rl w h K M g o d) p then 1 else 0) = _
            rw [hr]; rfl
          have ef : ftn (bhd w h K M g rw_ rs n 0) (k + 1) = ftn (bhd w h K M g rw_ rs n 0) k + 1 := by
            show ftn (bhd w h K M g rw_ rs n 0) k + (if (bhd w h K M g rw_ rs n 0 k).isSome then 1 else 0) = _
            rw [hb]; rfl
          have hmx := mxs_up (f := fun p => tc (bhd w h K M g rw_ rs n 0) (fun o => rl w h K M g o d) p k) (f2 := fun p => tc (bhd w h K M g rw_ rs n 0) (fun o => rl w h K M g o d) p (k + 1)) (n := 6) (p0 := prt q) hp6.2 hp6.1 (by
            show tc _ _ _ (k + 1) = _
            rw [et, if_pos (beq_self_eq_true _)]) (fun p hp => by
            show tc _ _ _ (k + 1) = _
            rw [et, if_neg (fun z => hp (beq_iff_eq.mp z).symm)]; rfl)
          have hpr : ∀ p, p < 7 → upd pr (prt q) (pr (prt q) + 1) p = nI (tc (bhd w h K M g rw_ rs n 0) (fun o => rl w h K M g o d) p (k + 1)) := fun p hp => by
            rw [updn, et]
            by_cases c : p = prt q
            · rw [if_pos c, h1 _ (by omega), c, if_pos (beq_self_eq_true _), nI_1]
            · rw [if_neg c, h1 p hp, if_neg (fun z => c (beq_iff_eq.mp z).symm)]; rfl
          have hps2 : psb (bhd w h K M g rw_ rs n 0) (fun o => rl w h K M g o d) (k + 1) = true := by
            rw [psb, hps, hb]
            show (true && (rl w h K M g o d).isSome) = true
            rw [hr]; rfl
          have hc6 : tc (bhd w h K M g rw_ rs n 0) (fun o => rl w h K M g o d) (prt q) k ≤ k := ctn_le _ _
          have hm6 : mxs (fun p => tc (bhd w h K M g rw_ rs n 0) (fun o => rl w h K M g o d) p k) 6 ≤ k := by
            rcases (mxs_c (f := fun p => tc (bhd w h K M g rw_ rs n 0) (fun o => rl w h K M g o d) p k) 6).2 with z | ⟨p, _, _, z⟩
            · omega
            · rw [z]; exact ctn_le _ _
          have hval : upd pr (prt q) (pr (prt q) + 1) (prt q) = nI (tc (bhd w h K M g rw_ rs n 0) (fun o => rl w h K M g o d) (prt q) k + 1) := by
            rw [hpr _ (by omega), et, if_pos (beq_self_eq_true _)]
          have hrd : ∀ f : Nat → Int32, nx_rd f 7 (nI (prt q)) = some (f (prt q)) := fun f => rdn (by omega) (by decide)
          have hck : nx_ck 7 (nI (prt q)) = some () := ckn (by omega) (by decide)
          have hcl : (nI (prt q)).toNatClampNeg = prt q := cln (by omega)
          rw [if_neg (show ¬ en9 (some q) = -9 from nI_m9 (by omega)), show en9 (some q) = nI q from rfl, m_print hM (by omega)]
          simp only [Option.bind_some, hrd, hck, hcl, hval]
          have hcond : ftn (bhd w h K M g rw_ rs n 0) k = 0 → mxs (fun p => tc (bhd w h K M g rw_ rs n 0) (fun o => rl w h K M g o d) p k) 6 = 0 := fun z => by
            have hz : ∀ p, tc (bhd w h K M g rw_ rs n 0) (fun o => rl w h K M g o d) p k = 0 := fun p => by
              have : tc (bhd w h K M g rw_ rs n 0) (fun o => rl w h K M g o d) p k ≤ ftn (bhd w h K M g rw_ rs n 0) k := ctn_mn k (fun j _ hj => by
                cases hE : bhd w h K M g rw_ rs n 0 j with
                | none => rw [hE] at hj; cases hj
                | some u => rfl)
              omega
            rcases (mxs_c (f := fun p => tc (bhd w h K M g rw_ rs n 0) (fun o => rl w h K M g o d) p k) 6).2 with z | ⟨p, _, _, z⟩
            · exact z
            · rw [z]; exact hz p
          by_cases c : nI (tc (bhd w h K M g rw_ rs n 0) (fun o => rl w h K M g o d) (prt q) k + 1) ≤ x2
          · have c2 : ¬ ftn (bhd w h K M g rw_ rs n 0) k = 0 ∧ tc (bhd w h K M g rw_ rs n 0) (fun o => rl w h K M g o d) (prt q) k + 1 ≤ mxs (fun p => tc (bhd w h K M g rw_ rs n 0) (fun o => rl w h K M g o d) p k) 6 := by
              by_cases z : ftn (bhd w h K M g rw_ rs n 0) k = 0
              · rw [hx, if_pos z, Int32.le_iff_toInt_le, nI_toInt (by omega), show (en9 none).toInt = -9 from rfl] at c
                omega
              · rw [hx, if_neg z] at c
                exact ⟨z, (nI_leI (by omega) (by omega)).mp c⟩
            rw [if_pos c]
            refine hrec (m - 1) _ (by omega) ⟨k + 1, by omega, rfl, hps2, hpr, ?_⟩
            show x2 = _
            rw [hx, if_neg c2.1, ef, if_neg (by omega), hmx, if_pos c2.2]
          · rw [if_neg c]
            refine hrec (m - 1) _ (by omega) ⟨k + 1, by omega, rfl, hps2, hpr, ?_⟩
            show nI _ = _
            rw [ef, if_neg (by omega), hmx]
            have c2 : ¬ (tc (bhd w h K M g rw_ rs n 0) (fun o => rl w h K M g o d) (prt q) k + 1 ≤ mxs (fun p => tc (bhd w h K M g rw_ rs n 0) (fun o => rl w h K M g o d) p k) 6) := fun z => by
              by_cases z2 : ftn (bhd w h K M g rw_ rs n 0) k = 0
              · have := hcond z2; omega
              · exact c (by rw [hx, if_neg z2]; exact nI_le z (by omega))
            rw [if_neg c2]
            rfl
  obtain ⟨z, q1, pr, q2⟩ := hl
  refine ⟨pr, ?_⟩
  unfold f_X11_greatestBy
  rw [m_gb2 hN, Option.bind_some, q1, Option.bind_some]
  exact q2
theorem gby_6 {E R : Nat → Option Nat} {T v : Nat} (h : gby E R T = some v) (hT : T ≤ 600) : v ≤ 600 := by
  unfold gby at h
  by_cases z : ftn E T = 0
  · rw [if_pos z] at h; cases h
  · rw [if_neg z] at h
    cases hb : psb E R T with
    | false => rw [hb] at h; cases h
    | true =>
      rw [hb, if_pos rfl] at h
      have h : mxs (fun p => tc E R p T) 6 = v := by cases h; rfl
      rw [← h]
      rcases (mxs_c (f := fun p => tc E R p T) 6).2 with q | ⟨p, _, _, q⟩
      · omega
      · rw [q]; exact Nat.le_trans (ctn_le _ _) hT
theorem m_next8 (hB : Bd w h g n K M rw_ rs) (hM : Rm w h g n K M rw_ rs wide tall groups rowMany top east south rolled kind mark rowWay rowSeen) {N : Nat} {prints : Nat → Int32} (hN : 1000 < N) : ∃ pr, f_X11_next_l8 N wide tall groups rowMany top rolled kind mark rowWay rowSeen N ((-9), 100000000, 0, prints) = some (fb (fl (fun d => gby (bhd w h K M g rw_ rs n 0) (fun o => rl w h K M g o d) (24 * (w * h))) 4), pr) := by
  have w1 := wh25 hB.2.1 hB.2.2.2.1
  have hF : ∀ k v, (fun d => gby (bhd w h K M g rw_ rs n 0) (fun o => rl w h K M g o d) (24 * (w * h))) k = some v → v ≤ 600 := fun k v e => gby_6 e (by omega)
  have hl : ∃ z, f_X11_next_l8 N wide tall groups rowMany top rolled kind mark rowWay rowSeen N ((-9), 100000000, 0, prints) = some z ∧ z.1 = fb (fl (fun d => gby (bhd w h K M g rw_ rs n 0) (fun o => rl w h K M g o d) (24 * (w * h))) 4) := by
    refine lp_ex (b := fun rec z => f_X11_next_b8 N wide tall groups rowMany top rolled kind mark rowWay rowSeen rec z.1 z.2.1 z.2.2.1 z.2.2.2) (fun m z => ∃ d, m + d = 4 ∧ z.1 = fb (fl (fun d => gby (bhd w h K M g rw_ rs n 0) (fun o => rl w h K M g o d) (24 * (w * h))) d) ∧ z.2.1 = fls (fl (fun d => gby (bhd w h K M g rw_ rs n 0) (fun o => rl w h K M g o d) (24 * (w * h))) d) 100000000 ∧ z.2.2.1 = nI d) (fun z => z.1 = fb (fl (fun d => gby (bhd w h K M g rw_ rs n 0) (fun o => rl w h K M g o d) (24 * (w * h))) 4)) ?_ N 4 ((-9), 100000000, 0, prints) ⟨0, rfl, rfl, rfl, rfl⟩ (by omega)
    rintro m ⟨x1, x2, x3, pr⟩ ⟨d, hm1, h1, h2, h3⟩ rec hrec
    have j1 : x1 = fb (fl (fun d => gby (bhd w h K M g rw_ rs n 0) (fun o => rl w h K M g o d) (24 * (w * h))) d) := h1
    have j2 : x2 = fls (fl (fun d => gby (bhd w h K M g rw_ rs n 0) (fun o => rl w h K M g o d) (24 * (w * h))) d) 100000000 := h2
    have h3 : x3 = nI d := h3
    subst h3
    show ∃ z, f_X11_next_b8 N wide tall groups rowMany top rolled kind mark rowWay rowSeen rec x1 x2 (nI d) pr = some z ∧ _
    unfold f_X11_next_b8 f_X11_next_j38
    by_cases e : d = 4
    · subst e
      rw [if_pos (by decide)]
      exact ⟨_, rfl, j1⟩
    · have hd : d < 4 := by omega
      obtain ⟨pr2, q1⟩ := m_greatestBy hB hM (N := N) (d := d) (prints := pr) hN hd
      rw [if_neg (show ¬ (4 : Int32) ≤ nI d from nI_ge hd (by decide)), q1, Option.bind_some, nI_1]
      dsimp only
      cases hg : gby (bhd w h K M g rw_ rs n 0) (fun o => rl w h K M g o d) (24 * (w * h)) with
      | none =>
        rw [if_pos (show en9 none = -9 from rfl), if_pos (show en9 none = -9 from rfl)]
        refine hrec (m - 1) _ (by omega) ⟨d + 1, by omega, ?_, ?_, rfl⟩
        · rw [fl_n (F := fun d => gby (bhd w h K M g rw_ rs n 0) (fun o => rl w h K M g o d) (24 * (w * h))) hg]; exact j1
        · rw [fl_n (F := fun d => gby (bhd w h K M g rw_ rs n 0) (fun o => rl w h K M g o d) (24 * (w * h))) hg]; exact j2
      | some v =>
        have hv := hF d v hg
        have hv9 : ¬ en9 (some v) = -9 := nI_m9 (by omega)
        rw [if_neg hv9, if_neg hv9]
        cases e2 : fl (fun d => gby (bhd w h K M g rw_ rs n 0) (fun o => rl w h K M g o d) (24 * (w * h))) d with
        | none =>
          rw [e2] at j2
          have hc : ¬ x2 ≤ en9 (some v) := by rw [j2]; exact nI_ge (a := v) (b := 100000000) (by omega) (by decide)
          rw [if_neg hc, if_neg hc, if_neg hv9]
          refine hrec (m - 1) _ (by omega) ⟨d + 1, by omega, ?_, ?_, rfl⟩
          · rw [fl_0 (F := fun d => gby (bhd w h K M g rw_ rs n 0) (fun o => rl w h K M g o d) (24 * (w * h))) hg e2]; rfl
          · rw [fl_0 (F := fun d => gby (bhd w h K M g rw_ rs n 0) (fun o => rl w h K M g o d) (24 * (w * h))) hg e2]; rfl
        | some q =>
          have hq := fl_6 hF d q e2
          have es := fl_s (F := fun d => gby (bhd w h K M g rw_ rs n 0) (fun o => rl w h K M g o d) (24 * (w * h))) hg e2
          rw [e2] at j2 j1
          by_cases z : q.2 ≤ v
          · have hc : x2 ≤ en9 (some v) := by rw [j2]; exact nI_le z (by omega)
            rw [if_pos hc, if_pos hc]
            refine hrec (m - 1) _ (by omega) ⟨d + 1, by omega, ?_, ?_, rfl⟩
            · rw [es, if_pos z]; exact j1
            · rw [es, if_pos z]; exact j2
          · have hc : ¬ x2 ≤ en9 (some v) := by rw [j2]; exact nI_ge (by omega) (by omega)
            rw [if_neg hc, if_neg hc, if_neg hv9]
            refine hrec (m - 1) _ (by omega) ⟨d + 1, by omega, ?_, ?_, rfl⟩
            · rw [es, if_neg z]; rfl
            · rw [es, if_neg z]; rfl
  obtain ⟨⟨a, b⟩, q1, q2⟩ := hl
  have q2 : a = fb (fl (fun d => gby (bhd w h K M g rw_ rs n 0) (fun o => rl w h K M g o d) (24 * (w * h))) 4) := q2
  subst q2
  exact ⟨b, q1⟩
end NX
theorem s_next (N : Nat) (hN : NB ≤ N) {size : Int32} {on : Int32} {kinds : Nat → Int32} {marks : Nat → Int32} {nb : Nat → Int32} {plen : Int32} {rowW : Nat → Int32} {rowS : Nat → Int32} {tally : Nat → Int32} {wide : Int32} {tall : Int32} {groups : Int32} {rowMany : Int32} {top : Nat → Int32} {east : Nat → Int32} {south : Nat → Int32} {rolled : Nat → Int32} {kind : Nat → Int32} {mark : Nat → Int32} {rowWay : Nat → Int32} {rowSeen : Nat → Int32} {prints : Nat → Int32} (hR : Rl size on kinds marks nb plen rowW rowS wide tall groups rowMany top east south rolled kind mark rowWay rowSeen) : ∃ (r : Int32) (oc : (Nat → Int32)) (om : (Nat → Int32)), f_X10_next N size on kinds marks nb plen rowW rowS tally = some (r, oc) ∧ f_X11_next N wide tall groups rowMany top rolled kind mark rowWay rowSeen prints = some (r, om) ∧ Rl size on kinds marks nb plen rowW rowS wide tall groups rowMany top east south rolled kind mark rowWay rowSeen := by
  obtain ⟨w, h, g, n, K, M, rw_, rs, hB, hC, hM⟩ := id hR
  obtain ⟨b1, b2, b3, b4, b5, b6, b7, b8, b9, b10⟩ := id hB
  obtain ⟨rfl, rfl, c3, c4, c5, rfl, c7, c8⟩ := id hC
  obtain ⟨rfl, rfl, rfl, rfl, m5, m6, m7, m8, m9, m10⟩ := id hM
  have w1 := wh25 b2 b4
  have w2 := wh4 b1 b3
  have hNB : 1000000000000 ≤ N := hN
  unfold f_X10_next f_X11_next f_X7_tellingWay
  obtain ⟨⟨z1, z2, z3⟩, q1, q2, q3, q4⟩ := p_tw15 hB hC (N := N) (tally := fil 0 28 tally) (by omega) (fun d p hd hp => fil_lt (by omega))
  have q2 : z1 = nI (ftn (bhd w h K M g rw_ rs n 0) (24 * (w * h))) := q2
  have q3 : z2 = nI (mkn (fun d => psb (bhd w h K M g rw_ rs n 0) (fun o => rl w h K M g o d) (24 * (w * h))) 4) := q3
  subst q2; subst q3
  obtain ⟨pr, r1⟩ := m_next8 hB hM (N := N) (prints := prints) (by omega)
  have hf6 : ftn (bhd w h K M g rw_ rs n 0) (24 * (w * h)) ≤ 24 * (w * h) := ctn_le _ _
  rw [r1, Option.bind_some, p_fill20 (by omega), Option.bind_some, q1, Option.bind_some]
  dsimp only
  by_cases e : ftn (bhd w h K M g rw_ rs n 0) (24 * (w * h)) = 0
  · rw [if_pos (by rw [e]; rfl), fl_none (fun d => by unfold gby; rw [if_pos e])]
    exact ⟨-9, _, _, rfl, rfl, hR⟩
  · rw [if_neg (nI_ne0 (by omega) (by omega)), p_leastT (f := fun d p => tc (bhd w h K M g rw_ rs n 0) (fun o => rl w h K M g o d) p (24 * (w * h))) (by omega) q4 (fun d p => Nat.le_trans (ctn_le _ _) (by omega)), Option.bind_some]
    have hE : (fun d => gby (bhd w h K M g rw_ rs n 0) (fun o => rl w h K M g o d) (24 * (w * h))) = fun d => if psb (bhd w h K M g rw_ rs n 0) (fun o => rl w h K M g o d) (24 * (w * h)) then some (mxs (fun p => tc (bhd w h K M g rw_ rs n 0) (fun o => rl w h K M g o d) p (24 * (w * h))) 6) else none := funext fun d => by
      unfold gby
      rw [if_neg e]
    rw [hE]
    exact ⟨_, _, _, rfl, rfl, hR⟩
