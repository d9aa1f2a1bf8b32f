/-! tours: what they are, and the class's search -/
theorem bt_and {vs c : Nat} (hc : c < 25) : (nI vs &&& nI (2 ^ c) = 0) = (vs.testBit c = false) := by
  have hp : 2 ^ c < 2 ^ 31 := Nat.pow_lt_pow_right (by decide) (by omega)
  rw [andI]
  cases h : vs.testBit c with
  | false =>
    have e : vs &&& 2 ^ c = 0 := Nat.eq_of_testBit_eq (fun i => by
      rw [Nat.testBit_and, Nat.testBit_two_pow, Nat.zero_testBit]
      by_cases z : c = i
      · rw [← z, h]; rfl
      · rw [decide_eq_false z, Bool.and_false])
    rw [e]
    exact propext ⟨fun _ => rfl, fun _ => rfl⟩
  | true =>
    have hle : vs &&& 2 ^ c ≤ 2 ^ c := Nat.and_le_right
    have h0 : vs &&& 2 ^ c ≠ 0 := fun z => by
      have h1 : (vs &&& 2 ^ c).testBit c = true := by
        rw [Nat.testBit_and, Nat.testBit_two_pow, h, decide_eq_true rfl]; rfl
      rw [z, Nat.zero_testBit] at h1; cases h1
    exact propext ⟨fun z => absurd z (nI_ne0 (by omega) (by omega)), fun z => by cases z⟩
theorem sm32 : ∀ c, c < 25 → ((nI c &&& 31).toBitVec.smod 32).toNat = c := by decide +kernel
theorem bt_shr {vs c : Nat} (hv : vs < 2 ^ 25) (hc : c < 25) : ((nI vs >>> (nI c &&& 31)) &&& 1 = 0) = (vs.testBit c = false) := by
  rw [pk_shrN (by omega) _ c (sm32 c hc), show (1 : Int32) = nI 1 from rfl, andI, Nat.and_one_is_mod, Nat.testBit_eq_decide_div_mod_eq]
  rcases Nat.mod_two_eq_zero_or_one (vs / 2 ^ c) with e | e
  · rw [e]; exact propext ⟨fun _ => rfl, fun _ => rfl⟩
  · rw [e]; exact propext ⟨fun z => absurd z (by decide), fun z => by cases z⟩
theorem bt_clr {vs c : Nat} (hv : vs < 2 ^ 25) (hc : c < 25) (h : vs.testBit c = false) : nI (vs ||| 2 ^ c) &&& (nI (2 ^ c) ^^^ (-1)) = nI vs := by
  rw [show (-1 : Int32) = nI (2 ^ 32 - 1) from rfl, xorI, andI]
  congr 1
  refine Nat.eq_of_testBit_eq (fun i => ?_)
  rw [Nat.testBit_and, Nat.testBit_or, Nat.testBit_xor, Nat.testBit_two_pow, Nat.testBit_two_pow_sub_one]
  by_cases z : c = i
  · subst z
    rw [decide_eq_true rfl, decide_eq_true (show c < 32 by omega), h]; rfl
  · rw [decide_eq_false z]
    by_cases z2 : i < 32
    · rw [decide_eq_true z2]
      cases vs.testBit i <;> rfl
    · rw [Nat.testBit_lt_two_pow (show vs < 2 ^ i from Nat.lt_of_lt_of_le hv (Nat.pow_le_pow_right (by decide) (by omega)))]; rfl
def se (f : Nat → Nat) : Nat → Nat → Nat
  | _, 0 => 0
  | d, e + 1 => f d + se f (d + 1) e
def fe {α : Type} (f : Nat → Option α) : Nat → Nat → Option α
  | _, 0 => none
  | d, e + 1 => match f d with
    | some x => some x
    | none => fe f (d + 1) e
theorem fe_s {α : Type} {f : Nat → Option α} {d e : Nat} {x : α} (h : f d = some x) : fe f d (e + 1) = some x := by rw [fe, h]
theorem fe_n {α : Type} {f : Nat → Option α} {d e : Nat} (h : f d = none) : fe f d (e + 1) = fe f (d + 1) e := by rw [fe, h]
section TN
variable (A : Nat → Nat → Option Nat) (P : Nat → Bool)
/-- how many tours have m rolls left -/
def tn : Nat → Nat → Nat → Nat
  | 0, s, _ => if P s then 1 else 0
  | m + 1, s, vs => se (fun d => match A s d with
    | none => 0
    | some t => if vs.testBit (t / 24) then 0 else tn m t (vs ||| 2 ^ (t / 24))) 0 4
def tnd (m s vs d : Nat) : Nat := match A s d with
  | none => 0
  | some t => if vs.testBit (t / 24) then 0 else tn A P m t (vs ||| 2 ^ (t / 24))
def ft : Nat → Nat → Nat → Option (List Nat)
  | 0, s, _ => if P s then some [] else none
  | m + 1, s, vs => fe (fun d => match A s d with
    | none => none
    | some t => if vs.testBit (t / 24) then none else (ft m t (vs ||| 2 ^ (t / 24))).map (fun l => d :: l)) 0 4
def ftd (m s vs d : Nat) : Option (List Nat) := match A s d with
  | none => none
  | some t => if vs.testBit (t / 24) then none else (ft A P m t (vs ||| 2 ^ (t / 24))).map (fun l => d :: l)
end TN
theorem tn_s {A : Nat → Nat → Option Nat} {P : Nat → Bool} {m s vs : Nat} : tn A P (m + 1) s vs = se (tnd A P m s vs) 0 4 := rfl
theorem ft_s {A : Nat → Nat → Option Nat} {P : Nat → Bool} {m s vs : Nat} : ft A P (m + 1) s vs = fe (ftd A P m s vs) 0 4 := rfl
section TL
variable {A : Nat → Nat → Option Nat} {P : Nat → Bool}
theorem tnd_n {m s vs d : Nat} (h : A s d = none) : tnd A P m s vs d = 0 ∧ ftd A P m s vs d = none := by
  unfold tnd ftd
  rw [h]; exact ⟨rfl, rfl⟩
theorem tnd_v {m s vs d t : Nat} (h : A s d = some t) (hv : vs.testBit (t / 24) = true) : tnd A P m s vs d = 0 ∧ ftd A P m s vs d = none := by
  unfold tnd ftd
  rw [h]
  show (if vs.testBit (t / 24) then 0 else _) = 0 ∧ (if vs.testBit (t / 24) then none else _) = none
  rw [hv]; exact ⟨rfl, rfl⟩
theorem tnd_u {m s vs d t : Nat} (h : A s d = some t) (hv : vs.testBit (t / 24) = false) : tnd A P m s vs d = tn A P m t (vs ||| 2 ^ (t / 24)) ∧ ftd A P m s vs d = (ft A P m t (vs ||| 2 ^ (t / 24))).map (fun l => d :: l) := by
  unfold tnd ftd
  rw [h]
  show (if vs.testBit (t / 24) then 0 else _) = _ ∧ (if vs.testBit (t / 24) then none else _) = _
  rw [hv]; exact ⟨rfl, rfl⟩
theorem se_fe {f : Nat → Nat} {F : Nat → Option (List Nat)} (h : ∀ d, f d = 0 ↔ F d = none) : ∀ e d, se f d e = 0 ↔ fe F d e = none
  | 0, d => ⟨fun _ => rfl, fun _ => rfl⟩
  | e + 1, d => by
    have ih := se_fe h e (d + 1)
    have hd := h d
    rw [se]
    cases hF : F d with
    | none => rw [fe_n hF, ← ih, hd.mpr hF, Nat.zero_add]
    | some l =>
      rw [fe_s hF]
      refine ⟨fun z => ?_, fun z => (by cases z)⟩
      have := hd.mp (by omega)
      rw [hF] at this; cases this
theorem tn_ft : ∀ m s vs, tn A P m s vs = 0 ↔ ft A P m s vs = none
  | 0, s, vs => by
    unfold tn ft
    cases P s with
    | false => exact ⟨fun _ => rfl, fun _ => rfl⟩
    | true => exact ⟨fun z => (by cases z), fun z => (by cases z)⟩
  | m + 1, s, vs => by
    rw [tn_s, ft_s]
    refine se_fe (fun d => ?_) 4 0
    cases h : A s d with
    | none => rw [(tnd_n h).1, (tnd_n h).2]; exact ⟨fun _ => rfl, fun _ => rfl⟩
    | some t =>
      cases hv : vs.testBit (t / 24) with
      | true => rw [(tnd_v h hv).1, (tnd_v h hv).2]; exact ⟨fun _ => rfl, fun _ => rfl⟩
      | false =>
        rw [(tnd_u h hv).1, (tnd_u h hv).2, tn_ft m t (vs ||| 2 ^ (t / 24))]
        cases ft A P m t (vs ||| 2 ^ (t / 24)) with
        | none => exact ⟨fun _ => rfl, fun _ => rfl⟩
        | some l => exact ⟨fun z => (by cases z), fun z => (by cases z)⟩
theorem tn_4 : ∀ m s vs, tn A P m s vs ≤ 4 ^ m
  | 0, s, vs => by unfold tn; split <;> decide
  | m + 1, s, vs => by
    have hd : ∀ d, tnd A P m s vs d ≤ 4 ^ m := fun d => by
      cases h : A s d with
      | none => rw [(tnd_n h).1]; exact Nat.zero_le _
      | some t =>
        cases hv : vs.testBit (t / 24) with
        | true => rw [(tnd_v h hv).1]; exact Nat.zero_le _
        | false => rw [(tnd_u h hv).1]; exact tn_4 m _ _
    have h0 := hd 0
    have h1 := hd 1
    have h2 := hd 2
    have h3 := hd 3
    rw [tn_s, Nat.pow_succ]
    show tnd A P m s vs 0 + (tnd A P m s vs 1 + (tnd A P m s vs 2 + (tnd A P m s vs 3 + 0))) ≤ 4 ^ m * 4
    omega
end TL
theorem vs_or {vs c : Nat} (hv : vs < 2 ^ 25) (hc : c < 25) : vs ||| 2 ^ c < 2 ^ 25 := Nat.or_lt_two_pow hv (Nat.pow_lt_pow_right (by decide) hc)
section TC
variable {w h g n : Nat} {K M rw_ rs : Nat → Nat} {size on : Int32} {kinds marks nb : Nat → Int32} {plen : Int32} {rowW rowS : Nat → Int32} {wide tall groups rowMany : Int32} {top east south rolled kind mark rowWay rowSeen : Nat → Int32}
theorem p_extJ {s v : Nat} {x : Int32} {steps : Nat → Int32} (hs : s < 600) (hv : v < 7) : f_X9_extend_j14 (nI s) (nI v) x steps = some (x + bI (ws v (s % 24)), steps) := by
  unfold f_X9_extend_j14 f_X4_stanceOf
  rw [Option.bind_some, rm24 (by omega), ws_k _ (Nat.mod_lt _ (by decide)) v (by omega) (Or.inl hv), Option.bind_some, p_oneIf, Option.bind_some]
theorem p_ext0 (hB : Bd w h g n K M rw_ rs) (hC : Rc w h g n K M rw_ rs size on kinds marks nb plen rowW rowS) {N L v : Nat} (hN : 1000 < N) (hL : L ≤ 15) (hv : v < 7) : ∀ m fu s vs k f steps, m < fu → k + m = L → s < 24 * (w * h) → vs < 2 ^ 25 → ∃ st2, f_X9_ext N size on kinds marks nb (nI v) (nI L) 0 fu (nI s) (nI vs) (nI k) (nI f) steps = some (nI (f + tn (rl w h K M g) (fun s => ws v (s % 24)) m s vs), st2) := by
  have w1 := wh25 hB.2.1 hB.2.2.2.1
  intro m
  induction m with
  | zero =>
    intro fu s vs k f steps hf hk hs hvs
    obtain ⟨fu, rfl⟩ : ∃ q, fu = q + 1 := ⟨fu - 1, by omega⟩
    refine ⟨steps, ?_⟩
    show f_X9_extend_s N (f_X9_ext N size on kinds marks nb (nI v) (nI L) 0 fu) (nI s) (nI vs) (nI k) size on kinds marks nb (nI v) (nI L) 0 (nI f) steps = _
    unfold f_X9_extend_s
    rw [show k = L by omega, if_pos (Int32.le_refl _), p_extJ (by omega) hv]
    unfold tn
    cases ws v (s % 24) with
    | false =>
      show some (nI f + nI 0, steps) = _
      rw [nI_add]; rfl
    | true =>
      show some (nI f + nI 1, steps) = _
      rw [nI_add]; rfl
  | succ m ih =>
    intro fu s vs k f steps hf hk hs hvs
    obtain ⟨fu, rfl⟩ : ∃ q, fu = q + 1 := ⟨fu - 1, by omega⟩
    show ∃ st2, f_X9_extend_s N (f_X9_ext N size on kinds marks nb (nI v) (nI L) 0 fu) (nI s) (nI vs) (nI k) size on kinds marks nb (nI v) (nI L) 0 (nI f) steps = some (nI (f + tn (rl w h K M g) (fun s => ws v (s % 24)) (m + 1) s vs), st2)
    unfold f_X9_extend_s
    rw [if_neg (nI_ge (show k < L by omega) (by omega)), if_pos (show nI k < 16 from nI_lt (show k < 16 by omega) (by decide)), tn_s]
    have hl : ∃ z, f_X9_extend_l41 (f_X9_ext N size on kinds marks nb (nI v) (nI L) 0 fu) (nI s) (nI vs) (nI k) size on kinds marks nb (nI v) (nI L) 0 N (0, nI f, steps) = some z ∧ z.1 = nI (f + se (tnd (rl w h K M g) (fun s => ws v (s % 24)) m s vs) 0 4) := by
      refine lp_ex (b := fun rec z => f_X9_extend_b41 (f_X9_ext N size on kinds marks nb (nI v) (nI L) 0 fu) (nI s) (nI vs) (nI k) size on kinds marks nb (nI v) (nI L) 0 rec z.1 z.2.1 z.2.2) (fun e z => ∃ d x, e + d = 4 ∧ z.1 = nI d ∧ z.2.1 = nI x ∧ x + se (tnd (rl w h K M g) (fun s => ws v (s % 24)) m s vs) d e = f + se (tnd (rl w h K M g) (fun s => ws v (s % 24)) m s vs) 0 4) (fun z => z.1 = nI (f + se (tnd (rl w h K M g) (fun s => ws v (s % 24)) m s vs) 0 4)) ?_ N 4 (0, nI f, steps) ⟨0, f, rfl, rfl, rfl, rfl⟩ (by omega)
      rintro e ⟨x4, fo, stp⟩ ⟨d, x, he, hx4, hfo, hx⟩ rec hrec
      have hx4 : x4 = nI d := hx4
      have hfo : fo = nI x := hfo
      subst hx4; subst hfo
      show ∃ z, f_X9_extend_b41 (f_X9_ext N size on kinds marks nb (nI v) (nI L) 0 fu) (nI s) (nI vs) (nI k) size on kinds marks nb (nI v) (nI L) 0 rec (nI d) (nI x) stp = some z ∧ _
      unfold f_X9_extend_b41
      cases e with
      | zero =>
        rw [show d = 4 by omega, if_pos (by decide)]
        refine ⟨_, rfl, ?_⟩
        show nI x = _
        rw [← hx]; rfl
      | succ e =>
        have hd : d < 4 := by omega
        have hx : x + (tnd (rl w h K M g) (fun s => ws v (s % 24)) m s vs d + se (tnd (rl w h K M g) (fun s => ws v (s % 24)) m s vs) (d + 1) e) = f + se (tnd (rl w h K M g) (fun s => ws v (s % 24)) m s vs) 0 4 := hx
        rw [if_neg (show ¬ (4 : Int32) ≤ nI d from nI_ge hd (by decide)), if_pos rfl]
        unfold f_X9_extend_j61 f_X4_cellOf
        rw [p_after hB hC hs hd, Option.bind_some, Option.bind_some]
        simp only [nI_1]
        cases hr : rl w h K M g s d with
        | none =>
          rw [if_pos (show en none = -1 from rfl)]
          rw [(tnd_n hr).1] at hx
          exact hrec e _ (by omega) ⟨d + 1, x, by omega, rfl, rfl, by omega⟩
        | some t =>
          have ht := rl_b hB s d hs hd t hr
          have htc : t / 24 < 25 := by omega
          rw [if_neg (show ¬ en (some t) = -1 from nI_m1 (by omega)), show en (some t) = nI t from rfl, dv24 (by omega), sh1 _ htc]
          cases hb : vs.testBit (t / 24) with
          | true =>
            rw [if_neg (fun z => by rw [bt_and htc, hb] at z; cases z)]
            rw [(tnd_v hr hb).1] at hx
            exact hrec e _ (by omega) ⟨d + 1, x, by omega, rfl, rfl, by omega⟩
          | false =>
            rw [if_pos (by rw [bt_and htc]; exact hb), ckn (show k < 16 by omega) (by decide), Option.bind_some, orI]
            obtain ⟨st2, q⟩ := ih fu t (vs ||| 2 ^ (t / 24)) (k + 1) x (upd stp (nI k).toNatClampNeg (nI d)) (by omega) (by omega) ht (vs_or hvs htc)
            rw [q, Option.bind_some]
            rw [(tnd_u hr hb).1] at hx
            exact hrec e _ (by omega) ⟨d + 1, x + tn (rl w h K M g) (fun s => ws v (s % 24)) m t (vs ||| 2 ^ (t / 24)), by omega, rfl, rfl, by omega⟩
    obtain ⟨⟨a, b⟩, q1, q2⟩ := hl
    have q2 : a = nI (f + se (tnd (rl w h K M g) (fun s => ws v (s % 24)) m s vs) 0 4) := q2
    subst q2
    rw [q1]
    exact ⟨b, rfl⟩
theorem p_ext1 (hB : Bd w h g n K M rw_ rs) (hC : Rc w h g n K M rw_ rs size on kinds marks nb plen rowW rowS) {N L v : Nat} (hN : 1000 < N) (hL : L ≤ 15) (hv : v < 7) : ∀ m fu s vs k steps, m < fu → k + m = L → s < 24 * (w * h) → vs < 2 ^ 25 → ∃ st2, f_X9_ext N size on kinds marks nb (nI v) (nI L) 1 fu (nI s) (nI vs) (nI k) 0 steps = some (bI (ft (rl w h K M g) (fun s => ws v (s % 24)) m s vs).isSome, st2) ∧ (∀ i, i < k → st2 i = steps i) ∧ ∀ l, ft (rl w h K M g) (fun s => ws v (s % 24)) m s vs = some l → ∀ i, i < m → st2 (k + i) = nI (l.getD i 0) := by
  have w1 := wh25 hB.2.1 hB.2.2.2.1
  intro m
  induction m with
  | zero =>
    intro fu s vs k steps hf hk hs hvs
    obtain ⟨fu, rfl⟩ : ∃ q, fu = q + 1 := ⟨fu - 1, by omega⟩
    refine ⟨steps, ?_, fun _ _ => rfl, fun l _ i hi => absurd hi (Nat.not_lt_zero i)⟩
    show f_X9_extend_s N (f_X9_ext N size on kinds marks nb (nI v) (nI L) 1 fu) (nI s) (nI vs) (nI k) size on kinds marks nb (nI v) (nI L) 1 0 steps = _
    unfold f_X9_extend_s
    rw [show k = L by omega, if_pos (Int32.le_refl _), p_extJ (by omega) hv]
    unfold ft
    cases ws v (s % 24) with
    | false => rfl
    | true => rfl
  | succ m ih =>
    intro fu s vs k steps hf hk hs hvs
    obtain ⟨fu, rfl⟩ : ∃ q, fu = q + 1 := ⟨fu - 1, by omega⟩
    show ∃ st2, f_X9_extend_s N (f_X9_ext N size on kinds marks nb (nI v) (nI L) 1 fu) (nI s) (nI vs) (nI k) size on kinds marks nb (nI v) (nI L) 1 0 steps = some (bI (ft (rl w h K M g) (fun s => ws v (s % 24)) (m + 1) s vs).isSome, st2) ∧ (∀ i, i < k → st2 i = steps i) ∧ ∀ l, ft (rl w h K M g) (fun s => ws v (s % 24)) (m + 1) s vs = some l → ∀ i, i < m + 1 → st2 (k + i) = nI (l.getD i 0)
    unfold f_X9_extend_s
    rw [if_neg (nI_ge (show k < L by omega) (by omega)), if_pos (show nI k < 16 from nI_lt (show k < 16 by omega) (by decide)), ft_s]
    have hl : ∃ z, f_X9_extend_l41 (f_X9_ext N size on kinds marks nb (nI v) (nI L) 1 fu) (nI s) (nI vs) (nI k) size on kinds marks nb (nI v) (nI L) 1 N (0, 0, steps) = some z ∧ z.1 = bI (fe (ftd (rl w h K M g) (fun s => ws v (s % 24)) m s vs) 0 4).isSome ∧ (∀ i, i < k → z.2 i = steps i) ∧ ∀ l, fe (ftd (rl w h K M g) (fun s => ws v (s % 24)) m s vs) 0 4 = some l → ∀ i, i < m + 1 → z.2 (k + i) = nI (l.getD i 0) := by
      refine lp_ex (b := fun rec z => f_X9_extend_b41 (f_X9_ext N size on kinds marks nb (nI v) (nI L) 1 fu) (nI s) (nI vs) (nI k) size on kinds marks nb (nI v) (nI L) 1 rec z.1 z.2.1 z.2.2) (fun e z => ∃ d, e + d = 4 ∧ z.1 = nI d ∧ (∀ i, i < k → z.2.2 i = steps i) ∧ ((z.2.1 = 0 ∧ fe (ftd (rl w h K M g) (fun s => ws v (s % 24)) m s vs) 0 4 = fe (ftd (rl w h K M g) (fun s => ws v (s % 24)) m s vs) d e) ∨ (z.2.1 = 1 ∧ ∃ l, fe (ftd (rl w h K M g) (fun s => ws v (s % 24)) m s vs) 0 4 = some l ∧ ∀ i, i < m + 1 → z.2.2 (k + i) = nI (l.getD i 0)))) (fun z => z.1 = bI (fe (ftd (rl w h K M g) (fun s => ws v (s % 24)) m s vs) 0 4).isSome ∧ (∀ i, i < k → z.2 i = steps i) ∧ ∀ l, fe (ftd (rl w h K M g) (fun s => ws v (s % 24)) m s vs) 0 4 = some l → ∀ i, i < m + 1 → z.2 (k + i) = nI (l.getD i 0)) ?_ N 4 (0, 0, steps) ⟨0, rfl, rfl, fun _ _ => rfl, Or.inl ⟨rfl, rfl⟩⟩ (by omega)
      rintro e ⟨x4, fo, stp⟩ ⟨d, he, hx4, hst, hcase⟩ rec hrec
      have hx4 : x4 = nI d := hx4
      subst hx4
      have hst : ∀ i, i < k → stp i = steps i := hst
      show ∃ z, f_X9_extend_b41 (f_X9_ext N size on kinds marks nb (nI v) (nI L) 1 fu) (nI s) (nI vs) (nI k) size on kinds marks nb (nI v) (nI L) 1 rec (nI d) fo stp = some z ∧ _
      unfold f_X9_extend_b41
      rcases hcase with ⟨hfo, hfe⟩ | ⟨hfo, l, hfe, hlst⟩
      · have hfo : fo = 0 := hfo
        subst hfo
        cases e with
        | zero =>
          have hfe : fe (ftd (rl w h K M g) (fun s => ws v (s % 24)) m s vs) 0 4 = none := hfe
          rw [show d = 4 by omega, if_pos (by decide), hfe]
          exact ⟨_, rfl, rfl, hst, fun l z => by cases z⟩
        | succ e =>
          have hd : d < 4 := by omega
          rw [if_neg (show ¬ (4 : Int32) ≤ nI d from nI_ge hd (by decide)), if_neg (show ¬ (1 : Int32) = 0 by decide), if_neg (show ¬ (0 : Int32) < 0 by decide)]
          unfold f_X9_extend_j61 f_X4_cellOf
          rw [p_after hB hC hs hd, Option.bind_some, Option.bind_some]
          simp only [nI_1]
          cases hr : rl w h K M g s d with
          | none =>
            rw [if_pos (show en none = -1 from rfl)]
            rw [fe_n (tnd_n hr).2] at hfe
            exact hrec e _ (by omega) ⟨d + 1, by omega, rfl, hst, Or.inl ⟨rfl, hfe⟩⟩
          | some t =>
            have ht := rl_b hB s d hs hd t hr
            have htc : t / 24 < 25 := by omega
            rw [if_neg (show ¬ en (some t) = -1 from nI_m1 (by omega)), show en (some t) = nI t from rfl, dv24 (by omega), sh1 _ htc]
            cases hb : vs.testBit (t / 24) with
            | true =>
              rw [if_neg (fun z => by rw [bt_and htc, hb] at z; cases z)]
              rw [fe_n (tnd_v hr hb).2] at hfe
              exact hrec e _ (by omega) ⟨d + 1, by omega, rfl, hst, Or.inl ⟨rfl, hfe⟩⟩
            | false =>
              rw [if_pos (by rw [bt_and htc]; exact hb), ckn (show k < 16 by omega) (by decide), Option.bind_some, orI, cln (show k < 2 ^ 31 by omega)]
              obtain ⟨st2, q1, q2, q3⟩ := ih fu t (vs ||| 2 ^ (t / 24)) (k + 1) (upd stp k (nI d)) (by omega) (by omega) ht (vs_or hvs htc)
              rw [q1, Option.bind_some]
              have hpre : ∀ i, i < k → st2 i = steps i := fun i hi => by
                rw [q2 i (by omega), updn, if_neg (by omega)]; exact hst i hi
              cases hft : ft (rl w h K M g) (fun s => ws v (s % 24)) m t (vs ||| 2 ^ (t / 24)) with
              | none =>
                have hfe := hfe.trans (fe_n (d := d) (e := e) (by rw [(tnd_u hr hb).2, hft]; rfl))
                exact hrec e _ (by omega) ⟨d + 1, by omega, rfl, hpre, Or.inl ⟨rfl, hfe⟩⟩
              | some l =>
                have hfe := hfe.trans (fe_s (d := d) (e := e) (x := d :: l) (by rw [(tnd_u hr hb).2, hft]; rfl))
                refine hrec e _ (by omega) ⟨d + 1, by omega, rfl, hpre, Or.inr ⟨rfl, d :: l, hfe, fun i hi => ?_⟩⟩
                show st2 (k + i) = nI ((d :: l).getD i 0)
                cases i with
                | zero =>
                  rw [Nat.add_zero, q2 k (by omega), updn, if_pos rfl]; rfl
                | succ i =>
                  rw [show k + (i + 1) = k + 1 + i by omega, q3 l hft i (by omega)]; rfl
      · have hfo : fo = 1 := hfo
        subst hfo
        have hfin : ∃ z, (some ((1 : Int32), stp)) = some z ∧ z.1 = bI (fe (ftd (rl w h K M g) (fun s => ws v (s % 24)) m s vs) 0 4).isSome ∧ (∀ i, i < k → z.2 i = steps i) ∧ ∀ l, fe (ftd (rl w h K M g) (fun s => ws v (s % 24)) m s vs) 0 4 = some l → ∀ i, i < m + 1 → z.2 (k + i) = nI (l.getD i 0) := by
          refine ⟨_, rfl, by rw [hfe]; rfl, hst, fun l2 z i hi => ?_⟩
          rw [hfe] at z
          cases z
          exact hlst i hi
        by_cases e4 : d = 4
        · rw [e4, if_pos (by decide)]; exact hfin
        · rw [if_neg (show ¬ (4 : Int32) ≤ nI d from nI_ge (show d < 4 by omega) (by decide)), if_neg (show ¬ (1 : Int32) = 0 by decide), if_pos (show (0 : Int32) < 1 by decide)]; exact hfin
    obtain ⟨⟨a, b⟩, q1, q2, q3, q4⟩ := hl
    have q2 : a = bI (fe (ftd (rl w h K M g) (fun s => ws v (s % 24)) m s vs) 0 4).isSome := q2
    subst q2
    rw [q1]
    exact ⟨b, rfl, q3, q4⟩
end TC
