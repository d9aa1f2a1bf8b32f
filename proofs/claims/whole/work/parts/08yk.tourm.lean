/-! tours: the reference's walk -/
def Rch {α β : Type} (b : (α → Option β) → α → Option β) (n : Nat) (x x' : α) : Prop := ∀ c y, (∀ N, c ≤ N → nx_lp b N x' = some y) → ∀ N, c + n ≤ N → nx_lp b N x = some y
theorem Rch_1 {α β : Type} {b : (α → Option β) → α → Option β} {x x' : α} (h : ∀ rec, b rec x = rec x') : Rch b 1 x x' := fun c y hy N hN => by
  obtain ⟨N, rfl⟩ : ∃ q, N = q + 1 := ⟨N - 1, by omega⟩
  show b (nx_lp b N) x = some y
  rw [h]; exact hy N (by omega)
theorem Rch_t {α β : Type} {b : (α → Option β) → α → Option β} {n1 n2 : Nat} {x x1 x2 : α} (h1 : Rch b n1 x x1) (h2 : Rch b n2 x1 x2) : Rch b (n1 + n2) x x2 := fun c y hy N hN => h1 (c + n2) y (h2 c y hy) N (by omega)
theorem Rch_le {α β : Type} {b : (α → Option β) → α → Option β} {n1 n2 : Nat} {x x' : α} (h : Rch b n1 x x') (hn : n1 ≤ n2) : Rch b n2 x x' := fun c y hy N hN => h c y hy N (by omega)
def itr : Nat → Nat
  | 0 => 1
  | m + 1 => 1 + 4 * (1 + itr m)
theorem itr_m : ∀ m k, itr m ≤ itr (m + k)
  | m, 0 => Nat.le_refl _
  | m, k + 1 => by
    have h1 := itr_m m k
    have h2 : itr (m + (k + 1)) = 1 + 4 * (1 + itr (m + k)) := rfl
    omega
theorem itr_b {L : Nat} (h : L ≤ 15) : 1 + itr L ≤ 1000000000000 := by
  have h1 := itr_m L (15 - L)
  rw [show L + (15 - L) = 15 by omega] at h1
  have h2 : itr 15 ≤ 10000000000 := by decide
  omega
def gi (d : Nat) : Int32 := if d = 0 then -1 else nI (d - 1)
theorem gi_s (d : Nat) : gi (d + 1) = nI d := rfl
theorem gi_1 (d : Nat) : gi d + 1 = nI d := by
  cases d with
  | zero => rfl
  | succ d => rw [gi_s, nI_1]
/-- what the first tour's row holds -/
def FP (L τ k : Nat) (goes F F2 : Nat → Int32) (o : Option (List Nat)) : Prop := (τ = 0 → ∀ l, o = some l → ∀ i, i < L → F2 i = if i < k then goes i else nI (l.getD (i - k) 0)) ∧ ((τ ≠ 0 ∨ o = none) → F2 = F)
theorem FP_c {L τ k : Nat} {g1 g2 F F2 : Nat → Int32} {o : Option (List Nat)} (h : FP L τ k g1 F F2 o) (hg : ∀ i, i < k → g1 i = g2 i) : FP L τ k g2 F F2 o := ⟨fun h0 l hl i hi => by
  rw [h.1 h0 l hl i hi]
  by_cases e : i < k
  · rw [if_pos e, if_pos e, hg i e]
  · rw [if_neg e, if_neg e], h.2⟩
section TM
variable {w h g n : Nat} {K M rw_ rs : Nat → Nat} {size on : Int32} {kinds marks nb : Nat → Int32} {plen : Int32} {rowW rowS : Nat → Int32} {wide tall groups rowMany : Int32} {top east south rolled kind mark rowWay rowSeen : Nat → Int32}
theorem m_endTour (hM : Rm w h g n K M rw_ rs wide tall groups rowMany top east south rolled kind mark rowWay rowSeen) {N L v s τ : Nat} {at_ goes F : Nat → Int32} (hN : 1000 < N) (hL : L ≤ 15) (hv : v < 7) (hs : s < 600) (hat : at_ L = nI s) (hτ : τ < 2 ^ 31) : f_X11_endTour N (nI L) (nI v) (nI τ) top at_ goes F = some (nI (τ + if ws v (s % 24) then 1 else 0), if ws v (s % 24) = true ∧ τ = 0 then (fun i => if i < L then goes i else F i) else F) := by
  have hj : f_X11_endTour_j23 N (nI L) (nI τ) goes F = some (nI (τ + 1), if τ = 0 then (fun i => if i < L then goes i else F i) else F) := by
    unfold f_X11_endTour_j23
    have hl : f_X11_endTour_l25 (nI L) (nI τ) goes N (0, F) = some (if τ = 0 then (fun i => if i < L then goes i else F i) else F) := by
      by_cases e : τ = 0
      · rw [if_pos e]
        have e0 : (fun j => if j < 0 then goes j else F j) = F := funext (fun j => if_neg (Nat.not_lt_zero j))
        have := lp_run (b := fun rec z => f_X11_endTour_b25 (nI L) (nI τ) goes rec z.1 z.2) (fun i => (nI i, fun j => if j < i then goes j else F j)) L (fin := fun i => if i < L then goes i else F i) (fun i hi rec => ?_) (fun rec => ?_) N (by omega)
        · rw [e0] at this; exact this
        · show f_X11_endTour_b25 (nI L) (nI τ) goes rec (nI i) (fun j => if j < i then goes j else F j) = rec (nI (i + 1), fun j => if j < i + 1 then goes j else F j)
          unfold f_X11_endTour_b25
          rw [if_neg (nI_ge hi (by omega)), if_pos (by rw [e]; rfl), rdn (show i < 17 by omega) (by decide), Option.bind_some, ckn (show i < 16 by omega) (by decide), Option.bind_some, cln (by omega), nI_1]
          congr 2
          funext j
          rw [updn]
          by_cases z : j = i
          · rw [if_pos z, if_pos (by omega), z]
          · rw [if_neg z]
            by_cases z2 : j < i
            · rw [if_pos z2, if_pos (by omega)]
            · rw [if_neg z2, if_neg (by omega)]
        · show f_X11_endTour_b25 (nI L) (nI τ) goes rec (nI L) (fun j => if j < L then goes j else F j) = _
          unfold f_X11_endTour_b25
          rw [if_pos (Int32.le_refl _)]
      · rw [if_neg e]
        obtain ⟨N, rfl⟩ : ∃ q, N = q + 1 := ⟨N - 1, by omega⟩
        show f_X11_endTour_b25 (nI L) (nI τ) goes (f_X11_endTour_l25 (nI L) (nI τ) goes N) 0 F = some F
        unfold f_X11_endTour_b25
        rw [if_neg (show ¬ nI τ = 0 from nI_ne0 (by omega) hτ)]
        by_cases z : nI L ≤ 0
        · rw [if_pos z]
        · rw [if_neg z]
    rw [hl, Option.bind_some, nI_1]
  unfold f_X11_endTour
  have m5 := hM.2.2.2.2.1
  by_cases e0 : v = 0
  · subst e0
    have hw : ws 0 (s % 24) = true := rfl
    rw [if_pos (show nI 0 ≤ 0 from Int32.le_refl _), hj, hw, if_pos rfl]
    by_cases z : τ = 0
    · rw [if_pos z, if_pos ⟨rfl, z⟩]
    · rw [if_neg z, if_neg (fun q => z q.2)]
  · have hm := Nat.mod_lt s (show 0 < 24 by decide)
    have ht6 := (tp_m s).1
    rw [if_neg (show ¬ nI v ≤ 0 from nI_nle (by omega) (by omega)), rdn (show L < 17 by omega) (by decide), Option.bind_some, cln (by omega), hat, rm24 (by omega), rdn hm (by decide), Option.bind_some, cln (by omega), (m5 _ hm).1]
    by_cases e2 : tp (s % 24) = v
    · have hw : ws v (s % 24) = true := by unfold ws; simp [e2, hv]
      rw [if_pos (by rw [e2]), hj, hw, if_pos rfl]
      by_cases z : τ = 0
      · rw [if_pos z, if_pos ⟨rfl, z⟩]
      · rw [if_neg z, if_neg (fun q => z q.2)]
    · have hw : ws v (s % 24) = false := by unfold ws; simp [e0, e2]; omega
      rw [if_neg (fun z => e2 ((nI_eq (by omega) (by omega)).mp z)), hw, if_neg (by decide), if_neg (fun q => by cases q.1)]
      rfl
/-- a roll is tried at a state that is no end -/
theorem m_try (hB : Bd w h g n K M rw_ rs) (hM : Rm w h g n K M rw_ rs wide tall groups rowMany top east south rolled kind mark rowWay rowSeen) {L k s d : Nat} {at_ goes F : Nat → Int32} {x2 x3 x5 : Int32} {rec : (Int32 × Int32 × Int32 × (Nat → Int32) × (Nat → Int32) × (Nat → Int32)) → Option (Int32 × (Nat → Int32) × (Nat → Int32) × (Nat → Int32))} (hk : k ≤ L) (hL : L ≤ 15) (hs : s < 24 * (w * h)) (hd : d ≤ 4) (hat : at_ k = nI s) (hgo : goes k = gi d) : f_X11_layTours_j75 rec x2 x3 (nI k) wide tall groups x5 (nI L) top rolled kind mark at_ goes F = f_X11_layTours_j120 rec x2 x3 (nI k) (if d ≤ 3 then en9 (rl w h K M g s d) else -9) x5 (nI L) at_ (upd goes k (nI d)) F := by
  have w1 := wh25 hB.2.1 hB.2.2.2.1
  unfold f_X11_layTours_j75
  rw [rdn (show k < 17 by omega) (by decide), Option.bind_some, ckn (show k < 17 by omega) (by decide), Option.bind_some, rdn (show k < 17 by omega) (by decide), Option.bind_some, cln (by omega), hgo, gi_1, updn, if_pos rfl]
  by_cases e : d ≤ 3
  · rw [if_pos (show nI d ≤ 3 from nI_le e (by decide)), if_pos e, rdn (show k < 17 by omega) (by decide), Option.bind_some, Option.bind_some, hat, m_rollOf hB hM hs (show d < 4 by omega), Option.bind_some]
  · rw [if_neg (show ¬ nI d ≤ 3 from nI_ge (show 3 < d by omega) (by omega)), if_neg e]
def TB (N : Nat) (x2 wide tall groups tl : Int32) (top rolled kind mark : Nat → Int32) (rec : (Int32 × Int32 × Int32 × (Nat → Int32) × (Nat → Int32) × (Nat → Int32)) → Option (Int32 × (Nat → Int32) × (Nat → Int32) × (Nat → Int32))) (z : Int32 × Int32 × Int32 × (Nat → Int32) × (Nat → Int32) × (Nat → Int32)) : Option (Int32 × (Nat → Int32) × (Nat → Int32) × (Nat → Int32)) := f_X11_layTours_b43 N x2 wide tall groups tl top rolled kind mark rec z.1 z.2.1 z.2.2.1 z.2.2.2.1 z.2.2.2.2.1 z.2.2.2.2.2
theorem m_node0 (hB : Bd w h g n K M rw_ rs) (hM : Rm w h g n K M rw_ rs wide tall groups rowMany top east south rolled kind mark rowWay rowSeen) {N L k s d : Nat} {at_ goes F : Nat → Int32} {x2 x3 x5 : Int32} (hk : k < L) (hL : L ≤ 15) (hs : s < 24 * (w * h)) (hd : d ≤ 4) (hat : at_ k = nI s) (hgo : goes k = gi d) (rec : (Int32 × Int32 × Int32 × (Nat → Int32) × (Nat → Int32) × (Nat → Int32)) → Option (Int32 × (Nat → Int32) × (Nat → Int32) × (Nat → Int32))) : TB N x2 wide tall groups (nI L) top rolled kind mark rec (x3, nI k, x5, at_, goes, F) = f_X11_layTours_j120 rec x2 x3 (nI k) (if d ≤ 3 then en9 (rl w h K M g s d) else -9) x5 (nI L) at_ (upd goes k (nI d)) F := by
  unfold TB f_X11_layTours_b43
  dsimp only
  rw [if_neg (nI_pos (show k < 2 ^ 31 by omega)), if_neg (show ¬ nI k = nI L from fun z => by have := (nI_eq (by omega) (by omega)).mp z; omega), m_try hB hM (by omega) hL hs hd hat hgo]
theorem m_j142 {k s vs0 : Nat} {at_ goes F : Nat → Int32} {x2 x5 : Int32} {rec : (Int32 × Int32 × Int32 × (Nat → Int32) × (Nat → Int32) × (Nat → Int32)) → Option (Int32 × (Nat → Int32) × (Nat → Int32) × (Nat → Int32))} (hk : k ≤ 15) (hs : s < 600) (hat : at_ k = nI s) (hv : vs0 < 2 ^ 25) (hb : vs0.testBit (s / 24) = false) : f_X11_layTours_j142 rec x2 (nI (vs0 ||| 2 ^ (s / 24))) (nI k) x5 at_ goes F = rec (nI vs0, nI k + (-1), x5, at_, goes, F) := by
  unfold f_X11_layTours_j142
  rw [rdn (show k < 17 by omega) (by decide), Option.bind_some, cln (by omega), hat, dv24 (by omega), sh1 _ (by omega), bt_clr hv (by omega) hb]
theorem m_pop (hB : Bd w h g n K M rw_ rs) (hM : Rm w h g n K M rw_ rs wide tall groups rowMany top east south rolled kind mark rowWay rowSeen) {N L k s vs0 : Nat} {at_ goes F : Nat → Int32} {x2 x5 : Int32} (hk : k < L) (hL : L ≤ 15) (hs : s < 24 * (w * h)) (hat : at_ k = nI s) (hgo : goes k = gi 4) (hv : vs0 < 2 ^ 25) (hb : vs0.testBit (s / 24) = false) (rec : (Int32 × Int32 × Int32 × (Nat → Int32) × (Nat → Int32) × (Nat → Int32)) → Option (Int32 × (Nat → Int32) × (Nat → Int32) × (Nat → Int32))) : TB N x2 wide tall groups (nI L) top rolled kind mark rec (nI (vs0 ||| 2 ^ (s / 24)), nI k, x5, at_, goes, F) = rec (nI vs0, nI k + (-1), x5, at_, upd goes k (nI 4), F) := by
  have w1 := wh25 hB.2.1 hB.2.2.2.1
  rw [m_node0 hB hM hk hL hs (Nat.le_refl 4) hat hgo]
  unfold f_X11_layTours_j120
  rw [rdn (show k < 17 by omega) (by decide), Option.bind_some, cln (by omega), updn, if_pos rfl, if_pos (show (3 : Int32) < nI 4 by decide), m_j142 (by omega) (by omega) hat hv hb]
theorem m_skip (hB : Bd w h g n K M rw_ rs) (hM : Rm w h g n K M rw_ rs wide tall groups rowMany top east south rolled kind mark rowWay rowSeen) {N L k s d vs : Nat} {at_ goes F : Nat → Int32} {x2 x5 : Int32} (hk : k < L) (hL : L ≤ 15) (hs : s < 24 * (w * h)) (hd : d < 4) (hat : at_ k = nI s) (hgo : goes k = gi d) (hv : vs < 2 ^ 25) (hn : ∀ t, rl w h K M g s d = some t → vs.testBit (t / 24) = true) (rec : (Int32 × Int32 × Int32 × (Nat → Int32) × (Nat → Int32) × (Nat → Int32)) → Option (Int32 × (Nat → Int32) × (Nat → Int32) × (Nat → Int32))) : TB N x2 wide tall groups (nI L) top rolled kind mark rec (nI vs, nI k, x5, at_, goes, F) = rec (nI vs, nI k, x5, at_, upd goes k (nI d), F) := by
  have w1 := wh25 hB.2.1 hB.2.2.2.1
  rw [m_node0 hB hM hk hL hs (by omega) hat hgo, if_pos (show d ≤ 3 by omega)]
  unfold f_X11_layTours_j120
  rw [rdn (show k < 17 by omega) (by decide), Option.bind_some, cln (by omega), updn, if_pos rfl, if_neg (show ¬ (3 : Int32) < nI d from nI_nlt (a := 3) (show d ≤ 3 by omega) (by decide)), if_neg (show ¬ nI k = nI L from fun z => by have := (nI_eq (by omega) (by omega)).mp z; omega)]
  cases hr : rl w h K M g s d with
  | none => rw [if_pos (show en9 none = -9 from rfl)]
  | some t =>
    have ht := rl_b hB s d hs hd t hr
    rw [if_neg (show ¬ en9 (some t) = -9 from nI_m9 (by omega)), show en9 (some t) = nI t from rfl, dv24 (by omega), if_neg (fun z => by rw [bt_shr hv (show t / 24 < 25 by omega), hn t hr] at z; cases z)]
theorem m_push (hB : Bd w h g n K M rw_ rs) (hM : Rm w h g n K M rw_ rs wide tall groups rowMany top east south rolled kind mark rowWay rowSeen) {N L k s d vs t : Nat} {at_ goes F : Nat → Int32} {x2 x5 : Int32} (hk : k < L) (hL : L ≤ 15) (hs : s < 24 * (w * h)) (hd : d < 4) (hat : at_ k = nI s) (hgo : goes k = gi d) (hv : vs < 2 ^ 25) (hr : rl w h K M g s d = some t) (hb : vs.testBit (t / 24) = false) (rec : (Int32 × Int32 × Int32 × (Nat → Int32) × (Nat → Int32) × (Nat → Int32)) → Option (Int32 × (Nat → Int32) × (Nat → Int32) × (Nat → Int32))) : TB N x2 wide tall groups (nI L) top rolled kind mark rec (nI vs, nI k, x5, at_, goes, F) = rec (nI (vs ||| 2 ^ (t / 24)), nI (k + 1), x5, upd at_ (k + 1) (nI t), upd (upd goes k (nI d)) (k + 1) (-1), F) := by
  have w1 := wh25 hB.2.1 hB.2.2.2.1
  have ht := rl_b hB s d hs hd t hr
  rw [m_node0 hB hM hk hL hs (by omega) hat hgo, if_pos (show d ≤ 3 by omega)]
  unfold f_X11_layTours_j120
  rw [rdn (show k < 17 by omega) (by decide), Option.bind_some, cln (by omega), updn, if_pos rfl, if_neg (show ¬ (3 : Int32) < nI d from nI_nlt (a := 3) (show d ≤ 3 by omega) (by decide)), if_neg (show ¬ nI k = nI L from fun z => by have := (nI_eq (by omega) (by omega)).mp z; omega), hr, if_neg (show ¬ en9 (some t) = -9 from nI_m9 (by omega)), show en9 (some t) = nI t from rfl, dv24 (by omega), if_pos (by rw [bt_shr hv (show t / 24 < 25 by omega)]; exact hb), nI_1, ckn (show k + 1 < 17 by omega) (by decide), Option.bind_some, Option.bind_some, cln (by omega), sh1 _ (show t / 24 < 25 by omega), orI]
theorem m_leaf (hB : Bd w h g n K M rw_ rs) (hM : Rm w h g n K M rw_ rs wide tall groups rowMany top east south rolled kind mark rowWay rowSeen) {N L s v τ vs0 : Nat} {at_ goes F : Nat → Int32} (hN : 1000 < N) (hL : L ≤ 15) (hv7 : v < 7) (hs : s < 24 * (w * h)) (hat : at_ L = nI s) (hgo : goes L = -1) (hv : vs0 < 2 ^ 25) (hb : vs0.testBit (s / 24) = false) (hτ : τ < 2 ^ 31) (rec : (Int32 × Int32 × Int32 × (Nat → Int32) × (Nat → Int32) × (Nat → Int32)) → Option (Int32 × (Nat → Int32) × (Nat → Int32) × (Nat → Int32))) : TB N (nI v) wide tall groups (nI L) top rolled kind mark rec (nI (vs0 ||| 2 ^ (s / 24)), nI L, nI τ, at_, goes, F) = rec (nI vs0, nI L + (-1), nI (τ + if ws v (s % 24) then 1 else 0), at_, upd goes L (nI 0), if ws v (s % 24) = true ∧ τ = 0 then (fun i => if i < L then goes i else F i) else F) := by
  have w1 := wh25 hB.2.1 hB.2.2.2.1
  unfold TB f_X11_layTours_b43
  dsimp only
  rw [if_neg (nI_pos (show L < 2 ^ 31 by omega)), if_pos rfl, rdn (show L < 17 by omega) (by decide), Option.bind_some, cln (by omega), if_pos hgo, m_endTour hM hN hL hv7 (by omega) hat hτ, Option.bind_some, m_try hB hM (Nat.le_refl L) hL hs (Nat.zero_le 4) hat hgo]
  unfold f_X11_layTours_j120
  rw [rdn (show L < 17 by omega) (by decide), Option.bind_some, cln (by omega), updn, if_pos rfl, if_neg (show ¬ (3 : Int32) < nI 0 by decide), if_pos rfl, m_j142 hL (by omega) hat hv hb]
theorem m_sub (hB : Bd w h g n K M rw_ rs) (hM : Rm w h g n K M rw_ rs wide tall groups rowMany top east south rolled kind mark rowWay rowSeen) {N L v : Nat} (hN : 1000 < N) (hL : L ≤ 15) (hv7 : v < 7) : ∀ m k s vs0 τ at_ goes F, k + m = L → s < 24 * (w * h) → vs0 < 2 ^ 25 → vs0.testBit (s / 24) = false → at_ k = nI s → goes k = -1 → τ + 4 ^ m ≤ 2 ^ 30 → ∃ at2 goes2 F2, Rch (TB N (nI v) wide tall groups (nI L) top rolled kind mark) (itr m) (nI (vs0 ||| 2 ^ (s / 24)), nI k, nI τ, at_, goes, F) (nI vs0, nI k + (-1), nI (τ + tn (rl w h K M g) (fun s => ws v (s % 24)) m s (vs0 ||| 2 ^ (s / 24))), at2, goes2, F2) ∧ (∀ i, i < k → at2 i = at_ i ∧ goes2 i = goes i) ∧ FP L τ k goes F F2 (ft (rl w h K M g) (fun s => ws v (s % 24)) m s (vs0 ||| 2 ^ (s / 24))) := by
  have w1 := wh25 hB.2.1 hB.2.2.2.1
  intro m
  induction m with
  | zero =>
    intro k s vs0 τ at_ goes F hk hs hv hb hat hgo hτ
    have hk : k = L := by omega
    subst hk
    have hτ : τ + 1 ≤ 2 ^ 30 := hτ
    refine ⟨_, _, _, Rch_1 (m_leaf hB hM hN hL hv7 hs hat hgo hv hb (by omega)), fun i hi => ⟨rfl, by rw [updn, if_neg (by omega)]⟩, fun h0 l hl i hi => ?_, fun h0 => ?_⟩
    · unfold ft at hl
      cases hw : ws v (s % 24) with
      | false => rw [hw] at hl; cases hl
      | true =>
        rw [if_pos ⟨rfl, h0⟩]
        show (if i < k then goes i else F i) = _
        rw [if_pos hi, if_pos hi]
    · cases hw : ws v (s % 24) with
      | false => rw [if_neg (fun q => by cases q.1)]
      | true =>
        rcases h0 with h0 | h0
        · rw [if_neg (fun q => h0 q.2)]
        · unfold ft at h0
          rw [hw] at h0; cases h0
  | succ m ih =>
    intro k s vs0 τ at_ goes F hk hs hv hb hat hgo hτ
    have hkL : k < L := by omega
    have hsc : s / 24 < 25 := by omega
    have hvs := vs_or hv hsc
    have hnode : ∀ e d, d + e = 4 → ∀ τ at_ goes F, at_ k = nI s → goes k = gi d → τ + e * 4 ^ m ≤ 2 ^ 30 → ∃ at2 goes2 F2, Rch (TB N (nI v) wide tall groups (nI L) top rolled kind mark) (1 + e * (1 + itr m)) (nI (vs0 ||| 2 ^ (s / 24)), nI k, nI τ, at_, goes, F) (nI vs0, nI k + (-1), nI (τ + se (tnd (rl w h K M g) (fun s => ws v (s % 24)) m s (vs0 ||| 2 ^ (s / 24))) d e), at2, goes2, F2) ∧ (∀ i, i < k → at2 i = at_ i ∧ goes2 i = goes i) ∧ FP L τ k goes F F2 (fe (ftd (rl w h K M g) (fun s => ws v (s % 24)) m s (vs0 ||| 2 ^ (s / 24))) d e) := by
      intro e
      induction e with
      | zero =>
        intro d hd τ at_ goes F hat hgo hτ
        have hd4 : d = 4 := by omega
        subst hd4
        refine ⟨at_, upd goes k (nI 4), F, ?_, fun i hi => ⟨rfl, by rw [updn, if_neg (by omega)]⟩, ?_, fun _ => rfl⟩
        · rw [Nat.zero_mul]
          exact Rch_1 (m_pop hB hM hkL hL hs hat hgo hv hb)
        · intro _ l hl; cases hl
      | succ e ihe =>
        intro d hd τ at_ goes F hat hgo hτ
        have hd4 : d < 4 := by omega
        have hem : (e + 1) * 4 ^ m = e * 4 ^ m + 4 ^ m := Nat.succ_mul _ _
        have hel : e * 4 ^ m ≤ (e + 1) * 4 ^ m := Nat.mul_le_mul_right _ (Nat.le_succ e)
        have hei : (e + 1) * (1 + itr m) = e * (1 + itr m) + (1 + itr m) := Nat.succ_mul _ _
        have hskip : (∀ t, rl w h K M g s d = some t → (vs0 ||| 2 ^ (s / 24)).testBit (t / 24) = true) → tnd (rl w h K M g) (fun s => ws v (s % 24)) m s (vs0 ||| 2 ^ (s / 24)) d = 0 → ftd (rl w h K M g) (fun s => ws v (s % 24)) m s (vs0 ||| 2 ^ (s / 24)) d = none → ∃ at2 goes2 F2, Rch (TB N (nI v) wide tall groups (nI L) top rolled kind mark) (1 + (e + 1) * (1 + itr m)) (nI (vs0 ||| 2 ^ (s / 24)), nI k, nI τ, at_, goes, F) (nI vs0, nI k + (-1), nI (τ + se (tnd (rl w h K M g) (fun s => ws v (s % 24)) m s (vs0 ||| 2 ^ (s / 24))) d (e + 1)), at2, goes2, F2) ∧ (∀ i, i < k → at2 i = at_ i ∧ goes2 i = goes i) ∧ FP L τ k goes F F2 (fe (ftd (rl w h K M g) (fun s => ws v (s % 24)) m s (vs0 ||| 2 ^ (s / 24))) d (e + 1)) := fun hn ht0 hf0 => by
          have hgk : upd goes k (nI d) k = gi (d + 1) := by rw [updn, if_pos rfl]; rfl
          obtain ⟨at2, goes2, F2, q1, q2, q3⟩ := ihe (d + 1) (by omega) τ at_ (upd goes k (nI d)) F hat hgk (by omega)
          have hpre : ∀ i, i < k → upd goes k (nI d) i = goes i := fun i hi => by rw [updn, if_neg (by omega)]
          refine ⟨at2, goes2, F2, ?_, fun i hi => ⟨(q2 i hi).1, by rw [(q2 i hi).2]; exact hpre i hi⟩, ?_⟩
          · have := Rch_t (Rch_1 (m_skip (N := N) (x2 := nI v) (x5 := nI τ) (F := F) hB hM hkL hL hs hd4 hat hgo hvs hn)) q1
            rw [se, ht0, Nat.zero_add]
            exact Rch_le this (by omega)
          · rw [fe_n hf0]
            exact FP_c q3 hpre
        cases hr : rl w h K M g s d with
        | none => exact hskip (fun t z => by rw [hr] at z; cases z) (tnd_n hr).1 (tnd_n hr).2
        | some t =>
          cases hbt : (vs0 ||| 2 ^ (s / 24)).testBit (t / 24) with
          | true => exact hskip (fun t2 z => by rw [hr] at z; cases z; exact hbt) (tnd_v hr hbt).1 (tnd_v hr hbt).2
          | false =>
            have ht := rl_b hB s d hs hd4 t hr
            have hg1 : upd (upd goes k (nI d)) (k + 1) (-1) (k + 1) = -1 := by rw [updn, if_pos rfl]
            have hg2 : upd (upd goes k (nI d)) (k + 1) (-1) k = nI d := by rw [updn, if_neg (by omega), updn, if_pos rfl]
            have hg3 : ∀ i, i < k → upd (upd goes k (nI d)) (k + 1) (-1) i = goes i := fun i hi => by rw [updn, if_neg (by omega), updn, if_neg (by omega)]
            have ha1 : upd at_ (k + 1) (nI t) (k + 1) = nI t := by rw [updn, if_pos rfl]
            have ha2 : ∀ i, i < k + 1 → upd at_ (k + 1) (nI t) i = at_ i := fun i hi => by rw [updn, if_neg (by omega)]
            obtain ⟨at2, goes2, F2, q1, q2, q3⟩ := ih (k + 1) t (vs0 ||| 2 ^ (s / 24)) τ (upd at_ (k + 1) (nI t)) (upd (upd goes k (nI d)) (k + 1) (-1)) F (by omega) ht hvs hbt ha1 hg1 (by omega)
            have hle := tn_4 (A := rl w h K M g) (P := fun s => ws v (s % 24)) m t ((vs0 ||| 2 ^ (s / 24)) ||| 2 ^ (t / 24))
            obtain ⟨at3, goes3, F3, r1, r2, r3⟩ := ihe (d + 1) (by omega) (τ + tn (rl w h K M g) (fun s => ws v (s % 24)) m t ((vs0 ||| 2 ^ (s / 24)) ||| 2 ^ (t / 24))) at2 goes2 F2 (by rw [(q2 k (by omega)).1, ha2 k (by omega)]; exact hat) (by rw [(q2 k (by omega)).2, hg2]; rfl) (by omega)
            rw [pk_m1] at q1
            refine ⟨at3, goes3, F3, ?_, fun i hi => ⟨?_, ?_⟩, ?_⟩
            · have := Rch_t (Rch_t (Rch_1 (m_push (N := N) (x2 := nI v) (x5 := nI τ) (F := F) hB hM hkL hL hs hd4 hat hgo hvs hr hbt)) q1) r1
              rw [se, (tnd_u hr hbt).1, ← Nat.add_assoc]
              exact Rch_le this (by omega)
            · rw [(r2 i hi).1, (q2 i (by omega)).1, ha2 i (by omega)]
            · rw [(r2 i hi).2, (q2 i (by omega)).2, hg3 i hi]
            · have hz := tn_ft (A := rl w h K M g) (P := fun s => ws v (s % 24)) m t ((vs0 ||| 2 ^ (s / 24)) ||| 2 ^ (t / 24))
              cases hft : ft (rl w h K M g) (fun s => ws v (s % 24)) m t ((vs0 ||| 2 ^ (s / 24)) ||| 2 ^ (t / 24)) with
              | none =>
                rw [fe_n (by rw [(tnd_u hr hbt).2, hft]; rfl)]
                have e1 := q3.2 (Or.inr hft)
                rw [hz.mpr hft, Nat.add_zero, e1] at r3
                exact FP_c r3 (fun i hi => by rw [(q2 i (by omega)).2, hg3 i hi])
              | some l =>
                rw [fe_s (x := d :: l) (by rw [(tnd_u hr hbt).2, hft]; rfl)]
                have hne : tn (rl w h K M g) (fun s => ws v (s % 24)) m t ((vs0 ||| 2 ^ (s / 24)) ||| 2 ^ (t / 24)) ≠ 0 := fun z => by
                  have := hz.mp z
                  rw [hft] at this; cases this
                have e3 := r3.2 (Or.inl (by omega))
                refine ⟨fun h0 l2 hl2 i hi => ?_, fun h0 => ?_⟩
                · have hl2 : l2 = d :: l := by cases hl2; rfl
                  rw [e3, q3.1 h0 l hft i hi, hl2]
                  by_cases c1 : i < k
                  · rw [if_pos (by omega), if_pos c1, hg3 i c1]
                  · rw [if_neg c1]
                    by_cases c2 : i = k
                    · rw [if_pos (by omega), c2, hg2, Nat.sub_self]; rfl
                    · rw [if_neg (by omega), show i - k = (i - (k + 1)) + 1 by omega]; rfl
                · rcases h0 with h0 | h0
                  · rw [e3]; exact q3.2 (Or.inl h0)
                  · cases h0
    have h4 : (4 : Nat) ^ (m + 1) = 4 * 4 ^ m := by rw [Nat.pow_succ, Nat.mul_comm]
    obtain ⟨at2, goes2, F2, q1, q2, q3⟩ := hnode 4 0 (by omega) τ at_ goes F hat hgo (by omega)
    exact ⟨at2, goes2, F2, q1, q2, q3⟩
theorem m_layTours (hB : Bd w h g n K M rw_ rs) (hM : Rm w h g n K M rw_ rs wide tall groups rowMany top east south rolled kind mark rowWay rowSeen) {N L v s : Nat} {tours tourLength : Int32} {at_ goes F : Nat → Int32} (hN : 1000000000000 ≤ N) (hL : L ≤ 15) (hv7 : v < 7) (hs : s < 24 * (w * h)) (ho : ctn (opn K g) (w * h) = L + 1) : ∃ at2 goes2 F2, f_X11_layTours N (nI s) (nI v) wide tall groups tours tourLength top rolled kind mark at_ goes F = some (nI (tn (rl w h K M g) (fun s => ws v (s % 24)) L s (2 ^ (s / 24))), nI L, at2, goes2, F2) ∧ ∀ l, ft (rl w h K M g) (fun s => ws v (s % 24)) L s (2 ^ (s / 24)) = some l → ∀ i, i < L → F2 i = nI (l.getD i 0) := by
  have w1 := wh25 hB.2.1 hB.2.2.2.1
  have h4 : 4 ^ L ≤ 2 ^ 30 := Nat.le_trans (Nat.pow_le_pow_right (by decide) hL) (by decide)
  obtain ⟨at2, goes2, F2, q1, q2, q3⟩ := m_sub hB hM (N := N) (L := L) (v := v) (by omega) hL hv7 L 0 s 0 0 (upd at_ 0 (nI s)) (upd goes 0 (-1)) F (by omega) hs (Nat.two_pow_pos 25) (Nat.zero_testBit _) (by rw [updn, if_pos rfl]) (by rw [updn, if_pos rfl]) (by omega)
  rw [Nat.zero_or, Nat.zero_add] at q1
  rw [Nat.zero_or] at q3
  have hfin : ∀ N2, 1 ≤ N2 → nx_lp (TB N (nI v) wide tall groups (nI L) top rolled kind mark) N2 (nI 0, nI 0 + (-1), nI (tn (rl w h K M g) (fun s => ws v (s % 24)) L s (2 ^ (s / 24))), at2, goes2, F2) = some (nI (tn (rl w h K M g) (fun s => ws v (s % 24)) L s (2 ^ (s / 24))), at2, goes2, F2) := fun N2 h2 => by
    obtain ⟨N2, rfl⟩ : ∃ q, N2 = q + 1 := ⟨N2 - 1, by omega⟩
    show f_X11_layTours_b43 N (nI v) wide tall groups (nI L) top rolled kind mark (nx_lp (TB N (nI v) wide tall groups (nI L) top rolled kind mark) N2) (nI 0) (nI 0 + (-1)) (nI (tn (rl w h K M g) (fun s => ws v (s % 24)) L s (2 ^ (s / 24)))) at2 goes2 F2 = _
    unfold f_X11_layTours_b43
    rw [if_pos (show nI 0 + (-1) < (0 : Int32) by decide)]
  have hrun := q1 1 _ hfin N (by have := itr_b hL; omega)
  refine ⟨at2, goes2, F2, ?_, fun l hl i hi => ?_⟩
  · unfold f_X11_layTours
    rw [m_openCells hB hM (by omega), Option.bind_some, show nx_ck 17 0 = some () from rfl, Option.bind_some, Option.bind_some, ho, show nI (L + 1) - 1 = nI L from nI_pred L, dv24 (by omega), sh1 _ (by omega)]
    rw [show f_X11_layTours_l43 N (nI v) wide tall groups (nI L) top rolled kind mark N (nI (2 ^ (s / 24)), 0, 0, upd at_ (0 : Int32).toNatClampNeg (nI s), upd goes (0 : Int32).toNatClampNeg (-1), F) = _ from hrun, Option.bind_some]
  · have := q3.1 rfl l hl i hi
    rw [if_neg (Nat.not_lt_zero i), Nat.sub_zero] at this
    exact this
theorem tour_ref (hB : Bd w h g n K M rw_ rs) (hC : Rc w h g n K M rw_ rs size on kinds marks nb plen rowW rowS) (hM : Rm w h g n K M rw_ rs wide tall groups rowMany top east south rolled kind mark rowWay rowSeen) {N : Nat} (hN : 1000 < N) (x1 x2 x3 : Int32) : (∃ r : Int32, r ≠ 0 ∧ ¬ 0 ≤ r ∧ f_X10_refusalOfTour N x1 x2 x3 size on kinds = some r ∧ f_X11_mayTour N x1 x2 x3 wide tall groups kind = some r) ∨ (f_X10_refusalOfTour N x1 x2 x3 size on kinds = some 0 ∧ f_X11_mayTour N x1 x2 x3 wide tall groups kind = some 0 ∧ ∃ c s v, c < w * h ∧ s < 24 ∧ v < 7 ∧ x1 = nI c ∧ x2 = nI s ∧ x3 = nI v ∧ ∃ L, L ≤ 15 ∧ ctn (opn K g) (w * h) = L + 1) := by
  obtain ⟨b1, b2, b3, b4, b5, b6, b7, b8, b9, b10⟩ := id hB
  have w1 := wh25 b2 b4
  have w2 := wh4 b1 b3
  have hoc : ctn (opn K g) (w * h) ≤ w * h := ctn_le _ _
  have eop := p_openCells hB hC (N := N) (by omega)
  have emo := m_openCells hB hM (N := N) (by omega)
  obtain ⟨rfl, rfl, c3, c4, c5, rfl, c7, c8⟩ := id hC
  obtain ⟨rfl, rfl, rfl, rfl, m5, m6, m7, m8, m9, m10⟩ := id hM
  have m3 : (-3 : Int32) ≠ 0 ∧ ¬ (0 : Int32) ≤ -3 := by decide
  unfold f_X10_refusalOfTour f_X11_mayTour f_X10_refusalOfTour_j25 f_X2_groupsOn
  rw [p_isStart x1 x2 (by omega), m_isCell x1 (by omega) (by omega), m_isStance, p_isFace, m_inr (m := 0) (n := 6) rfl rfl, eop, emo]
  simp only [Option.bind_some]
  cases h1 : inb x1 (w * h) with
  | false => exact Or.inl ⟨-1, may_m.1, may_m.2.1, rfl, rfl⟩
  | true =>
    cases h2 : inb x2 24 with
    | false => exact Or.inl ⟨-1, may_m.1, may_m.2.1, rfl, rfl⟩
    | true =>
      obtain ⟨c, hc, rfl⟩ := inb_of h1 (by omega)
      obtain ⟨s, hs, rfl⟩ := inb_of h2 (by omega)
      rw [p_opn hB hC b5 hc, m_opn hB hM b5 hc]
      simp only [Option.bind_some]
      rw [if_neg (show ¬ bI (true && true) = 0 by decide), if_neg (show ¬ bI true = 0 by decide), if_neg (show ¬ bI true = 0 by decide)]
      cases h3 : inr x3 0 6 with
      | false =>
        have hx0 : ¬ x3 = 0 := fun z => by rw [z] at h3; cases h3
        have h4 : inr x3 1 6 = false := decide_eq_false (fun z => by
          have := of_decide_eq_false h3
          omega)
        rw [if_neg hx0, h4, if_pos (show bI false = 0 from rfl), if_pos (show bI false = 0 from rfl)]
        exact Or.inl ⟨-2, may_m.2.2.1, may_m.2.2.2, rfl, rfl⟩
      | true =>
        obtain ⟨v, _, hv, rfl⟩ := inr_of h3 (by omega)
        have hX : ∀ X : Option Int32, (if nI v = 0 then X else if bI (inr (nI v) 1 6) = 0 then some (-2) else X) = X := fun X => by
          by_cases e0 : v = 0
          · rw [e0, if_pos (show nI 0 = 0 from rfl)]
          · rw [if_neg (nI_ne0 (by omega) (by omega)), inr_n (a := 1) (by omega) hv (by decide), if_neg (show ¬ bI true = 0 by decide)]
        rw [hX, if_neg (show ¬ bI true = 0 by decide)]
        cases ho : opn K g c with
        | false =>
          rw [if_pos (show bI false = 0 from rfl)]
          refine Or.inl ⟨-3, m3.1, m3.2, rfl, ?_⟩
          by_cases z : (16 : Int32) < nI (ctn (opn K g) (w * h))
          · rw [if_pos z]
          · rw [if_neg z]; rfl
        | true =>
          rw [if_neg (show ¬ bI true = 0 by decide)]
          by_cases z : 16 < ctn (opn K g) (w * h)
          · rw [if_pos (show (16 : Int32) < nI (ctn (opn K g) (w * h)) from nI_lt (a := 16) z (by omega)), if_pos (show (16 : Int32) < nI (ctn (opn K g) (w * h)) from nI_lt (a := 16) z (by omega))]
            exact Or.inl ⟨-3, m3.1, m3.2, rfl, rfl⟩
          · have hz : ¬ (16 : Int32) < nI (ctn (opn K g) (w * h)) := nI_nlt (a := 16) (by omega) (by decide)
            rw [if_neg hz, if_neg hz]
            have hp := ctn_ml (p := fun _ => false) (q := opn K g) (t := c) rfl ho (w * h) hc (fun _ _ q => by cases q)
            exact Or.inr ⟨rfl, rfl, c, s, v, hc, hs, by omega, rfl, rfl, rfl, ctn (opn K g) (w * h) - 1, by omega, by omega⟩
theorem p_seek0 (hB : Bd w h g n K M rw_ rs) (hC : Rc w h g n K M rw_ rs size on kinds marks nb plen rowW rowS) {N L v s : Nat} {wanted tlen onlyF found : Int32} {steps : Nat → Int32} (hN : 1000 < N) (hL : L ≤ 15) (hv : v < 7) (hs : s < 24 * (w * h)) (ho : ctn (opn K g) (w * h) = L + 1) : ∃ st2, f_X9_seek N (nI s) (nI v) 0 size on kinds marks nb wanted tlen onlyF found steps = some (nI v, nI L, 0, nI (tn (rl w h K M g) (fun s => ws v (s % 24)) L s (2 ^ (s / 24))), st2) := by
  have w1 := wh25 hB.2.1 hB.2.2.2.1
  obtain ⟨st2, q⟩ := p_ext0 hB hC (N := N) (L := L) (v := v) hN hL hv L 20 s (2 ^ (s / 24)) 0 0 steps (by omega) (by omega) hs (Nat.pow_lt_pow_right (by decide) (by omega))
  rw [Nat.zero_add] at q
  refine ⟨st2, ?_⟩
  unfold f_X9_seek f_X9_extend f_X4_cellOf
  rw [p_openCells hB hC (by omega), Option.bind_some, show nx_b 0 = some 0 from rfl, Option.bind_some, Option.bind_some, dv24 (by omega), sh1 _ (by omega), ho, show nI (L + 1) - 1 = nI L from nI_pred L, show f_X9_ext N size on kinds marks nb (nI v) (nI L) 0 20 (nI s) (nI (2 ^ (s / 24))) 0 0 steps = _ from q, Option.bind_some]
theorem p_seek1 (hB : Bd w h g n K M rw_ rs) (hC : Rc w h g n K M rw_ rs size on kinds marks nb plen rowW rowS) {N L v s : Nat} {wanted tlen onlyF found : Int32} {steps : Nat → Int32} (hN : 1000 < N) (hL : L ≤ 15) (hv : v < 7) (hs : s < 24 * (w * h)) (ho : ctn (opn K g) (w * h) = L + 1) : ∃ st2, f_X9_seek N (nI s) (nI v) 1 size on kinds marks nb wanted tlen onlyF found steps = some (nI v, nI L, 1, bI (ft (rl w h K M g) (fun s => ws v (s % 24)) L s (2 ^ (s / 24))).isSome, st2) ∧ ∀ l, ft (rl w h K M g) (fun s => ws v (s % 24)) L s (2 ^ (s / 24)) = some l → ∀ i, i < L → st2 i = nI (l.getD i 0) := by
  have w1 := wh25 hB.2.1 hB.2.2.2.1
  obtain ⟨st2, q, _, q3⟩ := p_ext1 hB hC (N := N) (L := L) (v := v) hN hL hv L 20 s (2 ^ (s / 24)) 0 steps (by omega) (by omega) hs (Nat.pow_lt_pow_right (by decide) (by omega))
  refine ⟨st2, ?_, fun l hl i hi => by have := q3 l hl i hi; rw [Nat.zero_add] at this; exact this⟩
  unfold f_X9_seek f_X9_extend f_X4_cellOf
  rw [p_openCells hB hC (by omega), Option.bind_some, show nx_b 1 = some 1 from rfl, Option.bind_some, Option.bind_some, dv24 (by omega), sh1 _ (by omega), ho, show nI (L + 1) - 1 = nI L from nI_pred L, show f_X9_ext N size on kinds marks nb (nI v) (nI L) 1 20 (nI s) (nI (2 ^ (s / 24))) 0 0 steps = _ from q, Option.bind_some]
end TM
theorem s_tours (N : Nat) (hN : NB ≤ N) {size : Int32} {on : Int32} {kinds : Nat → Int32} {marks : Nat → Int32} {nb : Nat → Int32} {wanted : Int32} {tlen : Int32} {onlyF : Int32} {found : Int32} {steps : Nat → Int32} {plen : Int32} {rowW : Nat → Int32} {rowS : Nat → Int32} {wide : Int32} {tall : Int32} {groups : Int32} {tours : Int32} {tourLength : Int32} {rowMany : Int32} {top : Nat → Int32} {east : Nat → Int32} {south : Nat → Int32} {rolled : Nat → Int32} {kind : Nat → Int32} {mark : Nat → Int32} {at_ : Nat → Int32} {goes : Nat → Int32} {firstTour : Nat → Int32} {rowWay : Nat → Int32} {rowSeen : Nat → Int32} (hR : Rl size on kinds marks nb plen rowW rowS wide tall groups rowMany top east south rolled kind mark rowWay rowSeen) (y1 : Int32) (y2 : Int32) (y3 : Int32) : ∃ (r : Int32) (oc : Int32 × Int32 × Int32 × Int32 × (Nat → Int32)) (om : Int32 × Int32 × (Nat → Int32) × (Nat → Int32) × (Nat → Int32)), f_X10_tours N y1 y2 y3 size on kinds marks nb wanted tlen onlyF found steps = some (r, oc) ∧ f_X11_tours N y1 y2 y3 wide tall groups tours tourLength top rolled kind mark at_ goes firstTour = some (r, om) ∧ Rl size on kinds marks nb plen rowW rowS wide tall groups rowMany top east south rolled kind mark rowWay rowSeen := by
  obtain ⟨w, h, g, n, K, M, rw_, rs, hB, hC, hM⟩ := id hR
  obtain ⟨b1, b2, b3, b4, b5, b6, b7, b8, b9, b10⟩ := id hB
  obtain ⟨rfl, rfl, c3, c4, c5, rfl, c7, c8⟩ := id hC
  obtain ⟨rfl, rfl, rfl, rfl, m5, m6, m7, m8, m9, m10⟩ := id hM
  have w1 := wh25 b2 b4
  have w2 := wh4 b1 b3
  have hNB : 1000000000000 ≤ N := hN
  unfold f_X10_tours f_X11_tours
  rcases tour_ref hB hC hM (N := N) (by omega) y1 y2 y3 with ⟨r, r0, r1, e1, e2⟩ | ⟨e1, e2, c, s, v, hc, hs, hv, rfl, rfl, rfl, L, hL, hoc⟩
  · rw [e1, e2, Option.bind_some, Option.bind_some, if_neg r0, if_neg r1]
    exact ⟨r, _, _, rfl, rfl, hR⟩
  · have hs0 : 24 * c + s < 24 * (w * h) := by omega
    obtain ⟨st2, p1⟩ := p_seek0 hB hC (N := N) (wanted := wanted) (tlen := tlen) (onlyF := onlyF) (found := found) (steps := steps) (by omega) hL hv hs0 hoc
    obtain ⟨at2, go2, F2, q1, _⟩ := m_layTours hB hM (N := N) (tours := tours) (tourLength := tourLength) (at_ := at_) (goes := goes) (F := firstTour) hNB hL hv hs0 hoc
    rw [e1, e2, Option.bind_some, Option.bind_some, if_pos rfl, if_pos (Int32.le_refl _)]
    unfold f_X4_at f_X9_howMany
    rw [at24, Option.bind_some, p1, Option.bind_some, Option.bind_some, q1, Option.bind_some]
    exact ⟨_, _, _, rfl, rfl, hR⟩
theorem s_tour (N : Nat) (hN : NB ≤ N) {size : Int32} {on : Int32} {kinds : Nat → Int32} {marks : Nat → Int32} {nb : Nat → Int32} {wanted : Int32} {tlen : Int32} {onlyF : Int32} {found : Int32} {steps : Nat → Int32} {plen : Int32} {rowW : Nat → Int32} {rowS : Nat → Int32} {wide : Int32} {tall : Int32} {groups : Int32} {tours : Int32} {tourLength : Int32} {rowMany : Int32} {top : Nat → Int32} {east : Nat → Int32} {south : Nat → Int32} {rolled : Nat → Int32} {kind : Nat → Int32} {mark : Nat → Int32} {at_ : Nat → Int32} {goes : Nat → Int32} {firstTour : Nat → Int32} {rowWay : Nat → Int32} {rowSeen : Nat → Int32} (hR : Rl size on kinds marks nb plen rowW rowS wide tall groups rowMany top east south rolled kind mark rowWay rowSeen) (y1 : Int32) (y2 : Int32) (y3 : Int32) (y4 : Int32) : ∃ (r : Int32) (oc : Int32 × Int32 × Int32 × Int32 × (Nat → Int32)) (om : Int32 × Int32 × (Nat → Int32) × (Nat → Int32) × (Nat → Int32)), f_X10_tour N y1 y2 y3 y4 size on kinds marks nb wanted tlen onlyF found steps = some (r, oc) ∧ f_X11_tour N y1 y2 y3 y4 wide tall groups tours tourLength top rolled kind mark at_ goes firstTour = some (r, om) ∧ Rl size on kinds marks nb plen rowW rowS wide tall groups rowMany top east south rolled kind mark rowWay rowSeen := by
  obtain ⟨w, h, g, n, K, M, rw_, rs, hB, hC, hM⟩ := id hR
  obtain ⟨b1, b2, b3, b4, b5, b6, b7, b8, b9, b10⟩ := id hB
  obtain ⟨rfl, rfl, c3, c4, c5, rfl, c7, c8⟩ := id hC
  obtain ⟨rfl, rfl, rfl, rfl, m5, m6, m7, m8, m9, m10⟩ := id hM
  have w1 := wh25 b2 b4
  have w2 := wh4 b1 b3
  have hNB : 1000000000000 ≤ N := hN
  unfold f_X10_tour f_X11_tour
  rcases tour_ref hB hC hM (N := N) (by omega) y1 y2 y3 with ⟨r, r0, r1, e1, e2⟩ | ⟨e1, e2, c, s, v, hc, hs, hv, rfl, rfl, rfl, L, hL, hoc⟩
  · rw [e1, e2, Option.bind_some, Option.bind_some, if_neg r0, if_neg r1]
    exact ⟨r, _, _, rfl, rfl, hR⟩
  · have hs0 : 24 * c + s < 24 * (w * h) := by omega
    obtain ⟨st2, p1, p2⟩ := p_seek1 hB hC (N := N) (wanted := wanted) (tlen := tlen) (onlyF := onlyF) (found := found) (steps := steps) (by omega) hL hv hs0 hoc
    obtain ⟨at2, go2, F2, q1, q2⟩ := m_layTours hB hM (N := N) (tours := tours) (tourLength := tourLength) (at_ := at_) (goes := goes) (F := firstTour) hNB hL hv hs0 hoc
    have hz := tn_ft (A := rl w h K M g) (P := fun s => ws v (s % 24)) L (24 * c + s) (2 ^ ((24 * c + s) / 24))
    have h4 := tn_4 (A := rl w h K M g) (P := fun s => ws v (s % 24)) L (24 * c + s) (2 ^ ((24 * c + s) / 24))
    have h5 : 4 ^ L ≤ 2 ^ 30 := Nat.le_trans (Nat.pow_le_pow_right (by decide) hL) (by decide)
    rw [e1, e2, Option.bind_some, Option.bind_some, if_pos rfl, if_pos (Int32.le_refl _)]
    unfold f_X4_at f_X9_stepAt
    rw [at24, Option.bind_some, p1, Option.bind_some, q1, Option.bind_some]
    dsimp only
    cases hft : ft (rl w h K M g) (fun s => ws v (s % 24)) L (24 * c + s) (2 ^ ((24 * c + s) / 24)) with
    | none =>
      rw [hz.mpr hft, if_pos (show bI (none : Option (List Nat)).isSome ≤ 0 by decide), if_pos (show nI 0 ≤ 0 from Int32.le_refl _)]
      exact ⟨-9, _, _, rfl, rfl, hR⟩
    | some l =>
      have hne : tn (rl w h K M g) (fun s => ws v (s % 24)) L (24 * c + s) (2 ^ ((24 * c + s) / 24)) ≠ 0 := fun z => by
        have := hz.mp z
        rw [hft] at this; cases this
      rw [if_neg (show ¬ bI (some l).isSome ≤ 0 by show ¬ (1 : Int32) ≤ 0; decide), if_neg (nI_nle (by omega) (by omega)), m_inV (by omega), Option.bind_some]
      cases hb : inb y4 L with
      | false =>
        have hn : y4 < 0 ∨ nI L ≤ y4 := by
          have := of_decide_eq_false hb
          rw [Int32.lt_iff_toInt_lt, Int32.le_iff_toInt_le, nI_toInt (by omega), show (0 : Int32).toInt = 0 from rfl]
          omega
        rw [if_pos (show bI false = 0 from rfl)]
        by_cases z : y4 < 0
        · rw [if_pos z]
          exact ⟨-9, _, _, rfl, rfl, hR⟩
        · rw [if_neg z, if_pos (hn.resolve_left z)]
          exact ⟨-9, _, _, rfl, rfl, hR⟩
      | true =>
        obtain ⟨i, hi, rfl⟩ := inb_of hb (by omega)
        rw [if_neg (show ¬ bI true = 0 by decide), if_neg (nI_pos (by omega)), if_neg (nI_ge hi (by omega)), if_neg (show ¬ (16 : Int32) ≤ nI i from nI_ge (show i < 16 by omega) (by decide)), rdn (show i < 16 by omega) (by decide), Option.bind_some, rdn (show i < 16 by omega) (by decide), Option.bind_some, cln (by omega), p2 l hft i hi, q2 l hft i hi]
        exact ⟨_, _, _, rfl, rfl, hR⟩
