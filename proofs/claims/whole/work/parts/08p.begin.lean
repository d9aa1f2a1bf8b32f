/-! begin and enter; what the finished search holds -/
theorem p_fill7 {N : Nat} {v : Int32} {f : Nat → Int32} (hN : 600 < N) : f_J7_fill_53178_r7 N v f = some (fil v 600 f) := by
  unfold f_J7_fill_53178_r7
  have hl : f_J7_fill_53178_r7_l5 v 600 N (0, f) = some (fil v 600 f) := by
    have := lp_run (b := fun rec z => f_J7_fill_53178_r7_b5 v 600 rec z.1 z.2) (fun i => (nI i, fil v i f)) 600 (fin := fil v 600 f) (fun i hi rec => ?_) (fun rec => rfl) N hN
    · rw [fil_0] at this; exact this
    · show f_J7_fill_53178_r7_b5 v 600 rec (nI i) (fil v i f) = _
      unfold f_J7_fill_53178_r7_b5
      rw [if_neg (show ¬ (600 : Int32) ≤ nI i from nI_ge hi (by decide)), ckn hi (by decide), Option.bind_some, cln (by omega), nI_1, fil_s]
  rw [hl]; rfl
theorem p_fill14 {N : Nat} {v : Int32} {f : Nat → Int32} (hN : 600 < N) : f_J7_fill_53178_r14 N v f = some (fil v 600 f) := by
  unfold f_J7_fill_53178_r14
  have hl : f_J7_fill_53178_r14_l5 v 600 N (0, f) = some (fil v 600 f) := by
    have := lp_run (b := fun rec z => f_J7_fill_53178_r14_b5 v 600 rec z.1 z.2) (fun i => (nI i, fil v i f)) 600 (fin := fil v 600 f) (fun i hi rec => ?_) (fun rec => rfl) N hN
    · rw [fil_0] at this; exact this
    · show f_J7_fill_53178_r14_b5 v 600 rec (nI i) (fil v i f) = _
      unfold f_J7_fill_53178_r14_b5
      rw [if_neg (show ¬ (600 : Int32) ≤ nI i from nI_ge hi (by decide)), ckn hi (by decide), Option.bind_some, cln (by omega), nI_1, fil_s]
  rw [hl]; rfl
def a0 : AS := (0, fun _ => 0, fun _ => none, fun _ => none, fun _ => 0)
def aent (s : Nat) (S : AS) : AS := (S.1 + 1, fun i => if i = S.1 then s else S.2.1 i, fun u => if u = s then some 0 else S.2.2.1 u, fun u => if u = s then none else S.2.2.2.1 u, fun u => if u = s then 1 else S.2.2.2.2 u)
theorem ctn_0 {p : Nat → Bool} (h : ∀ k, p k = false) : ∀ n, ctn p n = 0
  | 0 => rfl
  | n + 1 => by rw [ctn, ctn_0 h n, h n]; rfl
theorem sm_0 {f : Nat → Nat} : ∀ n, (∀ k, k < n → f k = 0) → sm f n = 0
  | 0, _ => rfl
  | n + 1, h => by rw [sm, sm_0 n (fun k hk => h k (by omega)), h n (by omega)]
theorem BI_0 (A : Nat → Nat → Option Nat) (M : Nat) : BI A M 0 0 a0 :=
  ⟨fun F => (sm_0 M (fun _ _ => rfl)).symm, fun i hi => absurd hi (Nat.not_lt_zero i), fun s hs => absurd rfl hs, Nat.le_refl _, fun i hi => absurd hi (Nat.not_lt_zero i), fun e t he => absurd he (Nat.not_lt_zero e), fun _ => 0, fun i _ hi => absurd hi (Nat.not_lt_zero i), fun i j _ _ hj => absurd hj (Nat.not_lt_zero j)⟩
theorem p_forget {N : Nat} {y : AR} (hN : 600 < N) : f_X8_forget N y.1 y.2.1 = some (0, fil (-1) 600 y.2.1) ∧ SrT a0 (0, fil (-1) 600 y.2.1, y.2.2) := by
  constructor
  · unfold f_X8_forget
    rw [p_fill7 hN]; rfl
  · exact ⟨(ctn_0 (fun _ => rfl) 600).symm, rfl, fun i hi => absurd hi (Nat.not_lt_zero i), fun s hs => fil_lt hs, (fun s v e => by cases e), fun s _ e => absurd rfl e⟩
theorem BI_ent {A : Nat → Nat → Option Nat} {M s : Nat} {S : AS} (h : BI A M S.1 0 S) (hs : s < M) (hn : S.2.2.1 s = none) : BI A M (S.1 + 1) 0 (aent s S) := by
  obtain ⟨i1, i2, i3, i4, i5, i6, ev, i7, i8⟩ := h
  have hne : ∀ k, k < S.1 → S.2.1 k ≠ s := fun k hk z => (i2 k hk).2 (by rw [z]; exact hn)
  have ho : ∀ k, k < S.1 → (if k = S.1 then s else S.2.1 k) = S.2.1 k := fun k hk => if_neg (by omega)
  refine ⟨fun F => ?_, fun i hi => ?_, fun u hu => ?_, Nat.le_refl _, fun i hi => ?_, fun e t he => absurd he (Nat.not_lt_zero e), ev, fun i hi hr => absurd hr (Nat.not_lt.mpr hi), fun i j hi hij hj => ?_⟩
  · show sm (fun i => F (if i = S.1 then s else S.2.1 i)) (S.1 + 1) = sm (fun u => if (if u = s then some 0 else S.2.2.1 u).isSome then F u else 0) M
    rw [sm, if_pos rfl, sm_cong (fun k hk => by rw [ho k hk] : ∀ k, k < S.1 → F (if k = S.1 then s else S.2.1 k) = F (S.2.1 k)), i1 F]
    have := sm_up (f := fun u => if (S.2.2.1 u).isSome then F u else 0) (g := fun u => if (if u = s then some 0 else S.2.2.1 u).isSome then F u else 0) (t := s) (fun k hk => by rw [if_neg hk]) M hs
    rw [hn, if_pos rfl] at this
    simp only [Option.isSome_none, Option.isSome_some, if_true, Bool.false_eq_true, if_false] at this
    omega
  · have hi : i < S.1 + 1 := hi
    show (if i = S.1 then s else S.2.1 i) < M ∧ (if (if i = S.1 then s else S.2.1 i) = s then some 0 else S.2.2.1 (if i = S.1 then s else S.2.1 i)) ≠ none
    by_cases e : i = S.1
    · rw [if_pos e, if_pos rfl]; exact ⟨hs, some_ne rfl⟩
    · rw [if_neg e, if_neg (hne i (by omega))]; exact i2 i (by omega)
  · have hu : (if u = s then some 0 else S.2.2.1 u) ≠ none := hu
    show ∃ i, i < S.1 + 1 ∧ (if i = S.1 then s else S.2.1 i) = u
    by_cases e : u = s
    · exact ⟨S.1, by omega, by rw [if_pos rfl, e]⟩
    · rw [if_neg e] at hu
      obtain ⟨i, hi, e2⟩ := i3 u hu
      exact ⟨i, by omega, by rw [ho i hi]; exact e2⟩
  · show (if (if i = S.1 then s else S.2.1 i) = s then some 0 else S.2.2.1 (if i = S.1 then s else S.2.1 i)) = some 0 ∧ (if (if i = S.1 then s else S.2.1 i) = s then 1 else S.2.2.2.2 (if i = S.1 then s else S.2.1 i)) = 1
    by_cases e : i = S.1
    · rw [if_pos e, if_pos rfl, if_pos rfl]; exact ⟨rfl, rfl⟩
    · rw [if_neg e, if_neg (hne i (by omega)), if_neg (hne i (by omega))]; exact i5 i (by omega)
  · have hj : j < S.1 + 1 := hj
    omega
theorem p_enter {S : AS} {y : AR} {s : Nat} (hS : SrT S y) (hs : s < 600) (hn : S.2.2.1 s = none) : ∃ y2, f_X8_enter (nI s) y.1 y.2.1 y.2.2.1 y.2.2.2.1 y.2.2.2.2.1 y.2.2.2.2.2 = some y2 ∧ SrT (aent s S) y2 := by
  unfold f_X8_enter
  obtain ⟨a1, a2⟩ := p_add hS (t := s) (v := 0) (pw := none) (x3 := -1) (x4 := -1) hs hn (Nat.zero_le _) rfl rfl
  rw [p_isState hs, Option.bind_some, if_neg (by decide), rdn hs (by decide), Option.bind_some, cln (by omega), hS.2.2.2.1 s hs, hn, if_pos (show en none = -1 from rfl), show f_X8_add (nI s) 0 (-1) (-1) y.1 y.2.1 y.2.2.1 y.2.2.2.1 y.2.2.2.2.1 y.2.2.2.2.2 = _ from a1, Option.bind_some, ckn hs (by decide), Option.bind_some]
  refine ⟨_, rfl, ?_⟩
  obtain ⟨q1, q2, q3, q4, q5, q6⟩ := a2
  refine ⟨q1, q2, q3, q4, q5, fun u hu e => ?_⟩
  obtain ⟨z1, z2, z3⟩ := q6 u hu e
  refine ⟨z1, z2, ?_⟩
  show vp_updL (vp_updL y.2.2.2.2.2 s 0) s 1 u = lN (if u = s then 1 else S.2.2.2.2 u)
  have z3 : vp_updL y.2.2.2.2.2 s 0 u = lN (if u = s then 0 else S.2.2.2.2 u) := z3
  rw [updL]
  by_cases e2 : u = s
  · rw [if_pos e2, if_pos e2]; rfl
  · rw [if_neg e2, z3, if_neg e2, if_neg e2]
theorem p_begin {A : Nat → Nat → Option Nat} {M N s : Nat} {y : AR} (hN : 600 < N) (hM : M ≤ 600) (hs : s < M) : ∃ y2, f_X8_begin N (nI s) y.1 y.2.1 y.2.2.1 y.2.2.2.1 y.2.2.2.2.1 y.2.2.2.2.2 = some y2 ∧ SrT (aent s a0) y2 ∧ BI A M 1 0 (aent s a0) := by
  obtain ⟨f1, f2⟩ := p_forget (y := y) hN
  obtain ⟨y2, e1, e2⟩ := p_enter (s := s) f2 (by omega) rfl
  refine ⟨y2, ?_, e2, BI_ent (BI_0 A M) hs rfl⟩
  unfold f_X8_begin
  rw [f1, Option.bind_some]
  rw [show f_X8_enter (nI s) ((0 : Int32), fil (-1) 600 y.2.1).1 ((0 : Int32), fil (-1) 600 y.2.1).2 y.2.2.1 y.2.2.2.1 y.2.2.2.2.1 y.2.2.2.2.2 = some y2 from e1]
  rfl
/-- the finished search from one state -/
theorem p_search {A : Nat → Nat → Option Nat} {M : Nat} {af : Int32 → Int32 → Option Int32} (hM : M ≤ 600) (hA : ∀ s d, s < M → d < 4 → af (nI s) (nI d) = some (en (A s d)) ∧ ∀ t, A s d = some t → t < M) {N s : Nat} {y : AR} (hN : 1000 < N) (hs : s < M) : ∃ y1 y2, f_X8_begin N (nI s) y.1 y.2.1 y.2.2.1 y.2.2.2.1 y.2.2.2.2.1 y.2.2.2.2.2 = some y1 ∧ gsp af N y1.1 y1.2.1 y1.2.2.1 y1.2.2.2.1 y1.2.2.2.2.1 y1.2.2.2.2.2 = some y2 ∧ ∃ S, SrT S y2 ∧ BI A M 1 (4 * S.1) S ∧ S.2.1 0 = s := by
  obtain ⟨y1, q1, q2, q3⟩ := p_begin (A := A) (M := M) (N := N) (s := s) (y := y) (by omega) hM hs
  obtain ⟨y2, z1, S, z2, z3, z4, z5⟩ := p_spread hM hA hN q3 q2
  exact ⟨y1, y2, q1, z1, S, z2, z3, z5 0 Nat.zero_lt_one⟩
