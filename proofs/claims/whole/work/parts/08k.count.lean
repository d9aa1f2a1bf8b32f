/-! counting -/
theorem nI_b (c : Nat) (b : Bool) : nI c + bI b = nI (c + if b then 1 else 0) := by
  cases b
  · show nI c + nI 0 = _; rw [nI_add]; rfl
  · show nI c + nI 1 = _; rw [nI_add]; rfl
theorem lp_cnt {b : ((Int32 × Int32) → Option Int32) → (Int32 × Int32) → Option Int32} (p : Nat → Bool) (T : Nat) (hs : ∀ i c rec, i < T → b rec (nI c, nI i) = rec (nI c + bI (p i), nI (i + 1))) (he : ∀ c rec, b rec (nI c, nI T) = some (nI c)) : ∀ N, T < N → nx_lp b N (0, 0) = some (nI (ctn p T)) := fun N hN =>
  lp_run (fun i => (nI (ctn p i), nI i)) T (fun i hi rec => by rw [hs i _ rec hi, nI_b]; rfl) (fun rec => he _ rec) N hN
theorem ctn_cong {p q : Nat → Bool} : ∀ {n : Nat}, (∀ k, k < n → p k = q k) → ctn p n = ctn q n
  | 0, _ => rfl
  | n + 1, h => by rw [ctn, ctn, ctn_cong (fun k hk => h k (by omega)), h n (by omega)]
section CNT
variable {w h g n : Nat} {K M rw_ rs : Nat → Nat} {kinds marks nb : Nat → Int32} {rowW rowS : Nat → Int32} {top east south rolled kind mark rowWay rowSeen : Nat → Int32} {size on plen wide tall groups rowMany : Int32}
theorem p_openCells (hB : Bd w h g n K M rw_ rs) (hC : Rc w h g n K M rw_ rs size on kinds marks nb plen rowW rowS) {N : Nat} (hN : 25 < N) : f_X2_openCells N size on kinds = some (nI (ctn (opn K g) (w * h))) := by
  have w1 := wh25 hB.2.1 hB.2.2.2.1
  have hz := hC.1
  have ho := hC.2.1
  have hl := lp_cnt (b := fun rec z => f_X2_openCells_b4 size on kinds rec z.1 z.2) (opn K g) (w * h) (fun i c rec hi => by
    show f_X2_openCells_b4 size on kinds rec (nI c) (nI i) = _
    unfold f_X2_openCells_b4
    rw [ho, p_opn hB hC hB.2.2.2.2.1 hi, hz, if_neg (nI_ge hi (by omega)), Option.bind_some, p_oneIf, Option.bind_some, nI_1]) (fun c rec => by
    show f_X2_openCells_b4 size on kinds rec (nI c) (nI (w * h)) = _
    unfold f_X2_openCells_b4
    rw [hz, if_pos (Int32.le_refl _)]) N (by omega)
  unfold f_X2_openCells
  rw [show f_X2_openCells_l4 size on kinds N (0, 0) = _ from hl]; rfl
theorem m_openCells (hB : Bd w h g n K M rw_ rs) (hM : Rm w h g n K M rw_ rs wide tall groups rowMany top east south rolled kind mark rowWay rowSeen) {N : Nat} (hN : 25 < N) : f_X11_openCells N groups wide tall kind = some (nI (ctn (opn K g) (w * h))) := by
  have w1 := wh25 hB.2.1 hB.2.2.2.1
  have hl := lp_cnt (b := fun rec z => f_X11_openCells_b4 groups wide tall kind rec z.1 z.2) (opn K g) (w * h) (fun i c rec hi => by
    show f_X11_openCells_b4 groups wide tall kind rec (nI c) (nI i) = _
    unfold f_X11_openCells_b4 f_X11_cells f_X11_openCells_j27
    rw [hM.2.2.1, m_opn hB hM hB.2.2.2.2.1 hi, hM.1, hM.2.1, Option.bind_some, pk_mul, if_neg (nI_ge hi (by omega)), Option.bind_some, nI_1]
    cases opn K g i <;> rfl) (fun c rec => by
    show f_X11_openCells_b4 groups wide tall kind rec (nI c) (nI (w * h)) = _
    unfold f_X11_openCells_b4 f_X11_cells
    rw [hM.1, hM.2.1, Option.bind_some, pk_mul, if_pos (Int32.le_refl _)]) N (by omega)
  unfold f_X11_openCells
  rw [show f_X11_openCells_l4 groups wide tall kind N (0, 0) = _ from hl]; rfl
theorem p_markedCells (hB : Bd w h g n K M rw_ rs) (hC : Rc w h g n K M rw_ rs size on kinds marks nb plen rowW rowS) {N : Nat} (hN : 25 < N) : f_X2_markedCells N size marks = some (nI (ctn (fun c => M c != 0) (w * h))) := by
  have w1 := wh25 hB.2.1 hB.2.2.2.1
  have hz := hC.1
  have hl := lp_cnt (b := fun rec z => f_X2_markedCells_b4 size marks rec z.1 z.2) (fun c => M c != 0) (w * h) (fun i c rec hi => by
    show f_X2_markedCells_b4 size marks rec (nI c) (nI i) = _
    have h6 := hB.2.2.2.2.2.2.2.1 i
    unfold f_X2_markedCells_b4 f_X2_markedCells_j27
    rw [hz, if_neg (nI_ge hi (by omega)), rdn (show i < 25 by omega) (by decide), Option.bind_some, cln (by omega), hC.2.2.2.1 i (by omega), nI_1]
    simp only [nI_0' (M i) (by omega)]
    by_cases e : M i = 0
    · rw [if_pos e, show (M i != 0) = false by rw [e]; rfl]; rfl
    · rw [if_neg e, show (M i != 0) = true from bne_iff_ne.mpr e]; rfl) (fun c rec => by
    show f_X2_markedCells_b4 size marks rec (nI c) (nI (w * h)) = _
    unfold f_X2_markedCells_b4
    rw [hz, if_pos (Int32.le_refl _)]) N (by omega)
  unfold f_X2_markedCells
  rw [show f_X2_markedCells_l4 size marks N (0, 0) = _ from hl]; rfl
theorem p_isSoundNow (hB : Bd w h g n K M rw_ rs) (hC : Rc w h g n K M rw_ rs size on kinds marks nb plen rowW rowS) {p : Nat} (hp : p < 3 * (w * h)) : f_X1_isSoundNow (nI p) size on kinds nb = some (bI (snd w h K g p)) := by
  unfold f_X1_isSoundNow f_X2_groupsOn
  rw [Option.bind_some, hC.2.1, p_isSound hB hC hB.2.2.2.2.1 hp, Option.bind_some, nxb, Option.bind_some]
theorem p_soundPlaces (hB : Bd w h g n K M rw_ rs) (hC : Rc w h g n K M rw_ rs size on kinds marks nb plen rowW rowS) {N : Nat} (hN : 75 < N) : f_X1_soundPlaces N size on kinds nb = some (nI (ctn (snd w h K g) (3 * (w * h)))) := by
  have w1 := wh25 hB.2.1 hB.2.2.2.1
  have hz := hC.1
  have e3 : 3 * nI (w * h) = nI (3 * (w * h)) := by rw [li 3, pk_mul]
  have hl := lp_cnt (b := fun rec z => f_X1_soundPlaces_b4 size on kinds nb rec z.1 z.2) (snd w h K g) (3 * (w * h)) (fun i c rec hi => by
    show f_X1_soundPlaces_b4 size on kinds nb rec (nI c) (nI i) = _
    unfold f_X1_soundPlaces_b4 f_X1_allPlaces f_X2_size
    rw [p_isSoundNow hB hC hi, hz, Option.bind_some, Option.bind_some, e3, if_neg (nI_ge hi (by omega)), Option.bind_some, p_oneIf, Option.bind_some, nI_1]) (fun c rec => by
    show f_X1_soundPlaces_b4 size on kinds nb rec (nI c) (nI (3 * (w * h))) = _
    unfold f_X1_soundPlaces_b4 f_X1_allPlaces f_X2_size
    rw [hz, Option.bind_some, Option.bind_some, e3, if_pos (Int32.le_refl _)]) N (by omega)
  unfold f_X1_soundPlaces
  rw [show f_X1_soundPlaces_l4 size on kinds nb N (0, 0) = _ from hl]; rfl
theorem bc_k : ∀ g, g < 8 → f_J6_bitCount_0f7a4 (nI g) = some (nI (ctn (fun j => g.testBit j) 3)) := by decide +kernel
theorem gb_k : ∀ g, g < 8 → ∀ i, i < 3 → (nI g >>> (nI i &&& 31)) &&& 1 = bI (g.testBit i) := by decide +kernel
theorem m_cnt10 {N g : Nat} {x1 : Int32} (hg : g < 8) (hN : 3 < N) : f_X11_count_l10 x1 0 0 (nI g) N (0, 0) = some (nI (ctn (fun j => g.testBit j) 3)) :=
  lp_cnt (b := fun rec z => f_X11_count_b10 x1 0 0 (nI g) rec z.1 z.2) (fun j => g.testBit j) 3 (fun i c rec hi => by
    show f_X11_count_b10 x1 0 0 (nI g) rec (nI c) (nI i) = _
    unfold f_X11_count_b10
    rw [if_neg (show ¬ (3 : Int32) ≤ nI i from nI_ge hi (by decide)), gb_k g hg i hi, nI_1]) (fun c rec => rfl) N hN
theorem m_cnt37 (hB : Bd w h g n K M rw_ rs) (hM : Rm w h g n K M rw_ rs wide tall groups rowMany top east south rolled kind mark rowWay rowSeen) {N : Nat} {x1 x2 : Int32} (hN : 25 < N) : f_X11_count_l37 x1 x2 0 wide tall mark N (0, 0) = some (nI (ctn (fun c => M c != 0) (w * h))) := by
  have w1 := wh25 hB.2.1 hB.2.2.2.1
  refine lp_cnt (b := fun rec z => f_X11_count_b37 x1 x2 0 wide tall mark rec z.1 z.2) (fun c => M c != 0) (w * h) (fun i c rec hi => ?_) (fun c rec => ?_) N (by omega)
  · show f_X11_count_b37 x1 x2 0 wide tall mark rec (nI c) (nI i) = _
    have h6 := hB.2.2.2.2.2.2.2.1 i
    unfold f_X11_count_b37 f_X11_cells f_X11_count_j62
    rw [hM.1, hM.2.1, Option.bind_some, pk_mul, if_neg (nI_ge hi (by omega)), rdn (show i < 25 by omega) (by decide), Option.bind_some, cln (by omega), hM.2.2.2.2.2.2.2.1 i (by omega), nI_1]
    by_cases e : M i = 0
    · rw [if_pos (by rw [e]; decide), show (M i != 0) = false by rw [e]; rfl]; rfl
    · rw [if_neg (nI_nle (by omega) (by omega)), show (M i != 0) = true from bne_iff_ne.mpr e]; rfl
  · show f_X11_count_b37 x1 x2 0 wide tall mark rec (nI c) (nI (w * h)) = _
    unfold f_X11_count_b37 f_X11_cells
    rw [hM.1, hM.2.1, Option.bind_some, pk_mul, if_pos (Int32.le_refl _)]
theorem m_cnt73 (hB : Bd w h g n K M rw_ rs) (hM : Rm w h g n K M rw_ rs wide tall groups rowMany top east south rolled kind mark rowWay rowSeen) {N : Nat} {x1 x2 x3 : Int32} (hN : 75 < N) : f_X11_count_l73 x1 x2 x3 wide tall groups kind N (0, 0) = some (nI (ctn (snd w h K g) (3 * (w * h)))) := by
  have w1 := wh25 hB.2.1 hB.2.2.2.1
  have e3 : 3 * nI (w * h) = nI (3 * (w * h)) := by rw [li 3, pk_mul]
  refine lp_cnt (b := fun rec z => f_X11_count_b73 x1 x2 x3 wide tall groups kind rec z.1 z.2) (snd w h K g) (3 * (w * h)) (fun i c rec hi => ?_) (fun c rec => ?_) N (by omega)
  · show f_X11_count_b73 x1 x2 x3 wide tall groups kind rec (nI c) (nI i) = _
    unfold f_X11_count_b73 f_X11_cells f_X11_count_j104
    rw [hM.2.2.1, m_isSound hB hM hB.2.2.2.2.1 hi, hM.1, hM.2.1, Option.bind_some, pk_mul, e3, if_neg (nI_ge hi (by omega)), Option.bind_some, nI_1]
    cases snd w h K g i <;> rfl
  · show f_X11_count_b73 x1 x2 x3 wide tall groups kind rec (nI c) (nI (3 * (w * h))) = _
    unfold f_X11_count_b73 f_X11_cells
    rw [hM.1, hM.2.1, Option.bind_some, pk_mul, e3, if_pos (Int32.le_refl _)]
end CNT
theorem s_count (N : Nat) (hN : NB ≤ N) {size : Int32} {on : Int32} {kinds : Nat → Int32} {marks : Nat → Int32} {nb : Nat → Int32} {plen : Int32} {rowW : Nat → Int32} {rowS : Nat → Int32} {wide : Int32} {tall : Int32} {groups : Int32} {rowMany : Int32} {top : Nat → Int32} {east : Nat → Int32} {south : Nat → Int32} {rolled : Nat → Int32} {kind : Nat → Int32} {mark : Nat → Int32} {rowWay : Nat → Int32} {rowSeen : Nat → Int32} (hR : Rl size on kinds marks nb plen rowW rowS wide tall groups rowMany top east south rolled kind mark rowWay rowSeen) (y1 : Int32) : ∃ (r : Int32), f_X10_count N y1 size on kinds marks nb plen = some r ∧ f_X11_count N y1 wide tall groups rowMany kind mark = some r ∧ Rl size on kinds marks nb plen rowW rowS wide tall groups rowMany top east south rolled kind mark rowWay rowSeen := by
  obtain ⟨w, h, g, n, K, M, rw_, rs, hB, hC, hM⟩ := id hR
  obtain ⟨b1, b2, b3, b4, b5, b6, b7, b8, b9, b10⟩ := id hB
  obtain ⟨rfl, rfl, c3, c4, c5, rfl, c7, c8⟩ := id hC
  obtain ⟨rfl, rfl, rfl, rfl, m5, m6, m7, m8, m9, m10⟩ := id hM
  have w1 := wh25 b2 b4
  have w2 := wh4 b1 b3
  have hNB : 1000000000000 ≤ N := hN
  have hN75 : 75 < N := by omega
  have hN25 : 25 < N := by omega
  unfold f_X10_count f_X11_count f_X2_size f_X2_groupsOn f_X7_length f_X11_cells
  simp only [m_cnt10 b5 (show 3 < N by omega), m_cnt37 hB hM hN25, m_cnt73 hB hM hN75, p_openCells hB hC hN25, m_openCells hB hM hN25, p_markedCells hB hC hN25, p_soundPlaces hB hC hN75, bc_k g b5, Option.bind_some, pk_mul]
  by_cases a0 : y1 = 0
  · simp only [if_pos a0]; exact ⟨_, rfl, rfl, hR⟩
  · simp only [if_neg a0]
    by_cases a1 : y1 = 1
    · simp only [if_pos a1]; exact ⟨_, rfl, rfl, hR⟩
    · simp only [if_neg a1]
      by_cases a2 : y1 = 2
      · simp only [if_pos a2]; exact ⟨_, rfl, rfl, hR⟩
      · simp only [if_neg a2]
        by_cases a3 : y1 = 3
        · simp only [if_pos a3]; exact ⟨_, rfl, rfl, hR⟩
        · simp only [if_neg a3]
          by_cases a4 : y1 = 4
          · simp only [if_pos a4]; exact ⟨_, rfl, rfl, hR⟩
          · simp only [if_neg a4]
            by_cases a5 : y1 = 5
            · simp only [if_pos a5]; exact ⟨_, rfl, rfl, hR⟩
            · simp only [if_neg a5]; exact ⟨_, rfl, rfl, hR⟩
