def f_X11_tours (N : Nat) (x1 : Int32) (x2 : Int32) (x3 : Int32) (wide : Int32) (tall : Int32) (groups : Int32) (tours : Int32) (tourLength : Int32) (top : Nat → Int32) (rolled : Nat → Int32) (kind : Nat → Int32) (mark : Nat → Int32) (at_ : Nat → Int32) (goes : Nat → Int32) (firstTour : Nat → Int32) : Option (Int32 × (Int32 × Int32 × (Nat → Int32) × (Nat → Int32) × (Nat → Int32))) :=
  (f_X11_mayTour N x1 x2 x3 wide tall groups kind).bind fun r_2 => if 0 ≤ r_2 then ((f_X11_layTours N ((24 * x1) + x2) x3 wide tall groups tours tourLength top rolled kind mark at_ goes firstTour).bind fun t_9 => some (t_9.1, (t_9.1, t_9.2.1, t_9.2.2.1, t_9.2.2.2.1, t_9.2.2.2.2))) else (some (r_2, (tours, tourLength, at_, goes, firstTour)))
set_option maxHeartbeats 4000000 in
set_option maxRecDepth 100000 in
theorem c_X11_tours (l : Launch) (N : Nat) (E : nx_E) (sz : Nat) (a : Nat → Nat) (wide : Int32) (tall : Int32) (groups : Int32) (tours : Int32) (tourLength : Int32) (rowMany : Int32) (cameBy : Int32) (top : Nat → Int32) (east : Nat → Int32) (south : Nat → Int32) (rolled : Nat → Int32) (off : Nat → Int32) (kind : Nat → Int32) (mark : Nat → Int32) (rolls : Nat → Int32) (many : Nat → Int64) (onward : Nat → Int32) (at_ : Nat → Int32) (goes : Nat → Int32) (firstTour : Nat → Int32) (rowWay : Nat → Int32) (rowSeen : Nat → Int32) (prints : Nat → Int32) (homeward : Nat → Int32) (x1 : Int32) (x2 : Int32) (x3 : Int32) (hI : nx_inj a 18) (o : Int32 × (Int32 × Int32 × (Nat → Int32) × (Nat → Int32) × (Nat → Int32))) (h : f_X11_tours N x1 x2 x3 wide tall groups tours tourLength top rolled kind mark at_ goes firstTour = some o) : Met l yX11_tours (.code yX11_tours cX11_tours 5 (some .int) :: nx_T) (nx_rm 4 98) (va_Pc [.ref (a 0), .int x1, .int x2, .int x3] (nx_P E (nx_A a 18 sz) sz (mW E a wide tall groups tours tourLength rowMany cameBy top east south rolled off kind mark rolls many onward at_ goes firstTour rowWay rowSeen prints homeward))) (va_Qi (fun v u => (v, u) = o) (fun u t => va_P E.1 vwCl (mW E a wide tall groups (u.1) (u.2.1) rowMany cameBy top east south rolled off kind mark rolls many onward (u.2.2.1) (u.2.2.2.1) (u.2.2.2.2) rowWay rowSeen prints homeward) t.heap) (nx_A a 18 sz)) 0 0 (nx_A a 18 sz) := by
  refine nx_enI (fun v u => (v, u) = o) (fun (u : Int32 × Int32 × (Nat → Int32) × (Nat → Int32) × (Nat → Int32)) => (mW E a wide tall groups (u.1) (u.2.1) rowMany cameBy top east south rolled off kind mark rolls many onward (u.2.2.1) (u.2.2.2.1) (u.2.2.2.2) rowWay rowSeen prints homeward)) (by decide) (Nat.le_of_ble_eq_true rfl) ?_
  intro p e s m below meth c Q X kr hsz hP ls hl
  subst hsz
  generalize hargs : (List.toArray [.ref (a 0), .int x1, .int x2, .int x3] : Array Value) = args at X kr ⊢
  clear hargs
  obtain ⟨⟨hx, hb, hml, hown, hts⟩, hK, hSt, hNz⟩ := id X
  have hS : va_S (nx_A a 18 s.heap.size) s.heap s.heap [] := va_S.rf
  have hl : lv_has ls 5 [(0, .ref (a 0)), (1, .int x1), (2, .int x2), (3, .int x3)] := hl
  unfold f_X11_tours at h
  suffices hw : ∀ (H : Heap) (locs : List Loc), va_P E.1 vwCl (mW E a wide tall groups tours tourLength rowMany cameBy top east south rolled off kind mark rolls many onward at_ goes firstTour rowWay rowSeen prints homeward) H → va_S (nx_A a 18 s.heap.size) s.heap H locs → W p l e (nx_rm 4 98) s m args below meth c H locs 0 0 Q (F0 m 0 ls []) from hw _ _ hP va_S.rf
  intro H locs hP hS
  refine lv_aload_n hx hb dX11_tours_0 rfl (lv_at hl 0 rfl) ?_
  refine lv_iload_n hx hb dX11_tours_1 rfl (lv_at hl 1 rfl) ?_
  refine lv_iload_n hx hb dX11_tours_2 rfl (lv_at hl 2 rfl) ?_
  refine lv_iload_n hx hb dX11_tours_3 rfl (lv_at hl 3 rfl) ?_
  obtain ⟨r_2, hc_1, h⟩ := nx_bd h
  refine nx_ki (nx_runV (As := [.int x1, .int x2, .int x3]) (rest := []) X hS hP (c_X11_mayTour l N E H.size a wide tall groups tours tourLength rowMany cameBy top east south rolled off kind mark rolls many onward at_ goes firstTour rowWay rowSeen prints homeward x1 x2 x3 _ hc_1) nx_FA qV_RX11_168 ⟨rfl, rfl⟩ ⟨Nat.le_of_ble_eq_true rfl, Nat.le_of_ble_eq_true rfl⟩ ⟨Nat.zero_le _, Nat.zero_le _⟩ 0 rfl rfl rfl rfl hl.1 (Nat.le_of_ble_eq_true rfl) dX11_tours_4) hS nx_FA (fun H locs hP hS => ?_)
  refine lv_istore (lv' := [(4, .int r_2), (0, .ref (a 0)), (1, .int x1), (2, .int x2), (3, .int x3)]) hx hb dX11_tours_7 hl (by decide) rfl (fun ls hl => ?_)
  refine lv_iload hx hb dX11_tours_9 (lv_at hl 0 rfl) ?_
  refine lv_if_ge (tgt := 17) hx hb dX11_tours_11 (by decide) (fun hc => ?_) (fun hc => ?_)
  · have h := nx_it h hc
    refine lv_aload_n hx hb dX11_tours_17 rfl (lv_at hl 1 rfl) ?_
    refine lv_bipush (v := 24) hx hb dX11_tours_18 (by decide) ?_
    refine lv_iload_n hx hb dX11_tours_20 rfl (lv_at hl 2 rfl) ?_
    refine lv_imul hx hb dX11_tours_21 ?_
    refine lv_iload_n hx hb dX11_tours_22 rfl (lv_at hl 3 rfl) ?_
    refine lv_iadd hx hb dX11_tours_23 ?_
    refine lv_iload_n hx hb dX11_tours_24 rfl (lv_at hl 4 rfl) ?_
    obtain ⟨⟨k_4, k_5, k_6, k_7, k_8⟩, hc_3, h⟩ := nx_bd h
    refine nx_kv (nx_runV (As := [.int ((24 * x1) + x2), .int x3]) (rest := []) X hS hP (c_X11_layTours l N E H.size a wide tall groups tours tourLength rowMany cameBy top east south rolled off kind mark rolls many onward at_ goes firstTour rowWay rowSeen prints homeward ((24 * x1) + x2) x3 hI _ hc_3) (nx_Am hS.1) qV_RX11_172 ⟨rfl, rfl⟩ ⟨Nat.le_of_ble_eq_true rfl, Nat.le_of_ble_eq_true rfl⟩ ⟨Nat.zero_le _, Nat.zero_le _⟩ 0 rfl rfl rfl rfl hl.1 (Nat.le_of_ble_eq_true rfl) dX11_tours_25) hS (nx_Am hS.1) (fun H locs hP hS => ?_)
    have hP : va_P E.1 vwCl (mW E a wide tall groups k_4 k_5 rowMany cameBy top east south rolled off kind mark rolls many onward k_6 k_7 k_8 rowWay rowSeen prints homeward) H := hP
    refine lv_aload_n hx hb dX11_tours_28 rfl (lv_at hl 1 rfl) ?_
    refine nx_gf X hP uw_X11 (ci := 10) rfl 0 rfl 16 (by decide) wf_RX11_159 rfl dX11_tours_29 ?_
    exact kr 32 ls k_4 (k_4, k_5, k_6, k_7, k_8) H locs dX11_tours_32 (Option.some.inj h) hP hS
  · have h := nx_if h hc
    refine lv_iload hx hb dX11_tours_14 (lv_at hl 0 rfl) ?_
    exact kr 16 ls r_2 (tours, tourLength, at_, goes, firstTour) H locs dX11_tours_16 (Option.some.inj h) hP hS
def f_X11_tour (N : Nat) (x1 : Int32) (x2 : Int32) (x3 : Int32) (x4 : Int32) (wide : Int32) (tall : Int32) (groups : Int32) (tours : Int32) (tourLength : Int32) (top : Nat → Int32) (rolled : Nat → Int32) (kind : Nat → Int32) (mark : Nat → Int32) (at_ : Nat → Int32) (goes : Nat → Int32) (firstTour : Nat → Int32) : Option (Int32 × (Int32 × Int32 × (Nat → Int32) × (Nat → Int32) × (Nat → Int32))) :=
  (f_X11_mayTour N x1 x2 x3 wide tall groups kind).bind fun r_2 => if 0 ≤ r_2 then ((f_X11_layTours N ((24 * x1) + x2) x3 wide tall groups tours tourLength top rolled kind mark at_ goes firstTour).bind fun t_9 => if t_9.1 ≤ 0 then (some ((-9), (t_9.1, t_9.2.1, t_9.2.2.1, t_9.2.2.2.1, t_9.2.2.2.2))) else ((f_X11_in ((x4 : Int32).toInt64) 0 (((t_9.2.1 - 1) : Int32).toInt64)).bind fun r_11 => if r_11 = 0 then (some ((-9), (t_9.1, t_9.2.1, t_9.2.2.1, t_9.2.2.2.1, t_9.2.2.2.2))) else ((nx_rd t_9.2.2.2.2 16 x4).bind fun _ => some ((t_9.2.2.2.2 x4.toNatClampNeg), (t_9.1, t_9.2.1, t_9.2.2.1, t_9.2.2.2.1, t_9.2.2.2.2))))) else (some (r_2, (tours, tourLength, at_, goes, firstTour)))
set_option maxHeartbeats 4000000 in
set_option maxRecDepth 100000 in
theorem c_X11_tour (l : Launch) (N : Nat) (E : nx_E) (sz : Nat) (a : Nat → Nat) (wide : Int32) (tall : Int32) (groups : Int32) (tours : Int32) (tourLength : Int32) (rowMany : Int32) (cameBy : Int32) (top : Nat → Int32) (east : Nat → Int32) (south : Nat → Int32) (rolled : Nat → Int32) (off : Nat → Int32) (kind : Nat → Int32) (mark : Nat → Int32) (rolls : Nat → Int32) (many : Nat → Int64) (onward : Nat → Int32) (at_ : Nat → Int32) (goes : Nat → Int32) (firstTour : Nat → Int32) (rowWay : Nat → Int32) (rowSeen : Nat → Int32) (prints : Nat → Int32) (homeward : Nat → Int32) (x1 : Int32) (x2 : Int32) (x3 : Int32) (x4 : Int32) (hI : nx_inj a 18) (o : Int32 × (Int32 × Int32 × (Nat → Int32) × (Nat → Int32) × (Nat → Int32))) (h : f_X11_tour N x1 x2 x3 x4 wide tall groups tours tourLength top rolled kind mark at_ goes firstTour = some o) : Met l yX11_tour (.code yX11_tour cX11_tour 6 (some .int) :: nx_T) (nx_rm 4 98) (va_Pc [.ref (a 0), .int x1, .int x2, .int x3, .int x4] (nx_P E (nx_A a 18 sz) sz (mW E a wide tall groups tours tourLength rowMany cameBy top east south rolled off kind mark rolls many onward at_ goes firstTour rowWay rowSeen prints homeward))) (va_Qi (fun v u => (v, u) = o) (fun u t => va_P E.1 vwCl (mW E a wide tall groups (u.1) (u.2.1) rowMany cameBy top east south rolled off kind mark rolls many onward (u.2.2.1) (u.2.2.2.1) (u.2.2.2.2) rowWay rowSeen prints homeward) t.heap) (nx_A a 18 sz)) 0 0 (nx_A a 18 sz) := by
  refine nx_enI (fun v u => (v, u) = o) (fun (u : Int32 × Int32 × (Nat → Int32) × (Nat → Int32) × (Nat → Int32)) => (mW E a wide tall groups (u.1) (u.2.1) rowMany cameBy top east south rolled off kind mark rolls many onward (u.2.2.1) (u.2.2.2.1) (u.2.2.2.2) rowWay rowSeen prints homeward)) (by decide) (Nat.le_of_ble_eq_true rfl) ?_
  intro p e s m below meth c Q X kr hsz hP ls hl
  subst hsz
  generalize hargs : (List.toArray [.ref (a 0), .int x1, .int x2, .int x3, .int x4] : Array Value) = args at X kr ⊢
  clear hargs
  obtain ⟨⟨hx, hb, hml, hown, hts⟩, hK, hSt, hNz⟩ := id X
  have hS : va_S (nx_A a 18 s.heap.size) s.heap s.heap [] := va_S.rf
  have hl : lv_has ls 6 [(0, .ref (a 0)), (1, .int x1), (2, .int x2), (3, .int x3), (4, .int x4)] := hl
  unfold f_X11_tour at h
  suffices hw : ∀ (H : Heap) (locs : List Loc), va_P E.1 vwCl (mW E a wide tall groups tours tourLength rowMany cameBy top east south rolled off kind mark rolls many onward at_ goes firstTour rowWay rowSeen prints homeward) H → va_S (nx_A a 18 s.heap.size) s.heap H locs → W p l e (nx_rm 4 98) s m args below meth c H locs 0 0 Q (F0 m 0 ls []) from hw _ _ hP va_S.rf
  intro H locs hP hS
  refine lv_aload_n hx hb dX11_tour_0 rfl (lv_at hl 0 rfl) ?_
  refine lv_iload_n hx hb dX11_tour_1 rfl (lv_at hl 1 rfl) ?_
  refine lv_iload_n hx hb dX11_tour_2 rfl (lv_at hl 2 rfl) ?_
  refine lv_iload_n hx hb dX11_tour_3 rfl (lv_at hl 3 rfl) ?_
  obtain ⟨r_2, hc_1, h⟩ := nx_bd h
  refine nx_ki (nx_runV (As := [.int x1, .int x2, .int x3]) (rest := []) X hS hP (c_X11_mayTour l N E H.size a wide tall groups tours tourLength rowMany cameBy top east south rolled off kind mark rolls many onward at_ goes firstTour rowWay rowSeen prints homeward x1 x2 x3 _ hc_1) nx_FA qV_RX11_168 ⟨rfl, rfl⟩ ⟨Nat.le_of_ble_eq_true rfl, Nat.le_of_ble_eq_true rfl⟩ ⟨Nat.zero_le _, Nat.zero_le _⟩ 0 rfl rfl rfl rfl hl.1 (Nat.le_of_ble_eq_true rfl) dX11_tour_4) hS nx_FA (fun H locs hP hS => ?_)
  refine lv_istore (lv' := [(5, .int r_2), (0, .ref (a 0)), (1, .int x1), (2, .int x2), (3, .int x3), (4, .int x4)]) hx hb dX11_tour_7 hl (by decide) rfl (fun ls hl => ?_)
  refine lv_iload hx hb dX11_tour_9 (lv_at hl 0 rfl) ?_
  refine lv_if_ge (tgt := 17) hx hb dX11_tour_11 (by decide) (fun hc => ?_) (fun hc => ?_)
  · have h := nx_it h hc
    refine lv_aload_n hx hb dX11_tour_17 rfl (lv_at hl 1 rfl) ?_
    refine lv_bipush (v := 24) hx hb dX11_tour_18 (by decide) ?_
    refine lv_iload_n hx hb dX11_tour_20 rfl (lv_at hl 2 rfl) ?_
    refine lv_imul hx hb dX11_tour_21 ?_
    refine lv_iload_n hx hb dX11_tour_22 rfl (lv_at hl 3 rfl) ?_
    refine lv_iadd hx hb dX11_tour_23 ?_
    refine lv_iload_n hx hb dX11_tour_24 rfl (lv_at hl 4 rfl) ?_
    obtain ⟨⟨k_4, k_5, k_6, k_7, k_8⟩, hc_3, h⟩ := nx_bd h
    refine nx_kv (nx_runV (As := [.int ((24 * x1) + x2), .int x3]) (rest := []) X hS hP (c_X11_layTours l N E H.size a wide tall groups tours tourLength rowMany cameBy top east south rolled off kind mark rolls many onward at_ goes firstTour rowWay rowSeen prints homeward ((24 * x1) + x2) x3 hI _ hc_3) (nx_Am hS.1) qV_RX11_172 ⟨rfl, rfl⟩ ⟨Nat.le_of_ble_eq_true rfl, Nat.le_of_ble_eq_true rfl⟩ ⟨Nat.zero_le _, Nat.zero_le _⟩ 0 rfl rfl rfl rfl hl.1 (Nat.le_of_ble_eq_true rfl) dX11_tour_25) hS (nx_Am hS.1) (fun H locs hP hS => ?_)
    have hP : va_P E.1 vwCl (mW E a wide tall groups k_4 k_5 rowMany cameBy top east south rolled off kind mark rolls many onward k_6 k_7 k_8 rowWay rowSeen prints homeward) H := hP
    refine lv_aload_n hx hb dX11_tour_28 rfl (lv_at hl 1 rfl) ?_
    refine nx_gf X hP uw_X11 (ci := 10) rfl 0 rfl 16 (by decide) wf_RX11_159 rfl dX11_tour_29 ?_
    refine lv_if_le (tgt := 62) hx hb dX11_tour_32 (by decide) (fun hc => ?_) (fun hc => ?_)
    · have h := nx_it h hc
      refine lv_bipush (v := (-9)) hx hb dX11_tour_62 (by decide) ?_
      exact kr 64 ls (-9) (k_4, k_5, k_6, k_7, k_8) H locs dX11_tour_64 (Option.some.inj h) hP hS
    · have h := nx_if h hc
      refine lv_iload hx hb dX11_tour_35 (lv_at hl 5 rfl) ?_
      refine lv_i2l (v := (x4 : Int32).toInt64) hx hb dX11_tour_37 rfl ?_
      refine lv_lconst (v := 0) hx hb dX11_tour_38 (by decide) ?_
      refine lv_aload_n hx hb dX11_tour_39 rfl (lv_at hl 1 rfl) ?_
      refine nx_gf X hP uw_X11 (ci := 10) rfl 0 rfl 17 (by decide) wf_RX11_162 rfl dX11_tour_40 ?_
      refine lv_iconst (v := 1) hx hb dX11_tour_43 (by decide) ?_
      refine lv_isub hx hb dX11_tour_44 ?_
      refine lv_i2l (v := ((k_5 - 1) : Int32).toInt64) hx hb dX11_tour_45 rfl ?_
      obtain ⟨r_11, hc_10, h⟩ := nx_bd h
      refine nx_ki (nx_runS (As := [.long ((x4 : Int32).toInt64), .long 0, .long (((k_5 - 1) : Int32).toInt64)]) (rest := []) X hS hP (c_X11_in l E H.size a wide tall groups k_4 k_5 rowMany cameBy top east south rolled off kind mark rolls many onward k_6 k_7 k_8 rowWay rowSeen prints homeward ((x4 : Int32).toInt64) 0 (((k_5 - 1) : Int32).toInt64) _ hc_10) nx_FA qS_RX11_84 ⟨rfl, rfl⟩ ⟨Nat.le_of_ble_eq_true rfl, Nat.le_of_ble_eq_true rfl⟩ ⟨Nat.zero_le _, Nat.zero_le _⟩ rfl rfl hl.1 (Nat.le_of_ble_eq_true rfl) dX11_tour_46) hS nx_FA (fun H locs hP hS => ?_)
      refine lv_if_eq (tgt := 62) hx hb dX11_tour_49 (by decide) (fun hc => ?_) (fun hc => ?_)
      · have h := nx_it h hc
        refine lv_bipush (v := (-9)) hx hb dX11_tour_62 (by decide) ?_
        exact kr 64 ls (-9) (k_4, k_5, k_6, k_7, k_8) H locs dX11_tour_64 (Option.some.inj h) hP hS
      · have h := nx_if h hc
        refine lv_aload_n hx hb dX11_tour_52 rfl (lv_at hl 1 rfl) ?_
        refine nx_gf X hP uw_X11 (ci := 10) rfl 0 rfl 15 (by decide) wf_RX11_54 rfl dX11_tour_53 ?_
        refine lv_iload hx hb dX11_tour_56 (lv_at hl 5 rfl) ?_
        obtain ⟨hv_12, h⟩ := nx_rb h
        refine nx_ld X hP 13 rfl hv_12 dX11_tour_58 ?_
        refine lv_goto (tgt := 64) hx hb dX11_tour_59 (by decide) ?_
        exact kr 64 ls (k_8 x4.toNatClampNeg) (k_4, k_5, k_6, k_7, k_8) H locs dX11_tour_64 (Option.some.inj h) hP hS
  · have h := nx_if h hc
    refine lv_iload hx hb dX11_tour_14 (lv_at hl 0 rfl) ?_
    exact kr 16 ls r_2 (tours, tourLength, at_, goes, firstTour) H locs dX11_tour_16 (Option.some.inj h) hP hS
def f_X11_row (x1 : Int32) (x2 : Int32) (rowMany : Int32) (rowWay : Nat → Int32) (rowSeen : Nat → Int32) : Option (Int32 × (Int32 × (Nat → Int32) × (Nat → Int32))) :=
  (f_X11_isWay x1).bind fun r_2 => if r_2 = 0 then (some ((-2), (rowMany, rowWay, rowSeen))) else ((f_X11_in ((x2 : Int32).toInt64) 0 6).bind fun r_4 => if r_4 = 0 then (some ((-2), (rowMany, rowWay, rowSeen))) else (if rowMany = 20 then (some ((-4), (rowMany, rowWay, rowSeen))) else ((nx_ck 20 rowMany).bind fun _ => (nx_ck 20 rowMany).bind fun _ => some ((rowMany + 1), ((rowMany + 1), (upd rowWay rowMany.toNatClampNeg x1), (upd rowSeen rowMany.toNatClampNeg x2))))))
set_option maxHeartbeats 4000000 in
set_option maxRecDepth 100000 in
theorem c_X11_row (l : Launch) (E : nx_E) (sz : Nat) (a : Nat → Nat) (wide : Int32) (tall : Int32) (groups : Int32) (tours : Int32) (tourLength : Int32) (rowMany : Int32) (cameBy : Int32) (top : Nat → Int32) (east : Nat → Int32) (south : Nat → Int32) (rolled : Nat → Int32) (off : Nat → Int32) (kind : Nat → Int32) (mark : Nat → Int32) (rolls : Nat → Int32) (many : Nat → Int64) (onward : Nat → Int32) (at_ : Nat → Int32) (goes : Nat → Int32) (firstTour : Nat → Int32) (rowWay : Nat → Int32) (rowSeen : Nat → Int32) (prints : Nat → Int32) (homeward : Nat → Int32) (x1 : Int32) (x2 : Int32) (hI : nx_inj a 18) (o : Int32 × (Int32 × (Nat → Int32) × (Nat → Int32))) (h : f_X11_row x1 x2 rowMany rowWay rowSeen = some o) : Met l yX11_row (.code yX11_row cX11_row 3 (some .int) :: nx_T) (nx_rm 2 45) (va_Pc [.ref (a 0), .int x1, .int x2] (nx_P E (nx_A a 18 sz) sz (mW E a wide tall groups tours tourLength rowMany cameBy top east south rolled off kind mark rolls many onward at_ goes firstTour rowWay rowSeen prints homeward))) (va_Qi (fun v u => (v, u) = o) (fun u t => va_P E.1 vwCl (mW E a wide tall groups tours tourLength (u.1) cameBy top east south rolled off kind mark rolls many onward at_ goes firstTour (u.2.1) (u.2.2) prints homeward) t.heap) (nx_A a 18 sz)) 0 0 (nx_A a 18 sz) := by
  refine nx_enI (fun v u => (v, u) = o) (fun (u : Int32 × (Nat → Int32) × (Nat → Int32)) => (mW E a wide tall groups tours tourLength (u.1) cameBy top east south rolled off kind mark rolls many onward at_ goes firstTour (u.2.1) (u.2.2) prints homeward)) (by decide) (Nat.le_of_ble_eq_true rfl) ?_
  intro p e s m below meth c Q X kr hsz hP ls hl
  subst hsz
  generalize hargs : (List.toArray [.ref (a 0), .int x1, .int x2] : Array Value) = args at X kr ⊢
  clear hargs
  obtain ⟨⟨hx, hb, hml, hown, hts⟩, hK, hSt, hNz⟩ := id X
  have hS : va_S (nx_A a 18 s.heap.size) s.heap s.heap [] := va_S.rf
  have hl : lv_has ls 3 [(0, .ref (a 0)), (1, .int x1), (2, .int x2)] := hl
  unfold f_X11_row at h
  suffices hw : ∀ (H : Heap) (locs : List Loc), va_P E.1 vwCl (mW E a wide tall groups tours tourLength rowMany cameBy top east south rolled off kind mark rolls many onward at_ goes firstTour rowWay rowSeen prints homeward) H → va_S (nx_A a 18 s.heap.size) s.heap H locs → W p l e (nx_rm 2 45) s m args below meth c H locs 0 0 Q (F0 m 0 ls []) from hw _ _ hP va_S.rf
  intro H locs hP hS
  refine lv_iload_n hx hb dX11_row_0 rfl (lv_at hl 1 rfl) ?_
  obtain ⟨r_2, hc_1, h⟩ := nx_bd h
  refine nx_ki (nx_runS (As := [.int x1]) (rest := []) X hS hP (c_X11_isWay l E H.size a wide tall groups tours tourLength rowMany cameBy top east south rolled off kind mark rolls many onward at_ goes firstTour rowWay rowSeen prints homeward x1 _ hc_1) nx_FA qS_RX11_94 ⟨rfl, rfl⟩ ⟨Nat.le_of_ble_eq_true rfl, Nat.le_of_ble_eq_true rfl⟩ ⟨Nat.zero_le _, Nat.zero_le _⟩ rfl rfl hl.1 (Nat.le_of_ble_eq_true rfl) dX11_row_1) hS nx_FA (fun H locs hP hS => ?_)
  refine lv_if_eq (tgt := 19) hx hb dX11_row_4 (by decide) (fun hc => ?_) (fun hc => ?_)
  · have h := nx_it h hc
    refine lv_bipush (v := (-2)) hx hb dX11_row_19 (by decide) ?_
    exact kr 21 ls (-2) (rowMany, rowWay, rowSeen) H locs dX11_row_21 (Option.some.inj h) hP hS
  · have h := nx_if h hc
    refine lv_iload_n hx hb dX11_row_7 rfl (lv_at hl 2 rfl) ?_
    refine lv_i2l (v := (x2 : Int32).toInt64) hx hb dX11_row_8 rfl ?_
    refine lv_lconst (v := 0) hx hb dX11_row_9 (by decide) ?_
    refine lv_ldc2 hx hb hown (hts _ wl_RX11_97) dX11_row_10 ?_
    obtain ⟨r_4, hc_3, h⟩ := nx_bd h
    refine nx_ki (nx_runS (As := [.long ((x2 : Int32).toInt64), .long 0, .long 6]) (rest := []) X hS hP (c_X11_in l E H.size a wide tall groups tours tourLength rowMany cameBy top east south rolled off kind mark rolls many onward at_ goes firstTour rowWay rowSeen prints homeward ((x2 : Int32).toInt64) 0 6 _ hc_3) nx_FA qS_RX11_84 ⟨rfl, rfl⟩ ⟨Nat.le_of_ble_eq_true rfl, Nat.le_of_ble_eq_true rfl⟩ ⟨Nat.zero_le _, Nat.zero_le _⟩ rfl rfl hl.1 (Nat.le_of_ble_eq_true rfl) dX11_row_13) hS nx_FA (fun H locs hP hS => ?_)
    refine lv_if_ne (tgt := 22) hx hb dX11_row_16 (by decide) (fun hc => ?_) (fun hc => ?_)
    · have h := nx_if h hc
      refine lv_aload_n hx hb dX11_row_22 rfl (lv_at hl 0 rfl) ?_
      refine nx_gf X hP uw_X11 (ci := 10) rfl 0 rfl 18 (by decide) wf_RX11_175 rfl dX11_row_23 ?_
      refine lv_bipush (v := 20) hx hb dX11_row_26 (by decide) ?_
      refine lv_icmp_ne (tgt := 34) hx hb dX11_row_28 (by decide) (fun hc => ?_) (fun hc => ?_)
      · have h := nx_if h hc
        refine lv_aload_n hx hb dX11_row_34 rfl (lv_at hl 0 rfl) ?_
        refine nx_gf X hP uw_X11 (ci := 10) rfl 0 rfl 19 (by decide) wf_RX11_57 rfl dX11_row_35 ?_
        refine lv_aload_n hx hb dX11_row_38 rfl (lv_at hl 0 rfl) ?_
        refine nx_gf X hP uw_X11 (ci := 10) rfl 0 rfl 18 (by decide) wf_RX11_175 rfl dX11_row_39 ?_
        refine lv_iload_n hx hb dX11_row_42 rfl (lv_at hl 1 rfl) ?_
        obtain ⟨hv_5, h⟩ := nx_cb h
        refine nx_st X hI mW_ad hP hS 14 rfl hv_5 dX11_row_43 (fun H locs hP hS => ?_)
        have hP : va_P E.1 vwCl (mW E a wide tall groups tours tourLength rowMany cameBy top east south rolled off kind mark rolls many onward at_ goes firstTour (upd rowWay rowMany.toNatClampNeg x1) rowSeen prints homeward) H := hP
        refine lv_aload_n hx hb dX11_row_44 rfl (lv_at hl 0 rfl) ?_
        refine nx_gf X hP uw_X11 (ci := 10) rfl 0 rfl 20 (by decide) wf_RX11_60 rfl dX11_row_45 ?_
        refine lv_aload_n hx hb dX11_row_48 rfl (lv_at hl 0 rfl) ?_
        refine nx_gf X hP uw_X11 (ci := 10) rfl 0 rfl 18 (by decide) wf_RX11_175 rfl dX11_row_49 ?_
        refine lv_iload_n hx hb dX11_row_52 rfl (lv_at hl 2 rfl) ?_
        obtain ⟨hv_6, h⟩ := nx_cb h
        refine nx_st X hI mW_ad hP hS 15 rfl hv_6 dX11_row_53 (fun H locs hP hS => ?_)
        have hP : va_P E.1 vwCl (mW E a wide tall groups tours tourLength rowMany cameBy top east south rolled off kind mark rolls many onward at_ goes firstTour (upd rowWay rowMany.toNatClampNeg x1) (upd rowSeen rowMany.toNatClampNeg x2) prints homeward) H := hP
        refine lv_aload_n hx hb dX11_row_54 rfl (lv_at hl 0 rfl) ?_
        refine lv_dup hx hb dX11_row_55 rfl ?_
        refine nx_gf X hP uw_X11 (ci := 10) rfl 0 rfl 18 (by decide) wf_RX11_175 rfl dX11_row_56 ?_
        refine lv_iconst (v := 1) hx hb dX11_row_59 (by decide) ?_
        refine lv_iadd hx hb dX11_row_60 ?_
        refine nx_pf (ty := .int) (v := .int (rowMany + 1)) X hI mW_ad hP hS uw_X11 tyX11 tyX11_ok nmX11 (ci := 10) rfl 0 rfl 18 (by decide) wf_RX11_175 rfl (by decide +kernel) rfl rfl (Nat.le_of_ble_eq_true rfl) dX11_row_61 (fun H locs hP hS => ?_)
        have hP : va_P E.1 vwCl (mW E a wide tall groups tours tourLength (rowMany + 1) cameBy top east south rolled off kind mark rolls many onward at_ goes firstTour (upd rowWay rowMany.toNatClampNeg x1) (upd rowSeen rowMany.toNatClampNeg x2) prints homeward) H := hP
        refine lv_aload_n hx hb dX11_row_64 rfl (lv_at hl 0 rfl) ?_
        refine nx_gf X hP uw_X11 (ci := 10) rfl 0 rfl 18 (by decide) wf_RX11_175 rfl dX11_row_65 ?_
        exact kr 68 ls (rowMany + 1) ((rowMany + 1), (upd rowWay rowMany.toNatClampNeg x1), (upd rowSeen rowMany.toNatClampNeg x2)) H locs dX11_row_68 (Option.some.inj h) hP hS
      · have h := nx_it h hc
        refine lv_bipush (v := (-4)) hx hb dX11_row_31 (by decide) ?_
        exact kr 33 ls (-4) (rowMany, rowWay, rowSeen) H locs dX11_row_33 (Option.some.inj h) hP hS
    · have h := nx_it h hc
      refine lv_bipush (v := (-2)) hx hb dX11_row_19 (by decide) ?_
      exact kr 21 ls (-2) (rowMany, rowWay, rowSeen) H locs dX11_row_21 (Option.some.inj h) hP hS
def f_X11_clear  (rowMany : Int32) : Option (Int32 × (Int32)) :=
  some (rowMany, 0)
set_option maxHeartbeats 4000000 in
set_option maxRecDepth 100000 in
theorem c_X11_clear (l : Launch) (E : nx_E) (sz : Nat) (a : Nat → Nat) (wide : Int32) (tall : Int32) (groups : Int32) (tours : Int32) (tourLength : Int32) (rowMany : Int32) (cameBy : Int32) (top : Nat → Int32) (east : Nat → Int32) (south : Nat → Int32) (rolled : Nat → Int32) (off : Nat → Int32) (kind : Nat → Int32) (mark : Nat → Int32) (rolls : Nat → Int32) (many : Nat → Int64) (onward : Nat → Int32) (at_ : Nat → Int32) (goes : Nat → Int32) (firstTour : Nat → Int32) (rowWay : Nat → Int32) (rowSeen : Nat → Int32) (prints : Nat → Int32) (homeward : Nat → Int32)  (hI : nx_inj a 18) (o : Int32 × (Int32)) (h : f_X11_clear rowMany = some o) : Met l yX11_clear (.code yX11_clear cX11_clear 2 (some .int) :: nx_T) (nx_rm 0 0) (va_Pc [.ref (a 0)] (nx_P E (nx_A a 18 sz) sz (mW E a wide tall groups tours tourLength rowMany cameBy top east south rolled off kind mark rolls many onward at_ goes firstTour rowWay rowSeen prints homeward))) (va_Qi (fun v u => (v, u) = o) (fun u t => va_P E.1 vwCl (mW E a wide tall groups tours tourLength u cameBy top east south rolled off kind mark rolls many onward at_ goes firstTour rowWay rowSeen prints homeward) t.heap) (nx_A a 18 sz)) 0 0 (nx_A a 18 sz) := by
  refine nx_enI (fun v u => (v, u) = o) (fun (u : Int32) => (mW E a wide tall groups tours tourLength u cameBy top east south rolled off kind mark rolls many onward at_ goes firstTour rowWay rowSeen prints homeward)) (by decide) (Nat.le_of_ble_eq_true rfl) ?_
  intro p e s m below meth c Q X kr hsz hP ls hl
  subst hsz
  generalize hargs : (List.toArray [.ref (a 0)] : Array Value) = args at X kr ⊢
  clear hargs
  obtain ⟨⟨hx, hb, hml, hown, hts⟩, hK, hSt, hNz⟩ := id X
  have hS : va_S (nx_A a 18 s.heap.size) s.heap s.heap [] := va_S.rf
  have hl : lv_has ls 2 [(0, .ref (a 0))] := hl
  unfold f_X11_clear at h
  suffices hw : ∀ (H : Heap) (locs : List Loc), va_P E.1 vwCl (mW E a wide tall groups tours tourLength rowMany cameBy top east south rolled off kind mark rolls many onward at_ goes firstTour rowWay rowSeen prints homeward) H → va_S (nx_A a 18 s.heap.size) s.heap H locs → W p l e (nx_rm 0 0) s m args below meth c H locs 0 0 Q (F0 m 0 ls []) from hw _ _ hP va_S.rf
  intro H locs hP hS
  refine lv_aload_n hx hb dX11_clear_0 rfl (lv_at hl 0 rfl) ?_
  refine nx_gf X hP uw_X11 (ci := 10) rfl 0 rfl 18 (by decide) wf_RX11_175 rfl dX11_clear_1 ?_
  refine lv_istore_n (lv' := [(1, .int rowMany), (0, .ref (a 0))]) hx hb dX11_clear_4 rfl hl (by decide) rfl (fun ls hl => ?_)
  refine lv_aload_n hx hb dX11_clear_5 rfl (lv_at hl 1 rfl) ?_
  refine lv_iconst (v := 0) hx hb dX11_clear_6 (by decide) ?_
  refine nx_pf (ty := .int) (v := .int 0) X hI mW_ad hP hS uw_X11 tyX11 tyX11_ok nmX11 (ci := 10) rfl 0 rfl 18 (by decide) wf_RX11_175 rfl (by decide +kernel) rfl rfl (Nat.le_of_ble_eq_true rfl) dX11_clear_7 (fun H locs hP hS => ?_)
  have hP : va_P E.1 vwCl (mW E a wide tall groups tours tourLength 0 cameBy top east south rolled off kind mark rolls many onward at_ goes firstTour rowWay rowSeen prints homeward) H := hP
  refine lv_iload_n hx hb dX11_clear_10 rfl (lv_at hl 0 rfl) ?_
  exact kr 11 ls rowMany 0 H locs dX11_clear_11 (Option.some.inj h) hP hS
def f_X11_behind_b4 (wide : Int32) (tall : Int32) (groups : Int32) (rowMany : Int32) (top : Nat → Int32) (rolled : Nat → Int32) (kind : Nat → Int32) (mark : Nat → Int32) (rowWay : Nat → Int32) (rowSeen : Nat → Int32) (rec : (Int32 × Int32) → Option (Int32)) (x2 : Int32) (x3 : Int32) : Option (Int32) :=
  if rowMany ≤ x3 then (some x2) else (if x2 = (-9) then (some x2) else ((nx_rd rowWay 20 x3).bind fun _ => (f_X11_rollOf x2 (rowWay x3.toNatClampNeg) wide tall groups top rolled kind mark).bind fun r_4 => if r_4 = (-9) then (rec (r_4, (x3 + 1))) else ((nx_rd rowSeen 20 x3).bind fun _ => if (rowSeen x3.toNatClampNeg) = 0 then (rec (r_4, (x3 + 1))) else ((nx_rd rowSeen 20 x3).bind fun _ => (f_X11_print r_4 top).bind fun r_10 => if (rowSeen x3.toNatClampNeg) = r_10 then (rec (r_4, (x3 + 1))) else (rec ((-9), (x3 + 1)))))))
def f_X11_behind_l4 (wide : Int32) (tall : Int32) (groups : Int32) (rowMany : Int32) (top : Nat → Int32) (rolled : Nat → Int32) (kind : Nat → Int32) (mark : Nat → Int32) (rowWay : Nat → Int32) (rowSeen : Nat → Int32) : Nat → (Int32 × Int32) → Option (Int32) := nx_lp (fun rec z => f_X11_behind_b4 wide tall groups rowMany top rolled kind mark rowWay rowSeen rec z.1 z.2)
def f_X11_behind (N : Nat) (x1 : Int32) (wide : Int32) (tall : Int32) (groups : Int32) (rowMany : Int32) (top : Nat → Int32) (rolled : Nat → Int32) (kind : Nat → Int32) (mark : Nat → Int32) (rowWay : Nat → Int32) (rowSeen : Nat → Int32) : Option (Int32) :=
  (f_X11_behind_l4 wide tall groups rowMany top rolled kind mark rowWay rowSeen N (x1, 0)).bind fun z_11 => some z_11
set_option maxHeartbeats 4000000 in
set_option maxRecDepth 100000 in
theorem c_X11_behind (l : Launch) (N : Nat) (E : nx_E) (sz : Nat) (a : Nat → Nat) (wide : Int32) (tall : Int32) (groups : Int32) (tours : Int32) (tourLength : Int32) (rowMany : Int32) (cameBy : Int32) (top : Nat → Int32) (east : Nat → Int32) (south : Nat → Int32) (rolled : Nat → Int32) (off : Nat → Int32) (kind : Nat → Int32) (mark : Nat → Int32) (rolls : Nat → Int32) (many : Nat → Int64) (onward : Nat → Int32) (at_ : Nat → Int32) (goes : Nat → Int32) (firstTour : Nat → Int32) (rowWay : Nat → Int32) (rowSeen : Nat → Int32) (prints : Nat → Int32) (homeward : Nat → Int32) (x1 : Int32) (o : Int32) (h : f_X11_behind N x1 wide tall groups rowMany top rolled kind mark rowWay rowSeen = some o) : Met l yX11_behind (.code yX11_behind cX11_behind 4 (some .int) :: nx_T) (nx_rm 3 73) (va_Pc [.ref (a 0), .int x1] (nx_P E (nx_F) sz (mW E a wide tall groups tours tourLength rowMany cameBy top east south rolled off kind mark rolls many onward at_ goes firstTour rowWay rowSeen prints homeward))) (va_Qi (fun v (_ : Unit) => v = o) (fun _ t => va_P E.1 vwCl (mW E a wide tall groups tours tourLength rowMany cameBy top east south rolled off kind mark rolls many onward at_ goes firstTour rowWay rowSeen prints homeward) t.heap) (nx_F)) 0 0 (nx_F) := by
  refine nx_enI (fun v (_ : Unit) => v = o) (fun (_ : Unit) => (mW E a wide tall groups tours tourLength rowMany cameBy top east south rolled off kind mark rolls many onward at_ goes firstTour rowWay rowSeen prints homeward)) (by decide) (Nat.le_of_ble_eq_true rfl) ?_
  intro p e s m below meth c Q X kr hsz hP ls hl
  subst hsz
  generalize hargs : (List.toArray [.ref (a 0), .int x1] : Array Value) = args at X kr ⊢
  clear hargs
  obtain ⟨⟨hx, hb, hml, hown, hts⟩, hK, hSt, hNz⟩ := id X
  have hS : va_S (nx_F) s.heap s.heap [] := va_S.rf
  have hl : lv_has ls 4 [(0, .ref (a 0)), (1, .int x1)] := hl
  have L4 : ∀ (n : Nat) (x2 : Int32) (x3 : Int32) (z : (Int32)), f_X11_behind_l4 wide tall groups rowMany top rolled kind mark rowWay rowSeen n (x2, x3) = some z → ∀ (H : Heap) (locs : List Loc) (ls : Array Slot), va_P E.1 vwCl (mW E a wide tall groups tours tourLength rowMany cameBy top east south rolled off kind mark rolls many onward at_ goes firstTour rowWay rowSeen prints homeward) H → va_S (nx_F) s.heap H locs → lv_has ls 4 [(0, .ref (a 0)), (2, .int x2), (3, .int x3)] → ∀ (kR : ∀ (H : Heap) (locs : List Loc) (ls : Array Slot), va_P E.1 vwCl (mW E a wide tall groups tours tourLength rowMany cameBy top east south rolled off kind mark rolls many onward at_ goes firstTour rowWay rowSeen prints homeward) H → va_S (nx_F) s.heap H locs → lv_has ls 4 [(0, .ref (a 0)), (2, .int z)] → W p l e (nx_rm 3 73) s m args below meth c H locs 0 0 Q (F0 m 72 ls [])), W p l e (nx_rm 3 73) s m args below meth c H locs 0 0 Q (F0 m 4 ls []) := by
   intro  n
   induction n with
   | zero => intro x2 x3 z h; exact nomatch (show none = some z from h)
   | succ n ih =>
    intro x2 x3 z h H locs ls hP hS hl kR
    have h : f_X11_behind_b4 wide tall groups rowMany top rolled kind mark rowWay rowSeen (f_X11_behind_l4 wide tall groups rowMany top rolled kind mark rowWay rowSeen n) x2 x3 = some z := h
    unfold f_X11_behind_b4 at h
    refine lv_iload_n hx hb dX11_behind_4 rfl (lv_at hl 2 rfl) ?_
    refine lv_aload_n hx hb dX11_behind_5 rfl (lv_at hl 0 rfl) ?_
    refine nx_gf X hP uw_X11 (ci := 10) rfl 0 rfl 18 (by decide) wf_RX11_175 rfl dX11_behind_6 ?_
    refine lv_icmp_ge (tgt := 72) hx hb dX11_behind_9 (by decide) (fun hc => ?_) (fun hc => ?_)
    · have h := nx_it h hc
      obtain rfl := Option.some.inj h
      exact kR H locs ls hP hS (lv_sub hl [0, 1] rfl)
    · have h := nx_if h hc
      refine lv_iload_n hx hb dX11_behind_12 rfl (lv_at hl 1 rfl) ?_
      refine lv_bipush (v := (-9)) hx hb dX11_behind_13 (by decide) ?_
      refine lv_icmp_eq (tgt := 72) hx hb dX11_behind_15 (by decide) (fun hc => ?_) (fun hc => ?_)
      · have h := nx_it h hc
        obtain rfl := Option.some.inj h
        exact kR H locs ls hP hS (lv_sub hl [0, 1] rfl)
      · have h := nx_if h hc
        refine lv_aload_n hx hb dX11_behind_18 rfl (lv_at hl 0 rfl) ?_
        refine lv_iload_n hx hb dX11_behind_19 rfl (lv_at hl 1 rfl) ?_
        refine lv_aload_n hx hb dX11_behind_20 rfl (lv_at hl 0 rfl) ?_
        refine nx_gf X hP uw_X11 (ci := 10) rfl 0 rfl 19 (by decide) wf_RX11_57 rfl dX11_behind_21 ?_
        refine lv_iload_n hx hb dX11_behind_24 rfl (lv_at hl 2 rfl) ?_
        obtain ⟨hv_1, h⟩ := nx_rb h
        refine nx_ld X hP 14 rfl hv_1 dX11_behind_25 ?_
        obtain ⟨r_4, hc_3, h⟩ := nx_bd h
        refine nx_ki (nx_runV (As := [.int x2, .int (rowWay x3.toNatClampNeg)]) (rest := []) X hS hP (c_X11_rollOf l E H.size a wide tall groups tours tourLength rowMany cameBy top east south rolled off kind mark rolls many onward at_ goes firstTour rowWay rowSeen prints homeward x2 (rowWay x3.toNatClampNeg) _ hc_3) nx_FA qV_RX11_123 ⟨rfl, rfl⟩ ⟨Nat.le_of_ble_eq_true rfl, Nat.le_of_ble_eq_true rfl⟩ ⟨Nat.zero_le _, Nat.zero_le _⟩ 0 rfl rfl rfl rfl hl.1 (Nat.le_of_ble_eq_true rfl) dX11_behind_26) hS nx_FA (fun H locs hP hS => ?_)
        refine lv_istore_n (lv' := [(2, .int r_4), (0, .ref (a 0)), (3, .int x3)]) hx hb dX11_behind_29 rfl hl (by decide) rfl (fun ls hl => ?_)
        refine lv_iload_n hx hb dX11_behind_30 rfl (lv_at hl 0 rfl) ?_
        refine lv_bipush (v := (-9)) hx hb dX11_behind_31 (by decide) ?_
        refine lv_icmp_eq (tgt := 59) hx hb dX11_behind_33 (by decide) (fun hc => ?_) (fun hc => ?_)
        · have h := nx_it h hc
          refine lv_iload_n hx hb dX11_behind_59 rfl (lv_at hl 0 rfl) ?_
          refine lv_goto (tgt := 65) hx hb dX11_behind_60 (by decide) ?_
          refine lv_istore_n (lv' := [(2, .int r_4), (0, .ref (a 0)), (3, .int x3)]) hx hb dX11_behind_65 rfl hl (by decide) rfl (fun ls hl => ?_)
          refine lv_iinc (v := (x3 + 1)) (lv' := [(3, .int (x3 + 1)), (2, .int r_4), (0, .ref (a 0))]) hx hb dX11_behind_66 hl (k := 2) rfl rfl (by decide) rfl (fun ls hl => ?_)
          refine lv_goto (tgt := 4) hx hb dX11_behind_69 (by decide) ?_
          exact ih _ _ z h H locs ls hP hS (lv_sub hl [2, 1, 0] rfl) kR
        · have h := nx_if h hc
          refine lv_aload_n hx hb dX11_behind_36 rfl (lv_at hl 1 rfl) ?_
          refine nx_gf X hP uw_X11 (ci := 10) rfl 0 rfl 20 (by decide) wf_RX11_60 rfl dX11_behind_37 ?_
          refine lv_iload_n hx hb dX11_behind_40 rfl (lv_at hl 2 rfl) ?_
          obtain ⟨hv_5, h⟩ := nx_rb h
          refine nx_ld X hP 15 rfl hv_5 dX11_behind_41 ?_
          refine lv_if_eq (tgt := 59) hx hb dX11_behind_42 (by decide) (fun hc => ?_) (fun hc => ?_)
          · have h := nx_it h hc
            refine lv_iload_n hx hb dX11_behind_59 rfl (lv_at hl 0 rfl) ?_
            refine lv_goto (tgt := 65) hx hb dX11_behind_60 (by decide) ?_
            refine lv_istore_n (lv' := [(2, .int r_4), (0, .ref (a 0)), (3, .int x3)]) hx hb dX11_behind_65 rfl hl (by decide) rfl (fun ls hl => ?_)
            refine lv_iinc (v := (x3 + 1)) (lv' := [(3, .int (x3 + 1)), (2, .int r_4), (0, .ref (a 0))]) hx hb dX11_behind_66 hl (k := 2) rfl rfl (by decide) rfl (fun ls hl => ?_)
            refine lv_goto (tgt := 4) hx hb dX11_behind_69 (by decide) ?_
            exact ih _ _ z h H locs ls hP hS (lv_sub hl [2, 1, 0] rfl) kR
          · have h := nx_if h hc
            refine lv_aload_n hx hb dX11_behind_45 rfl (lv_at hl 1 rfl) ?_
            refine nx_gf X hP uw_X11 (ci := 10) rfl 0 rfl 20 (by decide) wf_RX11_60 rfl dX11_behind_46 ?_
            refine lv_iload_n hx hb dX11_behind_49 rfl (lv_at hl 2 rfl) ?_
            obtain ⟨hv_7, h⟩ := nx_rb h
            refine nx_ld X hP 15 rfl hv_7 dX11_behind_50 ?_
            refine lv_aload_n hx hb dX11_behind_51 rfl (lv_at hl 1 rfl) ?_
            refine lv_iload_n hx hb dX11_behind_52 rfl (lv_at hl 0 rfl) ?_
            obtain ⟨r_10, hc_9, h⟩ := nx_bd h
            refine nx_ki (nx_runV (As := [.int r_4]) (rest := [.int (rowSeen x3.toNatClampNeg)]) X hS hP (c_X11_print l E H.size a wide tall groups tours tourLength rowMany cameBy top east south rolled off kind mark rolls many onward at_ goes firstTour rowWay rowSeen prints homeward r_4 _ hc_9) nx_FA qV_RX11_152 ⟨rfl, rfl⟩ ⟨Nat.le_of_ble_eq_true rfl, Nat.le_of_ble_eq_true rfl⟩ ⟨Nat.zero_le _, Nat.zero_le _⟩ 0 rfl rfl rfl rfl hl.1 (Nat.le_of_ble_eq_true rfl) dX11_behind_53) hS nx_FA (fun H locs hP hS => ?_)
            refine lv_icmp_ne (tgt := 63) hx hb dX11_behind_56 (by decide) (fun hc => ?_) (fun hc => ?_)
            · have h := nx_if h hc
              refine lv_bipush (v := (-9)) hx hb dX11_behind_63 (by decide) ?_
              refine lv_istore_n (lv' := [(2, .int (-9)), (0, .ref (a 0)), (3, .int x3)]) hx hb dX11_behind_65 rfl hl (by decide) rfl (fun ls hl => ?_)
              refine lv_iinc (v := (x3 + 1)) (lv' := [(3, .int (x3 + 1)), (2, .int (-9)), (0, .ref (a 0))]) hx hb dX11_behind_66 hl (k := 2) rfl rfl (by decide) rfl (fun ls hl => ?_)
              refine lv_goto (tgt := 4) hx hb dX11_behind_69 (by decide) ?_
              exact ih _ _ z h H locs ls hP hS (lv_sub hl [2, 1, 0] rfl) kR
            · have h := nx_it h hc
              refine lv_iload_n hx hb dX11_behind_59 rfl (lv_at hl 0 rfl) ?_
              refine lv_goto (tgt := 65) hx hb dX11_behind_60 (by decide) ?_
              refine lv_istore_n (lv' := [(2, .int r_4), (0, .ref (a 0)), (3, .int x3)]) hx hb dX11_behind_65 rfl hl (by decide) rfl (fun ls hl => ?_)
              refine lv_iinc (v := (x3 + 1)) (lv' := [(3, .int (x3 + 1)), (2, .int r_4), (0, .ref (a 0))]) hx hb dX11_behind_66 hl (k := 2) rfl rfl (by decide) rfl (fun ls hl => ?_)
              refine lv_goto (tgt := 4) hx hb dX11_behind_69 (by decide) ?_
              exact ih _ _ z h H locs ls hP hS (lv_sub hl [2, 1, 0] rfl) kR
  unfold f_X11_behind at h
  suffices hw : ∀ (H : Heap) (locs : List Loc), va_P E.1 vwCl (mW E a wide tall groups tours tourLength rowMany cameBy top east south rolled off kind mark rolls many onward at_ goes firstTour rowWay rowSeen prints homeward) H → va_S (nx_F) s.heap H locs → W p l e (nx_rm 3 73) s m args below meth c H locs 0 0 Q (F0 m 0 ls []) from hw _ _ hP va_S.rf
  intro H locs hP hS
  refine lv_iload_n hx hb dX11_behind_0 rfl (lv_at hl 1 rfl) ?_
  refine lv_istore_n (lv' := [(2, .int x1), (0, .ref (a 0)), (1, .int x1)]) hx hb dX11_behind_1 rfl hl (by decide) rfl (fun ls hl => ?_)
  refine lv_iconst (v := 0) hx hb dX11_behind_2 (by decide) ?_
  refine lv_istore_n (lv' := [(3, .int 0), (2, .int x1), (0, .ref (a 0)), (1, .int x1)]) hx hb dX11_behind_3 rfl hl (by decide) rfl (fun ls hl => ?_)
  obtain ⟨z_11, hz_12, h⟩ := nx_bd h
  refine L4  N _ _ _ hz_12 H locs ls hP hS (lv_sub hl [2, 1, 0] rfl) (fun H locs ls hP hS hl => ?_)
  refine lv_iload_n hx hb dX11_behind_72 rfl (lv_at hl 1 rfl) ?_
  exact kr 73 ls z_11 () H locs dX11_behind_73 (Option.some.inj h) hP hS
def f_X11_starts_j31 (rec : (Int32 × Int32) → Option (Int32)) (x2 : Int32) (s0 : Int32) (s1 : Int32) : Option (Int32) :=
  rec ((s1 + s0), (x2 + 1))
def f_X11_starts_b4 (N : Nat) (wide : Int32) (tall : Int32) (groups : Int32) (rowMany : Int32) (top : Nat → Int32) (rolled : Nat → Int32) (kind : Nat → Int32) (mark : Nat → Int32) (rowWay : Nat → Int32) (rowSeen : Nat → Int32) (rec : (Int32 × Int32) → Option (Int32)) (x1 : Int32) (x2 : Int32) : Option (Int32) :=
  (f_X11_cells wide tall).bind fun r_2 => if (24 * r_2) ≤ x2 then (some x1) else ((f_X11_behind N x2 wide tall groups rowMany top rolled kind mark rowWay rowSeen).bind fun r_4 => if r_4 = (-9) then (f_X11_starts_j31 rec x2 0 x1) else (f_X11_starts_j31 rec x2 1 x1))
def f_X11_starts_l4 (N : Nat) (wide : Int32) (tall : Int32) (groups : Int32) (rowMany : Int32) (top : Nat → Int32) (rolled : Nat → Int32) (kind : Nat → Int32) (mark : Nat → Int32) (rowWay : Nat → Int32) (rowSeen : Nat → Int32) : Nat → (Int32 × Int32) → Option (Int32) := nx_lp (fun rec z => f_X11_starts_b4 N wide tall groups rowMany top rolled kind mark rowWay rowSeen rec z.1 z.2)
def f_X11_starts (N : Nat)  (wide : Int32) (tall : Int32) (groups : Int32) (rowMany : Int32) (top : Nat → Int32) (rolled : Nat → Int32) (kind : Nat → Int32) (mark : Nat → Int32) (rowWay : Nat → Int32) (rowSeen : Nat → Int32) : Option (Int32) :=
  (f_X11_starts_l4 N wide tall groups rowMany top rolled kind mark rowWay rowSeen N (0, 0)).bind fun z_5 => some z_5
set_option maxHeartbeats 4000000 in
set_option maxRecDepth 100000 in
theorem c_X11_starts (l : Launch) (N : Nat) (E : nx_E) (sz : Nat) (a : Nat → Nat) (wide : Int32) (tall : Int32) (groups : Int32) (tours : Int32) (tourLength : Int32) (rowMany : Int32) (cameBy : Int32) (top : Nat → Int32) (east : Nat → Int32) (south : Nat → Int32) (rolled : Nat → Int32) (off : Nat → Int32) (kind : Nat → Int32) (mark : Nat → Int32) (rolls : Nat → Int32) (many : Nat → Int64) (onward : Nat → Int32) (at_ : Nat → Int32) (goes : Nat → Int32) (firstTour : Nat → Int32) (rowWay : Nat → Int32) (rowSeen : Nat → Int32) (prints : Nat → Int32) (homeward : Nat → Int32)  (o : Int32) (h : f_X11_starts N wide tall groups rowMany top rolled kind mark rowWay rowSeen = some o) : Met l yX11_starts (.code yX11_starts cX11_starts 3 (some .int) :: nx_T) (nx_rm 4 96) (va_Pc [.ref (a 0)] (nx_P E (nx_F) sz (mW E a wide tall groups tours tourLength rowMany cameBy top east south rolled off kind mark rolls many onward at_ goes firstTour rowWay rowSeen prints homeward))) (va_Qi (fun v (_ : Unit) => v = o) (fun _ t => va_P E.1 vwCl (mW E a wide tall groups tours tourLength rowMany cameBy top east south rolled off kind mark rolls many onward at_ goes firstTour rowWay rowSeen prints homeward) t.heap) (nx_F)) 0 0 (nx_F) := by
  refine nx_enI (fun v (_ : Unit) => v = o) (fun (_ : Unit) => (mW E a wide tall groups tours tourLength rowMany cameBy top east south rolled off kind mark rolls many onward at_ goes firstTour rowWay rowSeen prints homeward)) (by decide) (Nat.le_of_ble_eq_true rfl) ?_
  intro p e s m below meth c Q X kr hsz hP ls hl
  subst hsz
  generalize hargs : (List.toArray [.ref (a 0)] : Array Value) = args at X kr ⊢
  clear hargs
  obtain ⟨⟨hx, hb, hml, hown, hts⟩, hK, hSt, hNz⟩ := id X
  have hS : va_S (nx_F) s.heap s.heap [] := va_S.rf
  have hl : lv_has ls 3 [(0, .ref (a 0))] := hl
  have L4 : ∀ (n : Nat) (x1 : Int32) (x2 : Int32) (z : (Int32)), f_X11_starts_l4 N wide tall groups rowMany top rolled kind mark rowWay rowSeen n (x1, x2) = some z → ∀ (H : Heap) (locs : List Loc) (ls : Array Slot), va_P E.1 vwCl (mW E a wide tall groups tours tourLength rowMany cameBy top east south rolled off kind mark rolls many onward at_ goes firstTour rowWay rowSeen prints homeward) H → va_S (nx_F) s.heap H locs → lv_has ls 3 [(0, .ref (a 0)), (1, .int x1), (2, .int x2)] → ∀ (kR : ∀ (H : Heap) (locs : List Loc) (ls : Array Slot), va_P E.1 vwCl (mW E a wide tall groups tours tourLength rowMany cameBy top east south rolled off kind mark rolls many onward at_ goes firstTour rowWay rowSeen prints homeward) H → va_S (nx_F) s.heap H locs → lv_has ls 3 [(0, .ref (a 0)), (1, .int z)] → W p l e (nx_rm 4 96) s m args below meth c H locs 0 0 Q (F0 m 39 ls [])), W p l e (nx_rm 4 96) s m args below meth c H locs 0 0 Q (F0 m 4 ls []) := by
   intro  n
   induction n with
   | zero => intro x1 x2 z h; exact nomatch (show none = some z from h)
   | succ n ih =>
    intro x1 x2 z h H locs ls hP hS hl kR
    have h : f_X11_starts_b4 N wide tall groups rowMany top rolled kind mark rowWay rowSeen (f_X11_starts_l4 N wide tall groups rowMany top rolled kind mark rowWay rowSeen n) x1 x2 = some z := h
    have J31 : ∀ (x2 : Int32) (s0 : Int32) (s1 : Int32), f_X11_starts_j31 (f_X11_starts_l4 N wide tall groups rowMany top rolled kind mark rowWay rowSeen n) x2 s0 s1 = some z → ∀ (H : Heap) (locs : List Loc) (ls : Array Slot), va_P E.1 vwCl (mW E a wide tall groups tours tourLength rowMany cameBy top east south rolled off kind mark rolls many onward at_ goes firstTour rowWay rowSeen prints homeward) H → va_S (nx_F) s.heap H locs → lv_has ls 3 [(0, .ref (a 0)), (2, .int x2)] → W p l e (nx_rm 4 96) s m args below meth c H locs 0 0 Q (F0 m 31 ls [.int s0, .int s1]) := by
      intro x2 s0 s1 h H locs ls hP hS hl
      unfold f_X11_starts_j31 at h
      refine lv_iadd hx hb dX11_starts_31 ?_
      refine lv_istore_n (lv' := [(1, .int (s1 + s0)), (0, .ref (a 0)), (2, .int x2)]) hx hb dX11_starts_32 rfl hl (by decide) rfl (fun ls hl => ?_)
      refine lv_iinc (v := (x2 + 1)) (lv' := [(2, .int (x2 + 1)), (1, .int (s1 + s0)), (0, .ref (a 0))]) hx hb dX11_starts_33 hl (k := 2) rfl rfl (by decide) rfl (fun ls hl => ?_)
      refine lv_goto (tgt := 4) hx hb dX11_starts_36 (by decide) ?_
      exact ih _ _ z h H locs ls hP hS (lv_sub hl [2, 1, 0] rfl) kR
    unfold f_X11_starts_b4 at h
    refine lv_iload_n hx hb dX11_starts_4 rfl (lv_at hl 2 rfl) ?_
    refine lv_bipush (v := 24) hx hb dX11_starts_5 (by decide) ?_
    refine lv_aload_n hx hb dX11_starts_7 rfl (lv_at hl 0 rfl) ?_
    obtain ⟨r_2, hc_1, h⟩ := nx_bd h
    refine nx_ki (nx_runV (As := []) (rest := [.int 24, .int x2]) X hS hP (c_X11_cells l E H.size a wide tall groups tours tourLength rowMany cameBy top east south rolled off kind mark rolls many onward at_ goes firstTour rowWay rowSeen prints homeward _ hc_1) nx_FA qV_RX11_100 ⟨rfl, rfl⟩ ⟨Nat.le_of_ble_eq_true rfl, Nat.le_of_ble_eq_true rfl⟩ ⟨Nat.zero_le _, Nat.zero_le _⟩ 0 rfl rfl rfl rfl hl.1 (Nat.le_of_ble_eq_true rfl) dX11_starts_8) hS nx_FA (fun H locs hP hS => ?_)
    refine lv_imul hx hb dX11_starts_11 ?_
    refine lv_icmp_ge (tgt := 39) hx hb dX11_starts_12 (by decide) (fun hc => ?_) (fun hc => ?_)
    · have h := nx_it h hc
      obtain rfl := Option.some.inj h
      exact kR H locs ls hP hS (lv_sub hl [0, 1] rfl)
    · have h := nx_if h hc
      refine lv_iload_n hx hb dX11_starts_15 rfl (lv_at hl 1 rfl) ?_
      refine lv_aload_n hx hb dX11_starts_16 rfl (lv_at hl 0 rfl) ?_
      refine lv_iload_n hx hb dX11_starts_17 rfl (lv_at hl 2 rfl) ?_
      obtain ⟨r_4, hc_3, h⟩ := nx_bd h
      refine nx_ki (nx_runV (As := [.int x2]) (rest := [.int x1]) X hS hP (c_X11_behind l N E H.size a wide tall groups tours tourLength rowMany cameBy top east south rolled off kind mark rolls many onward at_ goes firstTour rowWay rowSeen prints homeward x2 _ hc_3) nx_FA qV_RX11_178 ⟨rfl, rfl⟩ ⟨Nat.le_of_ble_eq_true rfl, Nat.le_of_ble_eq_true rfl⟩ ⟨Nat.zero_le _, Nat.zero_le _⟩ 0 rfl rfl rfl rfl hl.1 (Nat.le_of_ble_eq_true rfl) dX11_starts_18) hS nx_FA (fun H locs hP hS => ?_)
      refine lv_bipush (v := (-9)) hx hb dX11_starts_21 (by decide) ?_
      refine lv_icmp_ne (tgt := 30) hx hb dX11_starts_23 (by decide) (fun hc => ?_) (fun hc => ?_)
      · have h := nx_if h hc
        refine lv_iconst (v := 1) hx hb dX11_starts_30 (by decide) ?_
        exact J31 _ _ _ h H locs ls hP hS (lv_sub hl [0, 2] rfl)
      · have h := nx_it h hc
        refine lv_iconst (v := 0) hx hb dX11_starts_26 (by decide) ?_
        refine lv_goto (tgt := 31) hx hb dX11_starts_27 (by decide) ?_
        exact J31 _ _ _ h H locs ls hP hS (lv_sub hl [0, 2] rfl)
  unfold f_X11_starts at h
  suffices hw : ∀ (H : Heap) (locs : List Loc), va_P E.1 vwCl (mW E a wide tall groups tours tourLength rowMany cameBy top east south rolled off kind mark rolls many onward at_ goes firstTour rowWay rowSeen prints homeward) H → va_S (nx_F) s.heap H locs → W p l e (nx_rm 4 96) s m args below meth c H locs 0 0 Q (F0 m 0 ls []) from hw _ _ hP va_S.rf
  intro H locs hP hS
  refine lv_iconst (v := 0) hx hb dX11_starts_0 (by decide) ?_
  refine lv_istore_n (lv' := [(1, .int 0), (0, .ref (a 0))]) hx hb dX11_starts_1 rfl hl (by decide) rfl (fun ls hl => ?_)
  refine lv_iconst (v := 0) hx hb dX11_starts_2 (by decide) ?_
  refine lv_istore_n (lv' := [(2, .int 0), (1, .int 0), (0, .ref (a 0))]) hx hb dX11_starts_3 rfl hl (by decide) rfl (fun ls hl => ?_)
  obtain ⟨z_5, hz_6, h⟩ := nx_bd h
  refine L4  N _ _ _ hz_6 H locs ls hP hS (lv_sub hl [2, 1, 0] rfl) (fun H locs ls hP hS hl => ?_)
  refine lv_iload_n hx hb dX11_starts_39 rfl (lv_at hl 1 rfl) ?_
  exact kr 40 ls z_5 () H locs dX11_starts_40 (Option.some.inj h) hP hS
def f_X11_start_b4 (N : Nat) (x1 : Int32) (wide : Int32) (tall : Int32) (groups : Int32) (rowMany : Int32) (top : Nat → Int32) (rolled : Nat → Int32) (kind : Nat → Int32) (mark : Nat → Int32) (rowWay : Nat → Int32) (rowSeen : Nat → Int32) (rec : (Int32 × Int32) → Option ((Int32) ⊕ (Unit))) (x2 : Int32) (x3 : Int32) : Option ((Int32) ⊕ (Unit)) :=
  (f_X11_cells wide tall).bind fun r_2 => if (24 * r_2) ≤ x3 then (some (.inr ())) else ((f_X11_behind N x3 wide tall groups rowMany top rolled kind mark rowWay rowSeen).bind fun r_4 => if r_4 = (-9) then (rec (x2, (x3 + 1))) else (if x2 = x1 then (some (.inl x3)) else (rec ((x2 + 1), (x3 + 1)))))
def f_X11_start_l4 (N : Nat) (x1 : Int32) (wide : Int32) (tall : Int32) (groups : Int32) (rowMany : Int32) (top : Nat → Int32) (rolled : Nat → Int32) (kind : Nat → Int32) (mark : Nat → Int32) (rowWay : Nat → Int32) (rowSeen : Nat → Int32) : Nat → (Int32 × Int32) → Option ((Int32) ⊕ (Unit)) := nx_lp (fun rec z => f_X11_start_b4 N x1 wide tall groups rowMany top rolled kind mark rowWay rowSeen rec z.1 z.2)
def f_X11_start (N : Nat) (x1 : Int32) (wide : Int32) (tall : Int32) (groups : Int32) (rowMany : Int32) (top : Nat → Int32) (rolled : Nat → Int32) (kind : Nat → Int32) (mark : Nat → Int32) (rowWay : Nat → Int32) (rowSeen : Nat → Int32) : Option (Int32) :=
  (f_X11_start_l4 N x1 wide tall groups rowMany top rolled kind mark rowWay rowSeen N (0, 0)).bind fun z_5 => Sum.elim (fun rr => some rr) (fun y_7 => some (-9)) z_5
set_option maxHeartbeats 4000000 in
set_option maxRecDepth 100000 in
theorem c_X11_start (l : Launch) (N : Nat) (E : nx_E) (sz : Nat) (a : Nat → Nat) (wide : Int32) (tall : Int32) (groups : Int32) (tours : Int32) (tourLength : Int32) (rowMany : Int32) (cameBy : Int32) (top : Nat → Int32) (east : Nat → Int32) (south : Nat → Int32) (rolled : Nat → Int32) (off : Nat → Int32) (kind : Nat → Int32) (mark : Nat → Int32) (rolls : Nat → Int32) (many : Nat → Int64) (onward : Nat → Int32) (at_ : Nat → Int32) (goes : Nat → Int32) (firstTour : Nat → Int32) (rowWay : Nat → Int32) (rowSeen : Nat → Int32) (prints : Nat → Int32) (homeward : Nat → Int32) (x1 : Int32) (o : Int32) (h : f_X11_start N x1 wide tall groups rowMany top rolled kind mark rowWay rowSeen = some o) : Met l yX11_start (.code yX11_start cX11_start 4 (some .int) :: nx_T) (nx_rm 4 96) (va_Pc [.ref (a 0), .int x1] (nx_P E (nx_F) sz (mW E a wide tall groups tours tourLength rowMany cameBy top east south rolled off kind mark rolls many onward at_ goes firstTour rowWay rowSeen prints homeward))) (va_Qi (fun v (_ : Unit) => v = o) (fun _ t => va_P E.1 vwCl (mW E a wide tall groups tours tourLength rowMany cameBy top east south rolled off kind mark rolls many onward at_ goes firstTour rowWay rowSeen prints homeward) t.heap) (nx_F)) 0 0 (nx_F) := by
  refine nx_enI (fun v (_ : Unit) => v = o) (fun (_ : Unit) => (mW E a wide tall groups tours tourLength rowMany cameBy top east south rolled off kind mark rolls many onward at_ goes firstTour rowWay rowSeen prints homeward)) (by decide) (Nat.le_of_ble_eq_true rfl) ?_
  intro p e s m below meth c Q X kr hsz hP ls hl
  subst hsz
  generalize hargs : (List.toArray [.ref (a 0), .int x1] : Array Value) = args at X kr ⊢
  clear hargs
  obtain ⟨⟨hx, hb, hml, hown, hts⟩, hK, hSt, hNz⟩ := id X
  have hS : va_S (nx_F) s.heap s.heap [] := va_S.rf
  have hl : lv_has ls 4 [(0, .ref (a 0)), (1, .int x1)] := hl
  have L4 : ∀ (x1 : Int32) (n : Nat) (x2 : Int32) (x3 : Int32) (z : ((Int32) ⊕ (Unit))), f_X11_start_l4 N x1 wide tall groups rowMany top rolled kind mark rowWay rowSeen n (x2, x3) = some z → ∀ (H : Heap) (locs : List Loc) (ls : Array Slot), va_P E.1 vwCl (mW E a wide tall groups tours tourLength rowMany cameBy top east south rolled off kind mark rolls many onward at_ goes firstTour rowWay rowSeen prints homeward) H → va_S (nx_F) s.heap H locs → lv_has ls 4 [(0, .ref (a 0)), (1, .int x1), (2, .int x2), (3, .int x3)] → ∀ (kL : ∀ r, z = .inl r → ∀ (pc : Nat) (ls : Array Slot) (v : Int32) (u : Unit) (H : Heap) (locs : List Loc), decode cX11_start pc = .ok (.ireturn, 1) → v = r → va_P E.1 vwCl (mW E a wide tall groups tours tourLength rowMany cameBy top east south rolled off kind mark rolls many onward at_ goes firstTour rowWay rowSeen prints homeward) H → va_S (nx_F) s.heap H locs → W p l e (nx_rm 4 96) s m args below meth c H locs 0 0 Q (F0 m pc ls [.int v])) (kR : ∀ y, z = .inr y → ∀ (H : Heap) (locs : List Loc) (ls : Array Slot), va_P E.1 vwCl (mW E a wide tall groups tours tourLength rowMany cameBy top east south rolled off kind mark rolls many onward at_ goes firstTour rowWay rowSeen prints homeward) H → va_S (nx_F) s.heap H locs → lv_has ls 4 [(0, .ref (a 0))] → W p l e (nx_rm 4 96) s m args below meth c H locs 0 0 Q (F0 m 41 ls [])), W p l e (nx_rm 4 96) s m args below meth c H locs 0 0 Q (F0 m 4 ls []) := by
   intro x1 n
   induction n with
   | zero => intro x2 x3 z h; exact nomatch (show none = some z from h)
   | succ n ih =>
    intro x2 x3 z h H locs ls hP hS hl kL kR
    have h : f_X11_start_b4 N x1 wide tall groups rowMany top rolled kind mark rowWay rowSeen (f_X11_start_l4 N x1 wide tall groups rowMany top rolled kind mark rowWay rowSeen n) x2 x3 = some z := h
    unfold f_X11_start_b4 at h
    refine lv_iload_n hx hb dX11_start_4 rfl (lv_at hl 3 rfl) ?_
    refine lv_bipush (v := 24) hx hb dX11_start_5 (by decide) ?_
    refine lv_aload_n hx hb dX11_start_7 rfl (lv_at hl 0 rfl) ?_
    obtain ⟨r_2, hc_1, h⟩ := nx_bd h
    refine nx_ki (nx_runV (As := []) (rest := [.int 24, .int x3]) X hS hP (c_X11_cells l E H.size a wide tall groups tours tourLength rowMany cameBy top east south rolled off kind mark rolls many onward at_ goes firstTour rowWay rowSeen prints homeward _ hc_1) nx_FA qV_RX11_100 ⟨rfl, rfl⟩ ⟨Nat.le_of_ble_eq_true rfl, Nat.le_of_ble_eq_true rfl⟩ ⟨Nat.zero_le _, Nat.zero_le _⟩ 0 rfl rfl rfl rfl hl.1 (Nat.le_of_ble_eq_true rfl) dX11_start_8) hS nx_FA (fun H locs hP hS => ?_)
    refine lv_imul hx hb dX11_start_11 ?_
    refine lv_icmp_ge (tgt := 41) hx hb dX11_start_12 (by decide) (fun hc => ?_) (fun hc => ?_)
    · have h := nx_it h hc
      exact kR _ (Option.some.inj h).symm H locs ls hP hS (lv_sub hl [0] rfl)
    · have h := nx_if h hc
      refine lv_aload_n hx hb dX11_start_15 rfl (lv_at hl 0 rfl) ?_
      refine lv_iload_n hx hb dX11_start_16 rfl (lv_at hl 3 rfl) ?_
      obtain ⟨r_4, hc_3, h⟩ := nx_bd h
      refine nx_ki (nx_runV (As := [.int x3]) (rest := []) X hS hP (c_X11_behind l N E H.size a wide tall groups tours tourLength rowMany cameBy top east south rolled off kind mark rolls many onward at_ goes firstTour rowWay rowSeen prints homeward x3 _ hc_3) nx_FA qV_RX11_178 ⟨rfl, rfl⟩ ⟨Nat.le_of_ble_eq_true rfl, Nat.le_of_ble_eq_true rfl⟩ ⟨Nat.zero_le _, Nat.zero_le _⟩ 0 rfl rfl rfl rfl hl.1 (Nat.le_of_ble_eq_true rfl) dX11_start_17) hS nx_FA (fun H locs hP hS => ?_)
      refine lv_bipush (v := (-9)) hx hb dX11_start_20 (by decide) ?_
      refine lv_icmp_eq (tgt := 35) hx hb dX11_start_22 (by decide) (fun hc => ?_) (fun hc => ?_)
      · have h := nx_it h hc
        refine lv_iinc (v := (x3 + 1)) (lv' := [(3, .int (x3 + 1)), (0, .ref (a 0)), (1, .int x1), (2, .int x2)]) hx hb dX11_start_35 hl (k := 3) rfl rfl (by decide) rfl (fun ls hl => ?_)
        refine lv_goto (tgt := 4) hx hb dX11_start_38 (by decide) ?_
        exact ih _ _ z h H locs ls hP hS (lv_sub hl [1, 2, 3, 0] rfl) kL kR
      · have h := nx_if h hc
        refine lv_iload_n hx hb dX11_start_25 rfl (lv_at hl 2 rfl) ?_
        refine lv_iload_n hx hb dX11_start_26 rfl (lv_at hl 1 rfl) ?_
        refine lv_icmp_ne (tgt := 32) hx hb dX11_start_27 (by decide) (fun hc => ?_) (fun hc => ?_)
        · have h := nx_if h hc
          refine lv_iinc (v := (x2 + 1)) (lv' := [(2, .int (x2 + 1)), (0, .ref (a 0)), (1, .int x1), (3, .int x3)]) hx hb dX11_start_32 hl (k := 2) rfl rfl (by decide) rfl (fun ls hl => ?_)
          refine lv_iinc (v := (x3 + 1)) (lv' := [(3, .int (x3 + 1)), (2, .int (x2 + 1)), (0, .ref (a 0)), (1, .int x1)]) hx hb dX11_start_35 hl (k := 3) rfl rfl (by decide) rfl (fun ls hl => ?_)
          refine lv_goto (tgt := 4) hx hb dX11_start_38 (by decide) ?_
          exact ih _ _ z h H locs ls hP hS (lv_sub hl [2, 3, 1, 0] rfl) kL kR
        · have h := nx_it h hc
          refine lv_iload_n hx hb dX11_start_30 rfl (lv_at hl 3 rfl) ?_
          exact kL _ (Option.some.inj h).symm 31 ls x3 () H locs dX11_start_31 rfl hP hS
  unfold f_X11_start at h
  suffices hw : ∀ (H : Heap) (locs : List Loc), va_P E.1 vwCl (mW E a wide tall groups tours tourLength rowMany cameBy top east south rolled off kind mark rolls many onward at_ goes firstTour rowWay rowSeen prints homeward) H → va_S (nx_F) s.heap H locs → W p l e (nx_rm 4 96) s m args below meth c H locs 0 0 Q (F0 m 0 ls []) from hw _ _ hP va_S.rf
  intro H locs hP hS
  refine lv_iconst (v := 0) hx hb dX11_start_0 (by decide) ?_
  refine lv_istore_n (lv' := [(2, .int 0), (0, .ref (a 0)), (1, .int x1)]) hx hb dX11_start_1 rfl hl (by decide) rfl (fun ls hl => ?_)
  refine lv_iconst (v := 0) hx hb dX11_start_2 (by decide) ?_
  refine lv_istore_n (lv' := [(3, .int 0), (2, .int 0), (0, .ref (a 0)), (1, .int x1)]) hx hb dX11_start_3 rfl hl (by decide) rfl (fun ls hl => ?_)
  obtain ⟨z_5, hz_6, h⟩ := nx_bd h
  refine L4 _ N _ _ _ hz_6 H locs ls hP hS (lv_sub hl [2, 3, 1, 0] rfl) ?_ ?_
  · intro rr hr
    subst hr
    have h := Option.some.inj h; subst h
    exact kr
  intro y_7 hr H locs ls hP hS hl
  subst hr
  refine lv_bipush (v := (-9)) hx hb dX11_start_41 (by decide) ?_
  exact kr 43 ls (-9) () H locs dX11_start_43 (Option.some.inj h) hP hS
def f_X11_sure_j85 (rec : (Int32 × Int32 × Int32) → Option (Int32 × Int32)) (x1 : Int32) (x2 : Int32) (x3 : Int32) (x4 : Int32) (s0 : Int32) : Option (Int32 × Int32) :=
  if x3 = 0 then (rec (s0, 0, (x4 + 1))) else (if x2 = (-9) then (rec (s0, 1, (x4 + 1))) else (if x2 = s0 then (rec (s0, 1, (x4 + 1))) else (rec (s0, 0, (x4 + 1)))))
def f_X11_sure_b23 (N : Nat) (x1 : Int32) (wide : Int32) (tall : Int32) (groups : Int32) (rowMany : Int32) (top : Nat → Int32) (rolled : Nat → Int32) (kind : Nat → Int32) (mark : Nat → Int32) (rowWay : Nat → Int32) (rowSeen : Nat → Int32) (rec : (Int32 × Int32 × Int32) → Option (Int32 × Int32)) (x2 : Int32) (x3 : Int32) (x4 : Int32) : Option (Int32 × Int32) :=
  (f_X11_cells wide tall).bind fun r_2 => if (24 * r_2) ≤ x4 then (some (x2, x3)) else ((f_X11_behind N x4 wide tall groups rowMany top rolled kind mark rowWay rowSeen).bind fun r_4 => if r_4 = (-9) then (rec (x2, x3, (x4 + 1))) else (if x1 = 0 then (f_X11_sure_j85 rec x1 x2 x3 x4 (r_4 / 24)) else (if x1 = 1 then ((nx_rd top 24 (r_4 - r_4 / 24 * 24)).bind fun _ => f_X11_sure_j85 rec x1 x2 x3 x4 (top (r_4 - r_4 / 24 * 24).toNatClampNeg)) else (f_X11_sure_j85 rec x1 x2 x3 x4 (x4 / 24)))))
def f_X11_sure_l23 (N : Nat) (x1 : Int32) (wide : Int32) (tall : Int32) (groups : Int32) (rowMany : Int32) (top : Nat → Int32) (rolled : Nat → Int32) (kind : Nat → Int32) (mark : Nat → Int32) (rowWay : Nat → Int32) (rowSeen : Nat → Int32) : Nat → (Int32 × Int32 × Int32) → Option (Int32 × Int32) := nx_lp (fun rec z => f_X11_sure_b23 N x1 wide tall groups rowMany top rolled kind mark rowWay rowSeen rec z.1 z.2.1 z.2.2)
def f_X11_sure (N : Nat) (x1 : Int32) (wide : Int32) (tall : Int32) (groups : Int32) (rowMany : Int32) (top : Nat → Int32) (rolled : Nat → Int32) (kind : Nat → Int32) (mark : Nat → Int32) (rowWay : Nat → Int32) (rowSeen : Nat → Int32) : Option (Int32) :=
  (f_X11_in ((x1 : Int32).toInt64) 0 2).bind fun r_8 => if r_8 = 0 then (some (-2)) else ((f_X11_sure_l23 N x1 wide tall groups rowMany top rolled kind mark rowWay rowSeen N ((-9), 1, 0)).bind fun z_9 => if z_9.2 = 0 then (some (-9)) else (some z_9.1))
set_option maxHeartbeats 4000000 in
set_option maxRecDepth 100000 in
theorem c_X11_sure (l : Launch) (N : Nat) (E : nx_E) (sz : Nat) (a : Nat → Nat) (wide : Int32) (tall : Int32) (groups : Int32) (tours : Int32) (tourLength : Int32) (rowMany : Int32) (cameBy : Int32) (top : Nat → Int32) (east : Nat → Int32) (south : Nat → Int32) (rolled : Nat → Int32) (off : Nat → Int32) (kind : Nat → Int32) (mark : Nat → Int32) (rolls : Nat → Int32) (many : Nat → Int64) (onward : Nat → Int32) (at_ : Nat → Int32) (goes : Nat → Int32) (firstTour : Nat → Int32) (rowWay : Nat → Int32) (rowSeen : Nat → Int32) (prints : Nat → Int32) (homeward : Nat → Int32) (x1 : Int32) (o : Int32) (h : f_X11_sure N x1 wide tall groups rowMany top rolled kind mark rowWay rowSeen = some o) : Met l yX11_sure (.code yX11_sure cX11_sure 7 (some .int) :: nx_T) (nx_rm 4 96) (va_Pc [.ref (a 0), .int x1] (nx_P E (nx_F) sz (mW E a wide tall groups tours tourLength rowMany cameBy top east south rolled off kind mark rolls many onward at_ goes firstTour rowWay rowSeen prints homeward))) (va_Qi (fun v (_ : Unit) => v = o) (fun _ t => va_P E.1 vwCl (mW E a wide tall groups tours tourLength rowMany cameBy top east south rolled off kind mark rolls many onward at_ goes firstTour rowWay rowSeen prints homeward) t.heap) (nx_F)) 0 0 (nx_F) := by
  refine nx_enI (fun v (_ : Unit) => v = o) (fun (_ : Unit) => (mW E a wide tall groups tours tourLength rowMany cameBy top east south rolled off kind mark rolls many onward at_ goes firstTour rowWay rowSeen prints homeward)) (by decide) (Nat.le_of_ble_eq_true rfl) ?_
  intro p e s m below meth c Q X kr hsz hP ls hl
  subst hsz
  generalize hargs : (List.toArray [.ref (a 0), .int x1] : Array Value) = args at X kr ⊢
  clear hargs
  obtain ⟨⟨hx, hb, hml, hown, hts⟩, hK, hSt, hNz⟩ := id X
  have hS : va_S (nx_F) s.heap s.heap [] := va_S.rf
  have hl : lv_has ls 7 [(0, .ref (a 0)), (1, .int x1)] := hl
  have L23 : ∀ (x1 : Int32) (n : Nat) (x2 : Int32) (x3 : Int32) (x4 : Int32) (z : (Int32 × Int32)), f_X11_sure_l23 N x1 wide tall groups rowMany top rolled kind mark rowWay rowSeen n (x2, x3, x4) = some z → ∀ (H : Heap) (locs : List Loc) (ls : Array Slot), va_P E.1 vwCl (mW E a wide tall groups tours tourLength rowMany cameBy top east south rolled off kind mark rolls many onward at_ goes firstTour rowWay rowSeen prints homeward) H → va_S (nx_F) s.heap H locs → lv_has ls 7 [(0, .ref (a 0)), (1, .int x1), (2, .int x2), (3, .int x3), (4, .int x4)] → ∀ (kR : ∀ (H : Heap) (locs : List Loc) (ls : Array Slot), va_P E.1 vwCl (mW E a wide tall groups tours tourLength rowMany cameBy top east south rolled off kind mark rolls many onward at_ goes firstTour rowWay rowSeen prints homeward) H → va_S (nx_F) s.heap H locs → lv_has ls 7 [(0, .ref (a 0)), (2, .int z.1), (3, .int z.2)] → W p l e (nx_rm 4 96) s m args below meth c H locs 0 0 Q (F0 m 118 ls [])), W p l e (nx_rm 4 96) s m args below meth c H locs 0 0 Q (F0 m 23 ls []) := by
   intro x1 n
   induction n with
   | zero => intro x2 x3 x4 z h; exact nomatch (show none = some z from h)
   | succ n ih =>
    intro x2 x3 x4 z h H locs ls hP hS hl kR
    have h : f_X11_sure_b23 N x1 wide tall groups rowMany top rolled kind mark rowWay rowSeen (f_X11_sure_l23 N x1 wide tall groups rowMany top rolled kind mark rowWay rowSeen n) x2 x3 x4 = some z := h
    have J85 : ∀ (x2 : Int32) (x3 : Int32) (x4 : Int32) (s0 : Int32), f_X11_sure_j85 (f_X11_sure_l23 N x1 wide tall groups rowMany top rolled kind mark rowWay rowSeen n) x1 x2 x3 x4 s0 = some z → ∀ (H : Heap) (locs : List Loc) (ls : Array Slot), va_P E.1 vwCl (mW E a wide tall groups tours tourLength rowMany cameBy top east south rolled off kind mark rolls many onward at_ goes firstTour rowWay rowSeen prints homeward) H → va_S (nx_F) s.heap H locs → lv_has ls 7 [(0, .ref (a 0)), (1, .int x1), (2, .int x2), (3, .int x3), (4, .int x4)] → W p l e (nx_rm 4 96) s m args below meth c H locs 0 0 Q (F0 m 85 ls [.int s0]) := by
      intro x2 x3 x4 s0 h H locs ls hP hS hl
      unfold f_X11_sure_j85 at h
      refine lv_istore (lv' := [(6, .int s0), (0, .ref (a 0)), (1, .int x1), (2, .int x2), (3, .int x3), (4, .int x4)]) hx hb dX11_sure_85 hl (by decide) rfl (fun ls hl => ?_)
      refine lv_iload_n hx hb dX11_sure_87 rfl (lv_at hl 4 rfl) ?_
      refine lv_if_eq (tgt := 107) hx hb dX11_sure_88 (by decide) (fun hc => ?_) (fun hc => ?_)
      · have h := nx_it h hc
        refine lv_iconst (v := 0) hx hb dX11_sure_107 (by decide) ?_
        refine lv_istore_n (lv' := [(3, .int 0), (6, .int s0), (0, .ref (a 0)), (1, .int x1), (2, .int x2), (4, .int x4)]) hx hb dX11_sure_108 rfl hl (by decide) rfl (fun ls hl => ?_)
        refine lv_iload hx hb dX11_sure_109 (lv_at hl 1 rfl) ?_
        refine lv_istore_n (lv' := [(2, .int s0), (3, .int 0), (6, .int s0), (0, .ref (a 0)), (1, .int x1), (4, .int x4)]) hx hb dX11_sure_111 rfl hl (by decide) rfl (fun ls hl => ?_)
        refine lv_iinc (v := (x4 + 1)) (lv' := [(4, .int (x4 + 1)), (2, .int s0), (3, .int 0), (6, .int s0), (0, .ref (a 0)), (1, .int x1)]) hx hb dX11_sure_112 hl (k := 5) rfl rfl (by decide) rfl (fun ls hl => ?_)
        refine lv_goto (tgt := 23) hx hb dX11_sure_115 (by decide) ?_
        exact ih _ _ _ z h H locs ls hP hS (lv_sub hl [4, 5, 1, 2, 0] rfl) kR
      · have h := nx_if h hc
        refine lv_iload_n hx hb dX11_sure_91 rfl (lv_at hl 3 rfl) ?_
        refine lv_bipush (v := (-9)) hx hb dX11_sure_92 (by decide) ?_
        refine lv_icmp_eq (tgt := 103) hx hb dX11_sure_94 (by decide) (fun hc => ?_) (fun hc => ?_)
        · have h := nx_it h hc
          refine lv_iconst (v := 1) hx hb dX11_sure_103 (by decide) ?_
          refine lv_goto (tgt := 108) hx hb dX11_sure_104 (by decide) ?_
          refine lv_istore_n (lv' := [(3, .int 1), (6, .int s0), (0, .ref (a 0)), (1, .int x1), (2, .int x2), (4, .int x4)]) hx hb dX11_sure_108 rfl hl (by decide) rfl (fun ls hl => ?_)
          refine lv_iload hx hb dX11_sure_109 (lv_at hl 1 rfl) ?_
          refine lv_istore_n (lv' := [(2, .int s0), (3, .int 1), (6, .int s0), (0, .ref (a 0)), (1, .int x1), (4, .int x4)]) hx hb dX11_sure_111 rfl hl (by decide) rfl (fun ls hl => ?_)
          refine lv_iinc (v := (x4 + 1)) (lv' := [(4, .int (x4 + 1)), (2, .int s0), (3, .int 1), (6, .int s0), (0, .ref (a 0)), (1, .int x1)]) hx hb dX11_sure_112 hl (k := 5) rfl rfl (by decide) rfl (fun ls hl => ?_)
          refine lv_goto (tgt := 23) hx hb dX11_sure_115 (by decide) ?_
          exact ih _ _ _ z h H locs ls hP hS (lv_sub hl [4, 5, 1, 2, 0] rfl) kR
        · have h := nx_if h hc
          refine lv_iload_n hx hb dX11_sure_97 rfl (lv_at hl 3 rfl) ?_
          refine lv_iload hx hb dX11_sure_98 (lv_at hl 0 rfl) ?_
          refine lv_icmp_ne (tgt := 107) hx hb dX11_sure_100 (by decide) (fun hc => ?_) (fun hc => ?_)
          · have h := nx_if h hc
            refine lv_iconst (v := 0) hx hb dX11_sure_107 (by decide) ?_
            refine lv_istore_n (lv' := [(3, .int 0), (6, .int s0), (0, .ref (a 0)), (1, .int x1), (2, .int x2), (4, .int x4)]) hx hb dX11_sure_108 rfl hl (by decide) rfl (fun ls hl => ?_)
            refine lv_iload hx hb dX11_sure_109 (lv_at hl 1 rfl) ?_
            refine lv_istore_n (lv' := [(2, .int s0), (3, .int 0), (6, .int s0), (0, .ref (a 0)), (1, .int x1), (4, .int x4)]) hx hb dX11_sure_111 rfl hl (by decide) rfl (fun ls hl => ?_)
            refine lv_iinc (v := (x4 + 1)) (lv' := [(4, .int (x4 + 1)), (2, .int s0), (3, .int 0), (6, .int s0), (0, .ref (a 0)), (1, .int x1)]) hx hb dX11_sure_112 hl (k := 5) rfl rfl (by decide) rfl (fun ls hl => ?_)
            refine lv_goto (tgt := 23) hx hb dX11_sure_115 (by decide) ?_
            exact ih _ _ _ z h H locs ls hP hS (lv_sub hl [4, 5, 1, 2, 0] rfl) kR
          · have h := nx_it h hc
            refine lv_iconst (v := 1) hx hb dX11_sure_103 (by decide) ?_
            refine lv_goto (tgt := 108) hx hb dX11_sure_104 (by decide) ?_
            refine lv_istore_n (lv' := [(3, .int 1), (6, .int s0), (0, .ref (a 0)), (1, .int x1), (2, .int x2), (4, .int x4)]) hx hb dX11_sure_108 rfl hl (by decide) rfl (fun ls hl => ?_)
            refine lv_iload hx hb dX11_sure_109 (lv_at hl 1 rfl) ?_
            refine lv_istore_n (lv' := [(2, .int s0), (3, .int 1), (6, .int s0), (0, .ref (a 0)), (1, .int x1), (4, .int x4)]) hx hb dX11_sure_111 rfl hl (by decide) rfl (fun ls hl => ?_)
            refine lv_iinc (v := (x4 + 1)) (lv' := [(4, .int (x4 + 1)), (2, .int s0), (3, .int 1), (6, .int s0), (0, .ref (a 0)), (1, .int x1)]) hx hb dX11_sure_112 hl (k := 5) rfl rfl (by decide) rfl (fun ls hl => ?_)
            refine lv_goto (tgt := 23) hx hb dX11_sure_115 (by decide) ?_
            exact ih _ _ _ z h H locs ls hP hS (lv_sub hl [4, 5, 1, 2, 0] rfl) kR
    unfold f_X11_sure_b23 at h
    refine lv_iload hx hb dX11_sure_23 (lv_at hl 4 rfl) ?_
    refine lv_bipush (v := 24) hx hb dX11_sure_25 (by decide) ?_
    refine lv_aload_n hx hb dX11_sure_27 rfl (lv_at hl 0 rfl) ?_
    obtain ⟨r_2, hc_1, h⟩ := nx_bd h
    refine nx_ki (nx_runV (As := []) (rest := [.int 24, .int x4]) X hS hP (c_X11_cells l E H.size a wide tall groups tours tourLength rowMany cameBy top east south rolled off kind mark rolls many onward at_ goes firstTour rowWay rowSeen prints homeward _ hc_1) nx_FA qV_RX11_100 ⟨rfl, rfl⟩ ⟨Nat.le_of_ble_eq_true rfl, Nat.le_of_ble_eq_true rfl⟩ ⟨Nat.zero_le _, Nat.zero_le _⟩ 0 rfl rfl rfl rfl hl.1 (Nat.le_of_ble_eq_true rfl) dX11_sure_28) hS nx_FA (fun H locs hP hS => ?_)
    refine lv_imul hx hb dX11_sure_31 ?_
    refine lv_icmp_ge (tgt := 118) hx hb dX11_sure_32 (by decide) (fun hc => ?_) (fun hc => ?_)
    · have h := nx_it h hc
      obtain rfl := Option.some.inj h
      exact kR H locs ls hP hS (lv_sub hl [0, 2, 3] rfl)
    · have h := nx_if h hc
      refine lv_aload_n hx hb dX11_sure_35 rfl (lv_at hl 0 rfl) ?_
      refine lv_iload hx hb dX11_sure_36 (lv_at hl 4 rfl) ?_
      obtain ⟨r_4, hc_3, h⟩ := nx_bd h
      refine nx_ki (nx_runV (As := [.int x4]) (rest := []) X hS hP (c_X11_behind l N E H.size a wide tall groups tours tourLength rowMany cameBy top east south rolled off kind mark rolls many onward at_ goes firstTour rowWay rowSeen prints homeward x4 _ hc_3) nx_FA qV_RX11_178 ⟨rfl, rfl⟩ ⟨Nat.le_of_ble_eq_true rfl, Nat.le_of_ble_eq_true rfl⟩ ⟨Nat.zero_le _, Nat.zero_le _⟩ 0 rfl rfl rfl rfl hl.1 (Nat.le_of_ble_eq_true rfl) dX11_sure_38) hS nx_FA (fun H locs hP hS => ?_)
      refine lv_istore (lv' := [(5, .int r_4), (0, .ref (a 0)), (1, .int x1), (2, .int x2), (3, .int x3), (4, .int x4)]) hx hb dX11_sure_41 hl (by decide) rfl (fun ls hl => ?_)
      refine lv_iload hx hb dX11_sure_43 (lv_at hl 0 rfl) ?_
      refine lv_bipush (v := (-9)) hx hb dX11_sure_45 (by decide) ?_
      refine lv_icmp_eq (tgt := 112) hx hb dX11_sure_47 (by decide) (fun hc => ?_) (fun hc => ?_)
      · have h := nx_it h hc
        refine lv_iinc (v := (x4 + 1)) (lv' := [(4, .int (x4 + 1)), (5, .int r_4), (0, .ref (a 0)), (1, .int x1), (2, .int x2), (3, .int x3)]) hx hb dX11_sure_112 hl (k := 5) rfl rfl (by decide) rfl (fun ls hl => ?_)
        refine lv_goto (tgt := 23) hx hb dX11_sure_115 (by decide) ?_
        exact ih _ _ _ z h H locs ls hP hS (lv_sub hl [2, 3, 4, 5, 0] rfl) kR
      · have h := nx_if h hc
        refine lv_iload_n hx hb dX11_sure_50 rfl (lv_at hl 2 rfl) ?_
        refine lv_if_ne (tgt := 62) hx hb dX11_sure_51 (by decide) (fun hc => ?_) (fun hc => ?_)
        · have h := nx_if h hc
          refine lv_iload_n hx hb dX11_sure_62 rfl (lv_at hl 2 rfl) ?_
          refine lv_iconst (v := 1) hx hb dX11_sure_63 (by decide) ?_
          refine lv_icmp_ne (tgt := 80) hx hb dX11_sure_64 (by decide) (fun hc => ?_) (fun hc => ?_)
          · have h := nx_if h hc
            refine lv_iload hx hb dX11_sure_80 (lv_at hl 5 rfl) ?_
            refine lv_bipush (v := 24) hx hb dX11_sure_82 (by decide) ?_
            refine lv_idiv hx hb dX11_sure_84 (by decide) ?_
            exact J85 _ _ _ _ h H locs ls hP hS (lv_sub hl [1, 2, 3, 4, 5] rfl)
          · have h := nx_it h hc
            refine lv_aload_n hx hb dX11_sure_67 rfl (lv_at hl 1 rfl) ?_
            refine nx_gf X hP uw_X11 (ci := 10) rfl 0 rfl 0 (by decide) wf_RX11_7 rfl dX11_sure_68 ?_
            refine lv_iload hx hb dX11_sure_71 (lv_at hl 0 rfl) ?_
            refine lv_bipush (v := 24) hx hb dX11_sure_73 (by decide) ?_
            refine lv_irem hx hb dX11_sure_75 (by decide) ?_
            obtain ⟨hv_5, h⟩ := nx_rb h
            refine nx_ld X hP 1 rfl hv_5 dX11_sure_76 ?_
            refine lv_goto (tgt := 85) hx hb dX11_sure_77 (by decide) ?_
            exact J85 _ _ _ _ h H locs ls hP hS (lv_sub hl [1, 2, 3, 4, 5] rfl)
        · have h := nx_it h hc
          refine lv_iload hx hb dX11_sure_54 (lv_at hl 0 rfl) ?_
          refine lv_bipush (v := 24) hx hb dX11_sure_56 (by decide) ?_
          refine lv_idiv hx hb dX11_sure_58 (by decide) ?_
          refine lv_goto (tgt := 85) hx hb dX11_sure_59 (by decide) ?_
          exact J85 _ _ _ _ h H locs ls hP hS (lv_sub hl [1, 2, 3, 4, 5] rfl)
  unfold f_X11_sure at h
  suffices hw : ∀ (H : Heap) (locs : List Loc), va_P E.1 vwCl (mW E a wide tall groups tours tourLength rowMany cameBy top east south rolled off kind mark rolls many onward at_ goes firstTour rowWay rowSeen prints homeward) H → va_S (nx_F) s.heap H locs → W p l e (nx_rm 4 96) s m args below meth c H locs 0 0 Q (F0 m 0 ls []) from hw _ _ hP va_S.rf
  intro H locs hP hS
  refine lv_iload_n hx hb dX11_sure_0 rfl (lv_at hl 1 rfl) ?_
  refine lv_i2l (v := (x1 : Int32).toInt64) hx hb dX11_sure_1 rfl ?_
  refine lv_lconst (v := 0) hx hb dX11_sure_2 (by decide) ?_
  refine lv_ldc2 hx hb hown (hts _ wl_RX11_104) dX11_sure_3 ?_
  obtain ⟨r_8, hc_7, h⟩ := nx_bd h
  refine nx_ki (nx_runS (As := [.long ((x1 : Int32).toInt64), .long 0, .long 2]) (rest := []) X hS hP (c_X11_in l E H.size a wide tall groups tours tourLength rowMany cameBy top east south rolled off kind mark rolls many onward at_ goes firstTour rowWay rowSeen prints homeward ((x1 : Int32).toInt64) 0 2 _ hc_7) nx_FA qS_RX11_84 ⟨rfl, rfl⟩ ⟨Nat.le_of_ble_eq_true rfl, Nat.le_of_ble_eq_true rfl⟩ ⟨Nat.zero_le _, Nat.zero_le _⟩ rfl rfl hl.1 (Nat.le_of_ble_eq_true rfl) dX11_sure_6) hS nx_FA (fun H locs hP hS => ?_)
  refine lv_if_ne (tgt := 15) hx hb dX11_sure_9 (by decide) (fun hc => ?_) (fun hc => ?_)
  · have h := nx_if h hc
    refine lv_bipush (v := (-9)) hx hb dX11_sure_15 (by decide) ?_
    refine lv_istore_n (lv' := [(2, .int (-9)), (0, .ref (a 0)), (1, .int x1)]) hx hb dX11_sure_17 rfl hl (by decide) rfl (fun ls hl => ?_)
    refine lv_iconst (v := 1) hx hb dX11_sure_18 (by decide) ?_
    refine lv_istore_n (lv' := [(3, .int 1), (2, .int (-9)), (0, .ref (a 0)), (1, .int x1)]) hx hb dX11_sure_19 rfl hl (by decide) rfl (fun ls hl => ?_)
    refine lv_iconst (v := 0) hx hb dX11_sure_20 (by decide) ?_
    refine lv_istore (lv' := [(4, .int 0), (3, .int 1), (2, .int (-9)), (0, .ref (a 0)), (1, .int x1)]) hx hb dX11_sure_21 hl (by decide) rfl (fun ls hl => ?_)
    obtain ⟨z_9, hz_10, h⟩ := nx_bd h
    refine L23 _ N _ _ _ _ hz_10 H locs ls hP hS (lv_sub hl [3, 4, 2, 1, 0] rfl) (fun H locs ls hP hS hl => ?_)
    refine lv_iload_n hx hb dX11_sure_118 rfl (lv_at hl 2 rfl) ?_
    refine lv_if_eq (tgt := 126) hx hb dX11_sure_119 (by decide) (fun hc => ?_) (fun hc => ?_)
    · have h := nx_it h hc
      refine lv_bipush (v := (-9)) hx hb dX11_sure_126 (by decide) ?_
      exact kr 128 ls (-9) () H locs dX11_sure_128 (Option.some.inj h) hP hS
    · have h := nx_if h hc
      refine lv_iload_n hx hb dX11_sure_122 rfl (lv_at hl 1 rfl) ?_
      refine lv_goto (tgt := 128) hx hb dX11_sure_123 (by decide) ?_
      exact kr 128 ls z_9.1 () H locs dX11_sure_128 (Option.some.inj h) hP hS
  · have h := nx_it h hc
    refine lv_bipush (v := (-2)) hx hb dX11_sure_12 (by decide) ?_
    exact kr 14 ls (-2) () H locs dX11_sure_14 (Option.some.inj h) hP hS
