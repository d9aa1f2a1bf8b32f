def f_X11_blockRoll_j111 (x4 : Int32) (s0 : Int32) (wide : Int32) (tall : Int32) (kind : Nat → Int32) : Option (Int32) :=
  (f_X11_isSound x4 s0 wide tall kind).bind fun r_2 => if r_2 = 0 then (some (-9)) else (some ((8 * x4) + s0))
def f_X11_blockRoll_j85 (x3 : Int32) (x4 : Int32) (s0 : Int32) (wide : Int32) (tall : Int32) (kind : Nat → Int32) : Option (Int32) :=
  if s0 = 0 then (f_X11_blockRoll_j111 x4 x3 wide tall kind) else ((nx_rd kind 25 (x4 / 3)).bind fun _ => f_X11_blockRoll_j111 x4 (x3 ^^^ (1 <<< (((kind (x4 / 3).toNatClampNeg) - 3) &&& 31))) wide tall kind)
def f_X11_blockRoll (x1 : Int32) (x2 : Int32) (wide : Int32) (tall : Int32) (kind : Nat → Int32) : Option (Int32) :=
  (f_X11_isSound (x1 / 8) (x1 - x1 / 8 * 8) wide tall kind).bind fun r_6 => if r_6 = 0 then (some (-9)) else ((f_X11_blockTo (x1 / 8) x2 wide tall).bind fun r_8 => if r_8 = (-9) then (some (-9)) else ((f_X11_isSound r_8 (x1 - x1 / 8 * 8) wide tall kind).bind fun r_10 => if r_10 = 0 then (some (-9)) else (if (r_8 - r_8 / 3 * 3) = 0 then ((nx_rd kind 25 (r_8 / 3)).bind fun _ => (f_X11_in (((kind (r_8 / 3).toNatClampNeg) : Int32).toInt64) 3 5).bind fun r_14 => if r_14 = 0 then (f_X11_blockRoll_j85 (x1 - x1 / 8 * 8) r_8 0 wide tall kind) else (f_X11_blockRoll_j85 (x1 - x1 / 8 * 8) r_8 1 wide tall kind)) else (f_X11_blockRoll_j85 (x1 - x1 / 8 * 8) r_8 0 wide tall kind))))
set_option maxHeartbeats 4000000 in
set_option maxRecDepth 100000 in
theorem c_X11_blockRoll (l : Launch) (E : nx_E) (sz : Nat) (a : Nat → Nat) (wide : Int32) (tall : Int32) (groups : Int32) (tours : Int32) (tourLength : Int32) (rowMany : Int32) (cameBy : Int32) (top : Nat → Int32) (east : Nat → Int32) (south : Nat → Int32) (rolled : Nat → Int32) (off : Nat → Int32) (kind : Nat → Int32) (mark : Nat → Int32) (rolls : Nat → Int32) (many : Nat → Int64) (onward : Nat → Int32) (at_ : Nat → Int32) (goes : Nat → Int32) (firstTour : Nat → Int32) (rowWay : Nat → Int32) (rowSeen : Nat → Int32) (prints : Nat → Int32) (homeward : Nat → Int32) (x1 : Int32) (x2 : Int32) (o : Int32) (h : f_X11_blockRoll x1 x2 wide tall kind = some o) : Met l yX11_blockRoll (.code yX11_blockRoll cX11_blockRoll 7 (some .int) :: nx_T) (nx_rm 4 93) (va_Pc [.ref (a 0), .int x1, .int x2] (nx_P E (nx_F) sz (mW E a wide tall groups tours tourLength rowMany cameBy top east south rolled off kind mark rolls many onward at_ goes firstTour rowWay rowSeen prints homeward))) (va_Qi (fun v (_ : Unit) => v = o) (fun _ t => va_P E.1 vwCl (mW E a wide tall groups tours tourLength rowMany cameBy top east south rolled off kind mark rolls many onward at_ goes firstTour rowWay rowSeen prints homeward) t.heap) (nx_F)) 0 0 (nx_F) := by
  refine nx_enI (fun v (_ : Unit) => v = o) (fun (_ : Unit) => (mW E a wide tall groups tours tourLength rowMany cameBy top east south rolled off kind mark rolls many onward at_ goes firstTour rowWay rowSeen prints homeward)) (by decide) (Nat.le_of_ble_eq_true rfl) ?_
  intro p e s m below meth c Q X kr hsz hP ls hl
  subst hsz
  generalize hargs : (List.toArray [.ref (a 0), .int x1, .int x2] : Array Value) = args at X kr ⊢
  clear hargs
  obtain ⟨⟨hx, hb, hml, hown, hts⟩, hK, hSt, hNz⟩ := id X
  have hS : va_S (nx_F) s.heap s.heap [] := va_S.rf
  have hl : lv_has ls 7 [(0, .ref (a 0)), (1, .int x1), (2, .int x2)] := hl
  have J111 : ∀ (x4 : Int32) (s0 : Int32), f_X11_blockRoll_j111 x4 s0 wide tall kind = some o → ∀ (H : Heap) (locs : List Loc) (ls : Array Slot), va_P E.1 vwCl (mW E a wide tall groups tours tourLength rowMany cameBy top east south rolled off kind mark rolls many onward at_ goes firstTour rowWay rowSeen prints homeward) H → va_S (nx_F) s.heap H locs → lv_has ls 7 [(0, .ref (a 0)), (4, .int x4)] → W p l e (nx_rm 4 93) s m args below meth c H locs 0 0 Q (F0 m 111 ls [.int s0]) := by
    intro x4 s0 h H locs ls hP hS hl
    unfold f_X11_blockRoll_j111 at h
    refine lv_istore (lv' := [(6, .int s0), (0, .ref (a 0)), (4, .int x4)]) hx hb dX11_blockRoll_111 hl (by decide) rfl (fun ls hl => ?_)
    refine lv_aload_n hx hb dX11_blockRoll_113 rfl (lv_at hl 1 rfl) ?_
    refine lv_iload hx hb dX11_blockRoll_114 (lv_at hl 2 rfl) ?_
    refine lv_iload hx hb dX11_blockRoll_116 (lv_at hl 0 rfl) ?_
    obtain ⟨r_2, hc_1, h⟩ := nx_bd h
    refine nx_ki (nx_runV (As := [.int x4, .int s0]) (rest := []) X hS hP (c_X11_isSound l E H.size a wide tall groups tours tourLength rowMany cameBy top east south rolled off kind mark rolls many onward at_ goes firstTour rowWay rowSeen prints homeward x4 s0 _ hc_1) nx_FA qV_RX11_190 ⟨rfl, rfl⟩ ⟨Nat.le_of_ble_eq_true rfl, Nat.le_of_ble_eq_true rfl⟩ ⟨Nat.zero_le _, Nat.zero_le _⟩ 0 rfl rfl rfl rfl hl.1 (Nat.le_of_ble_eq_true rfl) dX11_blockRoll_118) hS nx_FA (fun H locs hP hS => ?_)
    refine lv_if_eq (tgt := 135) hx hb dX11_blockRoll_121 (by decide) (fun hc => ?_) (fun hc => ?_)
    · have h := nx_it h hc
      refine lv_bipush (v := (-9)) hx hb dX11_blockRoll_135 (by decide) ?_
      exact kr 137 ls (-9) () H locs dX11_blockRoll_137 (Option.some.inj h) hP hS
    · have h := nx_if h hc
      refine lv_bipush (v := 8) hx hb dX11_blockRoll_124 (by decide) ?_
      refine lv_iload hx hb dX11_blockRoll_126 (lv_at hl 2 rfl) ?_
      refine lv_imul hx hb dX11_blockRoll_128 ?_
      refine lv_iload hx hb dX11_blockRoll_129 (lv_at hl 0 rfl) ?_
      refine lv_iadd hx hb dX11_blockRoll_131 ?_
      refine lv_goto (tgt := 137) hx hb dX11_blockRoll_132 (by decide) ?_
      exact kr 137 ls ((8 * x4) + s0) () H locs dX11_blockRoll_137 (Option.some.inj h) hP hS
  have J85 : ∀ (x3 : Int32) (x4 : Int32) (s0 : Int32), f_X11_blockRoll_j85 x3 x4 s0 wide tall kind = some o → ∀ (H : Heap) (locs : List Loc) (ls : Array Slot), va_P E.1 vwCl (mW E a wide tall groups tours tourLength rowMany cameBy top east south rolled off kind mark rolls many onward at_ goes firstTour rowWay rowSeen prints homeward) H → va_S (nx_F) s.heap H locs → lv_has ls 7 [(0, .ref (a 0)), (3, .int x3), (4, .int x4)] → W p l e (nx_rm 4 93) s m args below meth c H locs 0 0 Q (F0 m 85 ls [.int s0]) := by
    intro x3 x4 s0 h H locs ls hP hS hl
    unfold f_X11_blockRoll_j85 at h
    refine lv_istore (lv' := [(5, .int s0), (0, .ref (a 0)), (3, .int x3), (4, .int x4)]) hx hb dX11_blockRoll_85 hl (by decide) rfl (fun ls hl => ?_)
    refine lv_iload hx hb dX11_blockRoll_87 (lv_at hl 0 rfl) ?_
    refine lv_if_eq (tgt := 110) hx hb dX11_blockRoll_89 (by decide) (fun hc => ?_) (fun hc => ?_)
    · have h := nx_it h hc
      refine lv_iload_n hx hb dX11_blockRoll_110 rfl (lv_at hl 2 rfl) ?_
      exact J111 _ _ h H locs ls hP hS (lv_sub hl [1, 3] rfl)
    · have h := nx_if h hc
      refine lv_iload_n hx hb dX11_blockRoll_92 rfl (lv_at hl 2 rfl) ?_
      refine lv_iconst (v := 1) hx hb dX11_blockRoll_93 (by decide) ?_
      refine lv_aload_n hx hb dX11_blockRoll_94 rfl (lv_at hl 1 rfl) ?_
      refine nx_gf X hP uw_X11 (ci := 10) rfl 0 rfl 7 (by decide) wf_RX11_32 rfl dX11_blockRoll_95 ?_
      refine lv_iload hx hb dX11_blockRoll_98 (lv_at hl 3 rfl) ?_
      refine lv_iconst (v := 3) hx hb dX11_blockRoll_100 (by decide) ?_
      refine lv_idiv hx hb dX11_blockRoll_101 (by decide) ?_
      obtain ⟨hv_3, h⟩ := nx_rb h
      refine nx_ld X hP 6 rfl hv_3 dX11_blockRoll_102 ?_
      refine lv_iconst (v := 3) hx hb dX11_blockRoll_103 (by decide) ?_
      refine lv_isub hx hb dX11_blockRoll_104 ?_
      refine lv_ishl hx hb dX11_blockRoll_105 ?_
      refine lv_ixor hx hb dX11_blockRoll_106 ?_
      refine lv_goto (tgt := 111) hx hb dX11_blockRoll_107 (by decide) ?_
      exact J111 _ _ h H locs ls hP hS (lv_sub hl [1, 3] rfl)
  unfold f_X11_blockRoll at h
  suffices hw : ∀ (H : Heap) (locs : List Loc), va_P E.1 vwCl (mW E a wide tall groups tours tourLength rowMany cameBy top east south rolled off kind mark rolls many onward at_ goes firstTour rowWay rowSeen prints homeward) H → va_S (nx_F) s.heap H locs → W p l e (nx_rm 4 93) s m args below meth c H locs 0 0 Q (F0 m 0 ls []) from hw _ _ hP va_S.rf
  intro H locs hP hS
  refine lv_iload_n hx hb dX11_blockRoll_0 rfl (lv_at hl 1 rfl) ?_
  refine lv_bipush (v := 8) hx hb dX11_blockRoll_1 (by decide) ?_
  refine lv_irem hx hb dX11_blockRoll_3 (by decide) ?_
  refine lv_istore_n (lv' := [(3, .int (x1 - x1 / 8 * 8)), (0, .ref (a 0)), (1, .int x1), (2, .int x2)]) hx hb dX11_blockRoll_4 rfl hl (by decide) rfl (fun ls hl => ?_)
  refine lv_aload_n hx hb dX11_blockRoll_5 rfl (lv_at hl 1 rfl) ?_
  refine lv_iload_n hx hb dX11_blockRoll_6 rfl (lv_at hl 2 rfl) ?_
  refine lv_bipush (v := 8) hx hb dX11_blockRoll_7 (by decide) ?_
  refine lv_idiv hx hb dX11_blockRoll_9 (by decide) ?_
  refine lv_iload_n hx hb dX11_blockRoll_10 rfl (lv_at hl 0 rfl) ?_
  obtain ⟨r_6, hc_5, h⟩ := nx_bd h
  refine nx_ki (nx_runV (As := [.int (x1 / 8), .int (x1 - x1 / 8 * 8)]) (rest := []) X hS hP (c_X11_isSound l E H.size a wide tall groups tours tourLength rowMany cameBy top east south rolled off kind mark rolls many onward at_ goes firstTour rowWay rowSeen prints homeward (x1 / 8) (x1 - x1 / 8 * 8) _ hc_5) nx_FA qV_RX11_190 ⟨rfl, rfl⟩ ⟨Nat.le_of_ble_eq_true rfl, Nat.le_of_ble_eq_true rfl⟩ ⟨Nat.zero_le _, Nat.zero_le _⟩ 0 rfl rfl rfl rfl hl.1 (Nat.le_of_ble_eq_true rfl) dX11_blockRoll_11) hS nx_FA (fun H locs hP hS => ?_)
  refine lv_if_ne (tgt := 20) hx hb dX11_blockRoll_14 (by decide) (fun hc => ?_) (fun hc => ?_)
  · have h := nx_if h hc
    refine lv_aload_n hx hb dX11_blockRoll_20 rfl (lv_at hl 1 rfl) ?_
    refine lv_iload_n hx hb dX11_blockRoll_21 rfl (lv_at hl 2 rfl) ?_
    refine lv_bipush (v := 8) hx hb dX11_blockRoll_22 (by decide) ?_
    refine lv_idiv hx hb dX11_blockRoll_24 (by decide) ?_
    refine lv_iload_n hx hb dX11_blockRoll_25 rfl (lv_at hl 3 rfl) ?_
    obtain ⟨r_8, hc_7, h⟩ := nx_bd h
    refine nx_ki (nx_runV (As := [.int (x1 / 8), .int x2]) (rest := []) X hS hP (c_X11_blockTo l E H.size a wide tall groups tours tourLength rowMany cameBy top east south rolled off kind mark rolls many onward at_ goes firstTour rowWay rowSeen prints homeward (x1 / 8) x2 _ hc_7) nx_FA qV_RX11_193 ⟨rfl, rfl⟩ ⟨Nat.le_of_ble_eq_true rfl, Nat.le_of_ble_eq_true rfl⟩ ⟨Nat.zero_le _, Nat.zero_le _⟩ 0 rfl rfl rfl rfl hl.1 (Nat.le_of_ble_eq_true rfl) dX11_blockRoll_26) hS nx_FA (fun H locs hP hS => ?_)
    refine lv_istore (lv' := [(4, .int r_8), (3, .int (x1 - x1 / 8 * 8)), (0, .ref (a 0)), (1, .int x1), (2, .int x2)]) hx hb dX11_blockRoll_29 hl (by decide) rfl (fun ls hl => ?_)
    refine lv_iload hx hb dX11_blockRoll_31 (lv_at hl 0 rfl) ?_
    refine lv_bipush (v := (-9)) hx hb dX11_blockRoll_33 (by decide) ?_
    refine lv_icmp_eq (tgt := 48) hx hb dX11_blockRoll_35 (by decide) (fun hc => ?_) (fun hc => ?_)
    · have h := nx_it h hc
      refine lv_bipush (v := (-9)) hx hb dX11_blockRoll_48 (by decide) ?_
      exact kr 50 ls (-9) () H locs dX11_blockRoll_50 (Option.some.inj h) hP hS
    · have h := nx_if h hc
      refine lv_aload_n hx hb dX11_blockRoll_38 rfl (lv_at hl 2 rfl) ?_
      refine lv_iload hx hb dX11_blockRoll_39 (lv_at hl 0 rfl) ?_
      refine lv_iload_n hx hb dX11_blockRoll_41 rfl (lv_at hl 1 rfl) ?_
      obtain ⟨r_10, hc_9, h⟩ := nx_bd h
      refine nx_ki (nx_runV (As := [.int r_8, .int (x1 - x1 / 8 * 8)]) (rest := []) X hS hP (c_X11_isSound l E H.size a wide tall groups tours tourLength rowMany cameBy top east south rolled off kind mark rolls many onward at_ goes firstTour rowWay rowSeen prints homeward r_8 (x1 - x1 / 8 * 8) _ hc_9) nx_FA qV_RX11_190 ⟨rfl, rfl⟩ ⟨Nat.le_of_ble_eq_true rfl, Nat.le_of_ble_eq_true rfl⟩ ⟨Nat.zero_le _, Nat.zero_le _⟩ 0 rfl rfl rfl rfl hl.1 (Nat.le_of_ble_eq_true rfl) dX11_blockRoll_42) hS nx_FA (fun H locs hP hS => ?_)
      refine lv_if_ne (tgt := 51) hx hb dX11_blockRoll_45 (by decide) (fun hc => ?_) (fun hc => ?_)
      · have h := nx_if h hc
        refine lv_iload hx hb dX11_blockRoll_51 (lv_at hl 0 rfl) ?_
        refine lv_iconst (v := 3) hx hb dX11_blockRoll_53 (by decide) ?_
        refine lv_irem hx hb dX11_blockRoll_54 (by decide) ?_
        refine lv_if_ne (tgt := 84) hx hb dX11_blockRoll_55 (by decide) (fun hc => ?_) (fun hc => ?_)
        · have h := nx_if h hc
          refine lv_iconst (v := 0) hx hb dX11_blockRoll_84 (by decide) ?_
          exact J85 _ _ _ h H locs ls hP hS (lv_sub hl [2, 1, 0] rfl)
        · have h := nx_it h hc
          refine lv_aload_n hx hb dX11_blockRoll_58 rfl (lv_at hl 2 rfl) ?_
          refine nx_gf X hP uw_X11 (ci := 10) rfl 0 rfl 7 (by decide) wf_RX11_32 rfl dX11_blockRoll_59 ?_
          refine lv_iload hx hb dX11_blockRoll_62 (lv_at hl 0 rfl) ?_
          refine lv_iconst (v := 3) hx hb dX11_blockRoll_64 (by decide) ?_
          refine lv_idiv hx hb dX11_blockRoll_65 (by decide) ?_
          obtain ⟨hv_11, h⟩ := nx_rb h
          refine nx_ld X hP 6 rfl hv_11 dX11_blockRoll_66 ?_
          refine lv_i2l (v := ((kind (r_8 / 3).toNatClampNeg) : Int32).toInt64) hx hb dX11_blockRoll_67 rfl ?_
          refine lv_ldc2 hx hb hown (hts _ wl_RX11_88) dX11_blockRoll_68 ?_
          refine lv_ldc2 hx hb hown (hts _ wl_RX11_106) dX11_blockRoll_71 ?_
          obtain ⟨r_14, hc_13, h⟩ := nx_bd h
          refine nx_ki (nx_runS (As := [.long (((kind (r_8 / 3).toNatClampNeg) : Int32).toInt64), .long 3, .long 5]) (rest := []) X hS hP (c_X11_in l E H.size a wide tall groups tours tourLength rowMany cameBy top east south rolled off kind mark rolls many onward at_ goes firstTour rowWay rowSeen prints homeward (((kind (r_8 / 3).toNatClampNeg) : Int32).toInt64) 3 5 _ hc_13) nx_FA qS_RX11_84 ⟨rfl, rfl⟩ ⟨Nat.le_of_ble_eq_true rfl, Nat.le_of_ble_eq_true rfl⟩ ⟨Nat.zero_le _, Nat.zero_le _⟩ rfl rfl hl.1 (Nat.le_of_ble_eq_true rfl) dX11_blockRoll_74) hS nx_FA (fun H locs hP hS => ?_)
          refine lv_if_eq (tgt := 84) hx hb dX11_blockRoll_77 (by decide) (fun hc => ?_) (fun hc => ?_)
          · have h := nx_it h hc
            refine lv_iconst (v := 0) hx hb dX11_blockRoll_84 (by decide) ?_
            exact J85 _ _ _ h H locs ls hP hS (lv_sub hl [2, 1, 0] rfl)
          · have h := nx_if h hc
            refine lv_iconst (v := 1) hx hb dX11_blockRoll_80 (by decide) ?_
            refine lv_goto (tgt := 85) hx hb dX11_blockRoll_81 (by decide) ?_
            exact J85 _ _ _ h H locs ls hP hS (lv_sub hl [2, 1, 0] rfl)
      · have h := nx_it h hc
        refine lv_bipush (v := (-9)) hx hb dX11_blockRoll_48 (by decide) ?_
        exact kr 50 ls (-9) () H locs dX11_blockRoll_50 (Option.some.inj h) hP hS
  · have h := nx_it h hc
    refine lv_bipush (v := (-9)) hx hb dX11_blockRoll_17 (by decide) ?_
    exact kr 19 ls (-9) () H locs dX11_blockRoll_19 (Option.some.inj h) hP hS
def f_X11_rolls (x1 : Int32) (x2 : Int32) (wide : Int32) (tall : Int32) (groups : Int32) (kind : Nat → Int32) : Option (Int32) :=
  (f_X11_isPlace x1 wide tall).bind fun r_2 => if r_2 = 0 then (some (-1)) else ((f_X11_isWay x2).bind fun r_4 => if r_4 = 0 then (some (-2)) else ((f_X11_blockRoll ((8 * x1) + groups) x2 wide tall kind).bind fun r_6 => if r_6 = (-9) then (some (-9)) else (some (r_6 / 8))))
set_option maxHeartbeats 4000000 in
set_option maxRecDepth 100000 in
theorem c_X11_rolls (l : Launch) (E : nx_E) (sz : Nat) (a : Nat → Nat) (wide : Int32) (tall : Int32) (groups : Int32) (tours : Int32) (tourLength : Int32) (rowMany : Int32) (cameBy : Int32) (top : Nat → Int32) (east : Nat → Int32) (south : Nat → Int32) (rolled : Nat → Int32) (off : Nat → Int32) (kind : Nat → Int32) (mark : Nat → Int32) (rolls : Nat → Int32) (many : Nat → Int64) (onward : Nat → Int32) (at_ : Nat → Int32) (goes : Nat → Int32) (firstTour : Nat → Int32) (rowWay : Nat → Int32) (rowSeen : Nat → Int32) (prints : Nat → Int32) (homeward : Nat → Int32) (x1 : Int32) (x2 : Int32) (o : Int32) (h : f_X11_rolls x1 x2 wide tall groups kind = some o) : Met l yX11_rolls (.code yX11_rolls cX11_rolls 4 (some .int) :: nx_T) (nx_rm 5 119) (va_Pc [.ref (a 0), .int x1, .int x2] (nx_P E (nx_F) sz (mW E a wide tall groups tours tourLength rowMany cameBy top east south rolled off kind mark rolls many onward at_ goes firstTour rowWay rowSeen prints homeward))) (va_Qi (fun v (_ : Unit) => v = o) (fun _ t => va_P E.1 vwCl (mW E a wide tall groups tours tourLength rowMany cameBy top east south rolled off kind mark rolls many onward at_ goes firstTour rowWay rowSeen prints homeward) t.heap) (nx_F)) 0 0 (nx_F) := by
  refine nx_enI (fun v (_ : Unit) => v = o) (fun (_ : Unit) => (mW E a wide tall groups tours tourLength rowMany cameBy top east south rolled off kind mark rolls many onward at_ goes firstTour rowWay rowSeen prints homeward)) (by decide) (Nat.le_of_ble_eq_true rfl) ?_
  intro p e s m below meth c Q X kr hsz hP ls hl
  subst hsz
  generalize hargs : (List.toArray [.ref (a 0), .int x1, .int x2] : Array Value) = args at X kr ⊢
  clear hargs
  obtain ⟨⟨hx, hb, hml, hown, hts⟩, hK, hSt, hNz⟩ := id X
  have hS : va_S (nx_F) s.heap s.heap [] := va_S.rf
  have hl : lv_has ls 4 [(0, .ref (a 0)), (1, .int x1), (2, .int x2)] := hl
  unfold f_X11_rolls at h
  suffices hw : ∀ (H : Heap) (locs : List Loc), va_P E.1 vwCl (mW E a wide tall groups tours tourLength rowMany cameBy top east south rolled off kind mark rolls many onward at_ goes firstTour rowWay rowSeen prints homeward) H → va_S (nx_F) s.heap H locs → W p l e (nx_rm 5 119) s m args below meth c H locs 0 0 Q (F0 m 0 ls []) from hw _ _ hP va_S.rf
  intro H locs hP hS
  refine lv_aload_n hx hb dX11_rolls_0 rfl (lv_at hl 0 rfl) ?_
  refine lv_iload_n hx hb dX11_rolls_1 rfl (lv_at hl 1 rfl) ?_
  obtain ⟨r_2, hc_1, h⟩ := nx_bd h
  refine nx_ki (nx_runV (As := [.int x1]) (rest := []) X hS hP (c_X11_isPlace l E H.size a wide tall groups tours tourLength rowMany cameBy top east south rolled off kind mark rolls many onward at_ goes firstTour rowWay rowSeen prints homeward x1 _ hc_1) nx_FA qV_RX11_187 ⟨rfl, rfl⟩ ⟨Nat.le_of_ble_eq_true rfl, Nat.le_of_ble_eq_true rfl⟩ ⟨Nat.zero_le _, Nat.zero_le _⟩ 0 rfl rfl rfl rfl hl.1 (Nat.le_of_ble_eq_true rfl) dX11_rolls_2) hS nx_FA (fun H locs hP hS => ?_)
  refine lv_if_ne (tgt := 10) hx hb dX11_rolls_5 (by decide) (fun hc => ?_) (fun hc => ?_)
  · have h := nx_if h hc
    refine lv_iload_n hx hb dX11_rolls_10 rfl (lv_at hl 2 rfl) ?_
    obtain ⟨r_4, hc_3, h⟩ := nx_bd h
    refine nx_ki (nx_runS (As := [.int x2]) (rest := []) X hS hP (c_X11_isWay l E H.size a wide tall groups tours tourLength rowMany cameBy top east south rolled off kind mark rolls many onward at_ goes firstTour rowWay rowSeen prints homeward x2 _ hc_3) nx_FA qS_RX11_94 ⟨rfl, rfl⟩ ⟨Nat.le_of_ble_eq_true rfl, Nat.le_of_ble_eq_true rfl⟩ ⟨Nat.zero_le _, Nat.zero_le _⟩ rfl rfl hl.1 (Nat.le_of_ble_eq_true rfl) dX11_rolls_11) hS nx_FA (fun H locs hP hS => ?_)
    refine lv_if_ne (tgt := 20) hx hb dX11_rolls_14 (by decide) (fun hc => ?_) (fun hc => ?_)
    · have h := nx_if h hc
      refine lv_aload_n hx hb dX11_rolls_20 rfl (lv_at hl 0 rfl) ?_
      refine lv_bipush (v := 8) hx hb dX11_rolls_21 (by decide) ?_
      refine lv_iload_n hx hb dX11_rolls_23 rfl (lv_at hl 1 rfl) ?_
      refine lv_imul hx hb dX11_rolls_24 ?_
      refine lv_aload_n hx hb dX11_rolls_25 rfl (lv_at hl 0 rfl) ?_
      refine nx_gf X hP uw_X11 (ci := 10) rfl 0 rfl 9 (by decide) wf_RX11_108 rfl dX11_rolls_26 ?_
      refine lv_iadd hx hb dX11_rolls_29 ?_
      refine lv_iload_n hx hb dX11_rolls_30 rfl (lv_at hl 2 rfl) ?_
      obtain ⟨r_6, hc_5, h⟩ := nx_bd h
      refine nx_ki (nx_runV (As := [.int ((8 * x1) + groups), .int x2]) (rest := []) X hS hP (c_X11_blockRoll l E H.size a wide tall groups tours tourLength rowMany cameBy top east south rolled off kind mark rolls many onward at_ goes firstTour rowWay rowSeen prints homeward ((8 * x1) + groups) x2 _ hc_5) nx_FA qV_RX11_196 ⟨rfl, rfl⟩ ⟨Nat.le_of_ble_eq_true rfl, Nat.le_of_ble_eq_true rfl⟩ ⟨Nat.zero_le _, Nat.zero_le _⟩ 0 rfl rfl rfl rfl hl.1 (Nat.le_of_ble_eq_true rfl) dX11_rolls_31) hS nx_FA (fun H locs hP hS => ?_)
      refine lv_istore_n (lv' := [(3, .int r_6), (0, .ref (a 0)), (1, .int x1), (2, .int x2)]) hx hb dX11_rolls_34 rfl hl (by decide) rfl (fun ls hl => ?_)
      refine lv_iload_n hx hb dX11_rolls_35 rfl (lv_at hl 0 rfl) ?_
      refine lv_bipush (v := (-9)) hx hb dX11_rolls_36 (by decide) ?_
      refine lv_icmp_ne (tgt := 46) hx hb dX11_rolls_38 (by decide) (fun hc => ?_) (fun hc => ?_)
      · have h := nx_if h hc
        refine lv_iload_n hx hb dX11_rolls_46 rfl (lv_at hl 0 rfl) ?_
        refine lv_bipush (v := 8) hx hb dX11_rolls_47 (by decide) ?_
        refine lv_idiv hx hb dX11_rolls_49 (by decide) ?_
        exact kr 50 ls (r_6 / 8) () H locs dX11_rolls_50 (Option.some.inj h) hP hS
      · have h := nx_it h hc
        refine lv_bipush (v := (-9)) hx hb dX11_rolls_41 (by decide) ?_
        refine lv_goto (tgt := 50) hx hb dX11_rolls_43 (by decide) ?_
        exact kr 50 ls (-9) () H locs dX11_rolls_50 (Option.some.inj h) hP hS
    · have h := nx_it h hc
      refine lv_bipush (v := (-2)) hx hb dX11_rolls_17 (by decide) ?_
      exact kr 19 ls (-2) () H locs dX11_rolls_19 (Option.some.inj h) hP hS
  · have h := nx_it h hc
    refine lv_iconst (v := (-1)) hx hb dX11_rolls_8 (by decide) ?_
    exact kr 9 ls (-1) () H locs dX11_rolls_9 (Option.some.inj h) hP hS
def f_X11_layHome_j51 (rec : (Int32 × (Nat → Int32)) → Option ((Nat → Int32))) (x1 : Int32) (x2 : Int32) (x3 : Int32) (s0 : Int32) (s1 : Int32) (homeward : Nat → Int32) : Option ((Nat → Int32)) :=
  (nx_ck 600 s1).bind fun _ => rec ((x3 + 1), (upd homeward s1.toNatClampNeg s0))
def f_X11_layHome_j49 (rec : (Int32 × (Nat → Int32)) → Option ((Nat → Int32))) (x1 : Int32) (x2 : Int32) (x3 : Int32) (s0 : Int32) (homeward : Nat → Int32) : Option ((Nat → Int32)) :=
  f_X11_layHome_j51 rec x1 x2 x3 100000000 s0 homeward
def f_X11_layHome_b10 (x1 : Int32) (x2 : Int32) (wide : Int32) (tall : Int32) (kind : Nat → Int32) (rec : (Int32 × (Nat → Int32)) → Option ((Nat → Int32))) (x3 : Int32) (homeward : Nat → Int32) : Option ((Nat → Int32)) :=
  if x2 ≤ x3 then (some homeward) else (if (x3 / 8) = (3 * x1) then ((f_X11_isSound (x3 / 8) (x3 - x3 / 8 * 8) wide tall kind).bind fun r_3 => if r_3 = 0 then (f_X11_layHome_j49 rec x1 x2 x3 x3 homeward) else (f_X11_layHome_j51 rec x1 x2 x3 0 x3 homeward)) else (f_X11_layHome_j49 rec x1 x2 x3 x3 homeward))
def f_X11_layHome_l10 (x1 : Int32) (x2 : Int32) (wide : Int32) (tall : Int32) (kind : Nat → Int32) : Nat → (Int32 × (Nat → Int32)) → Option ((Nat → Int32)) := nx_lp (fun rec z => f_X11_layHome_b10 x1 x2 wide tall kind rec z.1 z.2)
def f_X11_layHome_b69 (x2 : Int32) (wide : Int32) (tall : Int32) (kind : Nat → Int32) (rec : (Int32 × Int32 × (Nat → Int32)) → Option (Int32 × (Nat → Int32))) (x3 : Int32) (x4 : Int32) (homeward : Nat → Int32) : Option (Int32 × (Nat → Int32)) :=
  if (4 * x2) ≤ x4 then (some (x3, homeward)) else ((f_X11_blockRoll (x4 / 4) (x4 - x4 / 4 * 4) wide tall kind).bind fun r_5 => if r_5 = (-9) then (rec (x3, (x4 + 1), homeward)) else ((nx_rd homeward 600 r_5).bind fun _ => (nx_rd homeward 600 (x4 / 4)).bind fun _ => if (homeward (x4 / 4).toNatClampNeg) ≤ ((homeward r_5.toNatClampNeg) + 1) then (rec (x3, (x4 + 1), homeward)) else ((nx_rd homeward 600 r_5).bind fun _ => (nx_ck 600 (x4 / 4)).bind fun _ => rec (1, (x4 + 1), (upd homeward (x4 / 4).toNatClampNeg ((homeward r_5.toNatClampNeg) + 1))))))
def f_X11_layHome_l69 (x2 : Int32) (wide : Int32) (tall : Int32) (kind : Nat → Int32) : Nat → (Int32 × Int32 × (Nat → Int32)) → Option (Int32 × (Nat → Int32)) := nx_lp (fun rec z => f_X11_layHome_b69 x2 wide tall kind rec z.1 z.2.1 z.2.2)
def f_X11_layHome_b60 (N : Nat) (x2 : Int32) (wide : Int32) (tall : Int32) (kind : Nat → Int32) (rec : (Int32 × (Nat → Int32)) → Option ((Nat → Int32))) (x3 : Int32) (homeward : Nat → Int32) : Option ((Nat → Int32)) :=
  if x3 = 0 then (some homeward) else ((f_X11_layHome_l69 x2 wide tall kind N (0, 0, homeward)).bind fun z_13 => rec (z_13.1, z_13.2))
def f_X11_layHome_l60 (N : Nat) (x2 : Int32) (wide : Int32) (tall : Int32) (kind : Nat → Int32) : Nat → (Int32 × (Nat → Int32)) → Option ((Nat → Int32)) := nx_lp (fun rec z => f_X11_layHome_b60 N x2 wide tall kind rec z.1 z.2)
def f_X11_layHome (N : Nat) (x1 : Int32) (wide : Int32) (tall : Int32) (kind : Nat → Int32) (homeward : Nat → Int32) : Option ((Nat → Int32)) :=
  (f_X11_cells wide tall).bind fun r_16 => (f_X11_layHome_l10 x1 (24 * r_16) wide tall kind N (0, homeward)).bind fun z_17 => (f_X11_layHome_l60 N (24 * r_16) wide tall kind N (1, z_17)).bind fun z_19 => some z_19
set_option maxHeartbeats 4000000 in
set_option maxRecDepth 100000 in
theorem c_X11_layHome (l : Launch) (N : Nat) (E : nx_E) (sz : Nat) (a : Nat → Nat) (wide : Int32) (tall : Int32) (groups : Int32) (tours : Int32) (tourLength : Int32) (rowMany : Int32) (cameBy : Int32) (top : Nat → Int32) (east : Nat → Int32) (south : Nat → Int32) (rolled : Nat → Int32) (off : Nat → Int32) (kind : Nat → Int32) (mark : Nat → Int32) (rolls : Nat → Int32) (many : Nat → Int64) (onward : Nat → Int32) (at_ : Nat → Int32) (goes : Nat → Int32) (firstTour : Nat → Int32) (rowWay : Nat → Int32) (rowSeen : Nat → Int32) (prints : Nat → Int32) (homeward : Nat → Int32) (x1 : Int32) (hI : nx_inj a 18) (o : (Nat → Int32)) (h : f_X11_layHome N x1 wide tall kind homeward = some o) : Met l yX11_layHome (.code yX11_layHome cX11_layHome 6 none :: nx_T) (nx_rm 5 119) (va_Pc [.ref (a 0), .int x1] (nx_P E (nx_A a 18 sz) sz (mW E a wide tall groups tours tourLength rowMany cameBy top east south rolled off kind mark rolls many onward at_ goes firstTour rowWay rowSeen prints homeward))) (va_Qv (fun u => u = o) (fun u t => va_P E.1 vwCl (mW E a wide tall groups tours tourLength rowMany cameBy top east south rolled off kind mark rolls many onward at_ goes firstTour rowWay rowSeen prints u) t.heap) (nx_A a 18 sz)) 0 0 (nx_A a 18 sz) := by
  refine nx_enV (fun u => u = o) (fun (u : (Nat → Int32)) => (mW E a wide tall groups tours tourLength rowMany cameBy top east south rolled off kind mark rolls many onward at_ goes firstTour rowWay rowSeen prints u)) (by decide) (Nat.le_of_ble_eq_true rfl) ?_
  intro p e s m below meth c Q X kr hsz hP ls hl
  subst hsz
  generalize hargs : (List.toArray [.ref (a 0), .int x1] : Array Value) = args at X kr ⊢
  clear hargs
  obtain ⟨⟨hx, hb, hml, hown, hts⟩, hK, hSt, hNz⟩ := id X
  have hS : va_S (nx_A a 18 s.heap.size) s.heap s.heap [] := va_S.rf
  have hl : lv_has ls 6 [(0, .ref (a 0)), (1, .int x1)] := hl
  have L10 : ∀ (x1 : Int32) (x2 : Int32) (n : Nat) (x3 : Int32) (homeward : Nat → Int32) (z : ((Nat → Int32))), f_X11_layHome_l10 x1 x2 wide tall kind n (x3, homeward) = some z → ∀ (H : Heap) (locs : List Loc) (ls : Array Slot), va_P E.1 vwCl (mW E a wide tall groups tours tourLength rowMany cameBy top east south rolled off kind mark rolls many onward at_ goes firstTour rowWay rowSeen prints homeward) H → va_S (nx_A a 18 s.heap.size) s.heap H locs → lv_has ls 6 [(0, .ref (a 0)), (1, .int x1), (2, .int x2), (3, .int x3)] → ∀ (kR : ∀ (H : Heap) (locs : List Loc) (ls : Array Slot), va_P E.1 vwCl (mW E a wide tall groups tours tourLength rowMany cameBy top east south rolled off kind mark rolls many onward at_ goes firstTour rowWay rowSeen prints z) H → va_S (nx_A a 18 s.heap.size) s.heap H locs → lv_has ls 6 [(0, .ref (a 0)), (2, .int x2)] → W p l e (nx_rm 5 119) s m args below meth c H locs 0 0 Q (F0 m 58 ls [])), W p l e (nx_rm 5 119) s m args below meth c H locs 0 0 Q (F0 m 10 ls []) := by
   intro x1 x2 n
   induction n with
   | zero => intro x3 homeward z h; exact nomatch (show none = some z from h)
   | succ n ih =>
    intro x3 homeward z h H locs ls hP hS hl kR
    have h : f_X11_layHome_b10 x1 x2 wide tall kind (f_X11_layHome_l10 x1 x2 wide tall kind n) x3 homeward = some z := h
    have J51 : ∀ (x3 : Int32) (s0 : Int32) (s1 : Int32) (homeward : Nat → Int32), f_X11_layHome_j51 (f_X11_layHome_l10 x1 x2 wide tall kind n) x1 x2 x3 s0 s1 homeward = some z → ∀ (H : Heap) (locs : List Loc) (ls : Array Slot), va_P E.1 vwCl (mW E a wide tall groups tours tourLength rowMany cameBy top east south rolled off kind mark rolls many onward at_ goes firstTour rowWay rowSeen prints homeward) H → va_S (nx_A a 18 s.heap.size) s.heap H locs → lv_has ls 6 [(0, .ref (a 0)), (1, .int x1), (2, .int x2), (3, .int x3)] → W p l e (nx_rm 5 119) s m args below meth c H locs 0 0 Q (F0 m 51 ls [.int s0, .int s1, .ref (a 17)]) := by
      intro x3 s0 s1 homeward h H locs ls hP hS hl
      unfold f_X11_layHome_j51 at h
      obtain ⟨hv_1, h⟩ := nx_cb h
      refine nx_st X hI mW_ad hP hS 17 rfl hv_1 dX11_layHome_51 (fun H locs hP hS => ?_)
      have hP : va_P E.1 vwCl (mW E a wide tall groups tours tourLength rowMany cameBy top east south rolled off kind mark rolls many onward at_ goes firstTour rowWay rowSeen prints (upd homeward s1.toNatClampNeg s0)) H := hP
      refine lv_iinc (v := (x3 + 1)) (lv' := [(3, .int (x3 + 1)), (0, .ref (a 0)), (1, .int x1), (2, .int x2)]) hx hb dX11_layHome_52 hl (k := 3) rfl rfl (by decide) rfl (fun ls hl => ?_)
      refine lv_goto (tgt := 10) hx hb dX11_layHome_55 (by decide) ?_
      exact ih _ _ z h H locs ls hP hS (lv_sub hl [1, 2, 3, 0] rfl) kR
    have J49 : ∀ (x3 : Int32) (s0 : Int32) (homeward : Nat → Int32), f_X11_layHome_j49 (f_X11_layHome_l10 x1 x2 wide tall kind n) x1 x2 x3 s0 homeward = some z → ∀ (H : Heap) (locs : List Loc) (ls : Array Slot), va_P E.1 vwCl (mW E a wide tall groups tours tourLength rowMany cameBy top east south rolled off kind mark rolls many onward at_ goes firstTour rowWay rowSeen prints homeward) H → va_S (nx_A a 18 s.heap.size) s.heap H locs → lv_has ls 6 [(0, .ref (a 0)), (1, .int x1), (2, .int x2), (3, .int x3)] → W p l e (nx_rm 5 119) s m args below meth c H locs 0 0 Q (F0 m 49 ls [.int s0, .ref (a 17)]) := by
      intro x3 s0 homeward h H locs ls hP hS hl
      unfold f_X11_layHome_j49 at h
      refine lv_ldc hx hb hown (hts _ wk_RX11_99) dX11_layHome_49 ?_
      exact J51 _ _ _ _ h H locs ls hP hS (lv_sub hl [0, 1, 2, 3] rfl)
    unfold f_X11_layHome_b10 at h
    refine lv_iload_n hx hb dX11_layHome_10 rfl (lv_at hl 3 rfl) ?_
    refine lv_iload_n hx hb dX11_layHome_11 rfl (lv_at hl 2 rfl) ?_
    refine lv_icmp_ge (tgt := 58) hx hb dX11_layHome_12 (by decide) (fun hc => ?_) (fun hc => ?_)
    · have h := nx_it h hc
      obtain rfl := Option.some.inj h
      exact kR H locs ls hP hS (lv_sub hl [0, 2] rfl)
    · have h := nx_if h hc
      refine lv_aload_n hx hb dX11_layHome_15 rfl (lv_at hl 0 rfl) ?_
      refine nx_gf X hP uw_X11 (ci := 10) rfl 0 rfl 22 (by decide) wf_RX11_66 rfl dX11_layHome_16 ?_
      refine lv_iload_n hx hb dX11_layHome_19 rfl (lv_at hl 3 rfl) ?_
      refine lv_iload_n hx hb dX11_layHome_20 rfl (lv_at hl 3 rfl) ?_
      refine lv_bipush (v := 8) hx hb dX11_layHome_21 (by decide) ?_
      refine lv_idiv hx hb dX11_layHome_23 (by decide) ?_
      refine lv_iconst (v := 3) hx hb dX11_layHome_24 (by decide) ?_
      refine lv_iload_n hx hb dX11_layHome_25 rfl (lv_at hl 1 rfl) ?_
      refine lv_imul hx hb dX11_layHome_26 ?_
      refine lv_icmp_ne (tgt := 49) hx hb dX11_layHome_27 (by decide) (fun hc => ?_) (fun hc => ?_)
      · have h := nx_if h hc
        exact J49 _ _ _ h H locs ls hP hS (lv_sub hl [0, 1, 2, 3] rfl)
      · have h := nx_it h hc
        refine lv_aload_n hx hb dX11_layHome_30 rfl (lv_at hl 0 rfl) ?_
        refine lv_iload_n hx hb dX11_layHome_31 rfl (lv_at hl 3 rfl) ?_
        refine lv_bipush (v := 8) hx hb dX11_layHome_32 (by decide) ?_
        refine lv_idiv hx hb dX11_layHome_34 (by decide) ?_
        refine lv_iload_n hx hb dX11_layHome_35 rfl (lv_at hl 3 rfl) ?_
        refine lv_bipush (v := 8) hx hb dX11_layHome_36 (by decide) ?_
        refine lv_irem hx hb dX11_layHome_38 (by decide) ?_
        obtain ⟨r_3, hc_2, h⟩ := nx_bd h
        refine nx_ki (nx_runV (As := [.int (x3 / 8), .int (x3 - x3 / 8 * 8)]) (rest := [.int x3, .ref (a 17)]) X hS hP (c_X11_isSound l E H.size a wide tall groups tours tourLength rowMany cameBy top east south rolled off kind mark rolls many onward at_ goes firstTour rowWay rowSeen prints homeward (x3 / 8) (x3 - x3 / 8 * 8) _ hc_2) nx_FA qV_RX11_190 ⟨rfl, rfl⟩ ⟨Nat.le_of_ble_eq_true rfl, Nat.le_of_ble_eq_true rfl⟩ ⟨Nat.zero_le _, Nat.zero_le _⟩ 0 rfl rfl rfl rfl hl.1 (Nat.le_of_ble_eq_true rfl) dX11_layHome_39) hS nx_FA (fun H locs hP hS => ?_)
        refine lv_if_eq (tgt := 49) hx hb dX11_layHome_42 (by decide) (fun hc => ?_) (fun hc => ?_)
        · have h := nx_it h hc
          exact J49 _ _ _ h H locs ls hP hS (lv_sub hl [0, 1, 2, 3] rfl)
        · have h := nx_if h hc
          refine lv_iconst (v := 0) hx hb dX11_layHome_45 (by decide) ?_
          refine lv_goto (tgt := 51) hx hb dX11_layHome_46 (by decide) ?_
          exact J51 _ _ _ _ h H locs ls hP hS (lv_sub hl [0, 1, 2, 3] rfl)
  have L69 : ∀ (x2 : Int32) (n : Nat) (x3 : Int32) (x4 : Int32) (homeward : Nat → Int32) (z : (Int32 × (Nat → Int32))), f_X11_layHome_l69 x2 wide tall kind n (x3, x4, homeward) = some z → ∀ (H : Heap) (locs : List Loc) (ls : Array Slot), va_P E.1 vwCl (mW E a wide tall groups tours tourLength rowMany cameBy top east south rolled off kind mark rolls many onward at_ goes firstTour rowWay rowSeen prints homeward) H → va_S (nx_A a 18 s.heap.size) s.heap H locs → lv_has ls 6 [(0, .ref (a 0)), (2, .int x2), (3, .int x3), (4, .int x4)] → ∀ (kR : ∀ (H : Heap) (locs : List Loc) (ls : Array Slot), va_P E.1 vwCl (mW E a wide tall groups tours tourLength rowMany cameBy top east south rolled off kind mark rolls many onward at_ goes firstTour rowWay rowSeen prints (z.2)) H → va_S (nx_A a 18 s.heap.size) s.heap H locs → lv_has ls 6 [(0, .ref (a 0)), (2, .int x2), (3, .int z.1)] → W p l e (nx_rm 5 119) s m args below meth c H locs 0 0 Q (F0 m 145 ls [])), W p l e (nx_rm 5 119) s m args below meth c H locs 0 0 Q (F0 m 69 ls []) := by
   intro x2 n
   induction n with
   | zero => intro x3 x4 homeward z h; exact nomatch (show none = some z from h)
   | succ n ih =>
    intro x3 x4 homeward z h H locs ls hP hS hl kR
    have h : f_X11_layHome_b69 x2 wide tall kind (f_X11_layHome_l69 x2 wide tall kind n) x3 x4 homeward = some z := h
    unfold f_X11_layHome_b69 at h
    refine lv_iload hx hb dX11_layHome_69 (lv_at hl 3 rfl) ?_
    refine lv_iconst (v := 4) hx hb dX11_layHome_71 (by decide) ?_
    refine lv_iload_n hx hb dX11_layHome_72 rfl (lv_at hl 1 rfl) ?_
    refine lv_imul hx hb dX11_layHome_73 ?_
    refine lv_icmp_ge (tgt := 145) hx hb dX11_layHome_74 (by decide) (fun hc => ?_) (fun hc => ?_)
    · have h := nx_it h hc
      obtain rfl := Option.some.inj h
      exact kR H locs ls hP hS (lv_sub hl [0, 1, 2] rfl)
    · have h := nx_if h hc
      refine lv_aload_n hx hb dX11_layHome_77 rfl (lv_at hl 0 rfl) ?_
      refine lv_iload hx hb dX11_layHome_78 (lv_at hl 3 rfl) ?_
      refine lv_iconst (v := 4) hx hb dX11_layHome_80 (by decide) ?_
      refine lv_idiv hx hb dX11_layHome_81 (by decide) ?_
      refine lv_iload hx hb dX11_layHome_82 (lv_at hl 3 rfl) ?_
      refine lv_iconst (v := 4) hx hb dX11_layHome_84 (by decide) ?_
      refine lv_irem hx hb dX11_layHome_85 (by decide) ?_
      obtain ⟨r_5, hc_4, h⟩ := nx_bd h
      refine nx_ki (nx_runV (As := [.int (x4 / 4), .int (x4 - x4 / 4 * 4)]) (rest := []) X hS hP (c_X11_blockRoll l E H.size a wide tall groups tours tourLength rowMany cameBy top east south rolled off kind mark rolls many onward at_ goes firstTour rowWay rowSeen prints homeward (x4 / 4) (x4 - x4 / 4 * 4) _ hc_4) nx_FA qV_RX11_196 ⟨rfl, rfl⟩ ⟨Nat.le_of_ble_eq_true rfl, Nat.le_of_ble_eq_true rfl⟩ ⟨Nat.zero_le _, Nat.zero_le _⟩ 0 rfl rfl rfl rfl hl.1 (Nat.le_of_ble_eq_true rfl) dX11_layHome_86) hS nx_FA (fun H locs hP hS => ?_)
      refine lv_istore (lv' := [(5, .int r_5), (0, .ref (a 0)), (2, .int x2), (3, .int x3), (4, .int x4)]) hx hb dX11_layHome_89 hl (by decide) rfl (fun ls hl => ?_)
      refine lv_iload hx hb dX11_layHome_91 (lv_at hl 0 rfl) ?_
      refine lv_bipush (v := (-9)) hx hb dX11_layHome_93 (by decide) ?_
      refine lv_icmp_eq (tgt := 139) hx hb dX11_layHome_95 (by decide) (fun hc => ?_) (fun hc => ?_)
      · have h := nx_it h hc
        refine lv_iinc (v := (x4 + 1)) (lv' := [(4, .int (x4 + 1)), (5, .int r_5), (0, .ref (a 0)), (2, .int x2), (3, .int x3)]) hx hb dX11_layHome_139 hl (k := 4) rfl rfl (by decide) rfl (fun ls hl => ?_)
        refine lv_goto (tgt := 69) hx hb dX11_layHome_142 (by decide) ?_
        exact ih _ _ _ z h H locs ls hP hS (lv_sub hl [2, 3, 4, 0] rfl) kR
      · have h := nx_if h hc
        refine lv_aload_n hx hb dX11_layHome_98 rfl (lv_at hl 1 rfl) ?_
        refine nx_gf X hP uw_X11 (ci := 10) rfl 0 rfl 22 (by decide) wf_RX11_66 rfl dX11_layHome_99 ?_
        refine lv_iload hx hb dX11_layHome_102 (lv_at hl 0 rfl) ?_
        obtain ⟨hv_6, h⟩ := nx_rb h
        refine nx_ld X hP 17 rfl hv_6 dX11_layHome_104 ?_
        refine lv_iconst (v := 1) hx hb dX11_layHome_105 (by decide) ?_
        refine lv_iadd hx hb dX11_layHome_106 ?_
        refine lv_aload_n hx hb dX11_layHome_107 rfl (lv_at hl 1 rfl) ?_
        refine nx_gf X hP uw_X11 (ci := 10) rfl 0 rfl 22 (by decide) wf_RX11_66 rfl dX11_layHome_108 ?_
        refine lv_iload hx hb dX11_layHome_111 (lv_at hl 4 rfl) ?_
        refine lv_iconst (v := 4) hx hb dX11_layHome_113 (by decide) ?_
        refine lv_idiv hx hb dX11_layHome_114 (by decide) ?_
        obtain ⟨hv_8, h⟩ := nx_rb h
        refine nx_ld X hP 17 rfl hv_8 dX11_layHome_115 ?_
        refine lv_icmp_ge (tgt := 139) hx hb dX11_layHome_116 (by decide) (fun hc => ?_) (fun hc => ?_)
        · have h := nx_it h hc
          refine lv_iinc (v := (x4 + 1)) (lv' := [(4, .int (x4 + 1)), (5, .int r_5), (0, .ref (a 0)), (2, .int x2), (3, .int x3)]) hx hb dX11_layHome_139 hl (k := 4) rfl rfl (by decide) rfl (fun ls hl => ?_)
          refine lv_goto (tgt := 69) hx hb dX11_layHome_142 (by decide) ?_
          exact ih _ _ _ z h H locs ls hP hS (lv_sub hl [2, 3, 4, 0] rfl) kR
        · have h := nx_if h hc
          refine lv_aload_n hx hb dX11_layHome_119 rfl (lv_at hl 1 rfl) ?_
          refine nx_gf X hP uw_X11 (ci := 10) rfl 0 rfl 22 (by decide) wf_RX11_66 rfl dX11_layHome_120 ?_
          refine lv_iload hx hb dX11_layHome_123 (lv_at hl 4 rfl) ?_
          refine lv_iconst (v := 4) hx hb dX11_layHome_125 (by decide) ?_
          refine lv_idiv hx hb dX11_layHome_126 (by decide) ?_
          refine lv_aload_n hx hb dX11_layHome_127 rfl (lv_at hl 1 rfl) ?_
          refine nx_gf X hP uw_X11 (ci := 10) rfl 0 rfl 22 (by decide) wf_RX11_66 rfl dX11_layHome_128 ?_
          refine lv_iload hx hb dX11_layHome_131 (lv_at hl 0 rfl) ?_
          obtain ⟨hv_10, h⟩ := nx_rb h
          refine nx_ld X hP 17 rfl hv_10 dX11_layHome_133 ?_
          refine lv_iconst (v := 1) hx hb dX11_layHome_134 (by decide) ?_
          refine lv_iadd hx hb dX11_layHome_135 ?_
          obtain ⟨hv_12, h⟩ := nx_cb h
          refine nx_st X hI mW_ad hP hS 17 rfl hv_12 dX11_layHome_136 (fun H locs hP hS => ?_)
          have hP : va_P E.1 vwCl (mW E a wide tall groups tours tourLength rowMany cameBy top east south rolled off kind mark rolls many onward at_ goes firstTour rowWay rowSeen prints (upd homeward (x4 / 4).toNatClampNeg ((homeward r_5.toNatClampNeg) + 1))) H := hP
          refine lv_iconst (v := 1) hx hb dX11_layHome_137 (by decide) ?_
          refine lv_istore_n (lv' := [(3, .int 1), (5, .int r_5), (0, .ref (a 0)), (2, .int x2), (4, .int x4)]) hx hb dX11_layHome_138 rfl hl (by decide) rfl (fun ls hl => ?_)
          refine lv_iinc (v := (x4 + 1)) (lv' := [(4, .int (x4 + 1)), (3, .int 1), (5, .int r_5), (0, .ref (a 0)), (2, .int x2)]) hx hb dX11_layHome_139 hl (k := 4) rfl rfl (by decide) rfl (fun ls hl => ?_)
          refine lv_goto (tgt := 69) hx hb dX11_layHome_142 (by decide) ?_
          exact ih _ _ _ z h H locs ls hP hS (lv_sub hl [3, 4, 1, 0] rfl) kR
  have L60 : ∀ (x2 : Int32) (n : Nat) (x3 : Int32) (homeward : Nat → Int32) (z : ((Nat → Int32))), f_X11_layHome_l60 N x2 wide tall kind n (x3, homeward) = some z → ∀ (H : Heap) (locs : List Loc) (ls : Array Slot), va_P E.1 vwCl (mW E a wide tall groups tours tourLength rowMany cameBy top east south rolled off kind mark rolls many onward at_ goes firstTour rowWay rowSeen prints homeward) H → va_S (nx_A a 18 s.heap.size) s.heap H locs → lv_has ls 6 [(0, .ref (a 0)), (2, .int x2), (3, .int x3)] → ∀ (kR : ∀ (H : Heap) (locs : List Loc) (ls : Array Slot), va_P E.1 vwCl (mW E a wide tall groups tours tourLength rowMany cameBy top east south rolled off kind mark rolls many onward at_ goes firstTour rowWay rowSeen prints z) H → va_S (nx_A a 18 s.heap.size) s.heap H locs → lv_has ls 6 [(0, .ref (a 0))] → W p l e (nx_rm 5 119) s m args below meth c H locs 0 0 Q (F0 m 148 ls [])), W p l e (nx_rm 5 119) s m args below meth c H locs 0 0 Q (F0 m 60 ls []) := by
   intro x2 n
   induction n with
   | zero => intro x3 homeward z h; exact nomatch (show none = some z from h)
   | succ n ih =>
    intro x3 homeward z h H locs ls hP hS hl kR
    have h : f_X11_layHome_b60 N x2 wide tall kind (f_X11_layHome_l60 N x2 wide tall kind n) x3 homeward = some z := h
    unfold f_X11_layHome_b60 at h
    refine lv_iload_n hx hb dX11_layHome_60 rfl (lv_at hl 2 rfl) ?_
    refine lv_if_eq (tgt := 148) hx hb dX11_layHome_61 (by decide) (fun hc => ?_) (fun hc => ?_)
    · have h := nx_it h hc
      obtain rfl := Option.some.inj h
      exact kR H locs ls hP hS (lv_sub hl [0] rfl)
    · have h := nx_if h hc
      refine lv_iconst (v := 0) hx hb dX11_layHome_64 (by decide) ?_
      refine lv_istore_n (lv' := [(3, .int 0), (0, .ref (a 0)), (2, .int x2)]) hx hb dX11_layHome_65 rfl hl (by decide) rfl (fun ls hl => ?_)
      refine lv_iconst (v := 0) hx hb dX11_layHome_66 (by decide) ?_
      refine lv_istore (lv' := [(4, .int 0), (3, .int 0), (0, .ref (a 0)), (2, .int x2)]) hx hb dX11_layHome_67 hl (by decide) rfl (fun ls hl => ?_)
      obtain ⟨z_13, hz_14, h⟩ := nx_bd h
      refine L69 _ N _ _ _ _ hz_14 H locs ls hP hS (lv_sub hl [2, 3, 1, 0] rfl) (fun H locs ls hP hS hl => ?_)
      refine lv_goto (tgt := 60) hx hb dX11_layHome_145 (by decide) ?_
      exact ih _ _ z h H locs ls hP hS (lv_sub hl [0, 1, 2] rfl) kR
  unfold f_X11_layHome at h
  suffices hw : ∀ (H : Heap) (locs : List Loc), va_P E.1 vwCl (mW E a wide tall groups tours tourLength rowMany cameBy top east south rolled off kind mark rolls many onward at_ goes firstTour rowWay rowSeen prints homeward) H → va_S (nx_A a 18 s.heap.size) s.heap H locs → W p l e (nx_rm 5 119) s m args below meth c H locs 0 0 Q (F0 m 0 ls []) from hw _ _ hP va_S.rf
  intro H locs hP hS
  refine lv_bipush (v := 24) hx hb dX11_layHome_0 (by decide) ?_
  refine lv_aload_n hx hb dX11_layHome_2 rfl (lv_at hl 0 rfl) ?_
  obtain ⟨r_16, hc_15, h⟩ := nx_bd h
  refine nx_ki (nx_runV (As := []) (rest := [.int 24]) X hS hP (c_X11_cells l E H.size a wide tall groups tours tourLength rowMany cameBy top east south rolled off kind mark rolls many onward at_ goes firstTour rowWay rowSeen prints homeward _ hc_15) nx_FA qV_RX11_100 ⟨rfl, rfl⟩ ⟨Nat.le_of_ble_eq_true rfl, Nat.le_of_ble_eq_true rfl⟩ ⟨Nat.zero_le _, Nat.zero_le _⟩ 0 rfl rfl rfl rfl hl.1 (Nat.le_of_ble_eq_true rfl) dX11_layHome_3) hS nx_FA (fun H locs hP hS => ?_)
  refine lv_imul hx hb dX11_layHome_6 ?_
  refine lv_istore_n (lv' := [(2, .int (24 * r_16)), (0, .ref (a 0)), (1, .int x1)]) hx hb dX11_layHome_7 rfl hl (by decide) rfl (fun ls hl => ?_)
  refine lv_iconst (v := 0) hx hb dX11_layHome_8 (by decide) ?_
  refine lv_istore_n (lv' := [(3, .int 0), (2, .int (24 * r_16)), (0, .ref (a 0)), (1, .int x1)]) hx hb dX11_layHome_9 rfl hl (by decide) rfl (fun ls hl => ?_)
  obtain ⟨z_17, hz_18, h⟩ := nx_bd h
  refine L10 _ _ N _ _ _ hz_18 H locs ls hP hS (lv_sub hl [2, 3, 1, 0] rfl) (fun H locs ls hP hS hl => ?_)
  refine lv_iconst (v := 1) hx hb dX11_layHome_58 (by decide) ?_
  refine lv_istore_n (lv' := [(3, .int 1), (0, .ref (a 0)), (2, .int (24 * r_16))]) hx hb dX11_layHome_59 rfl hl (by decide) rfl (fun ls hl => ?_)
  obtain ⟨z_19, hz_20, h⟩ := nx_bd h
  refine L60 _ N _ _ _ hz_20 H locs ls hP hS (lv_sub hl [1, 2, 0] rfl) (fun H locs ls hP hS hl => ?_)
  exact kr 148 ls z_19 H locs dX11_layHome_148 (Option.some.inj h) hP hS
def f_X11_home (N : Nat) (x1 : Int32) (x2 : Int32) (wide : Int32) (tall : Int32) (groups : Int32) (kind : Nat → Int32) (homeward : Nat → Int32) : Option (Int32 × ((Nat → Int32))) :=
  (f_X11_isPlace x1 wide tall).bind fun r_2 => if r_2 = 0 then (some ((-1), homeward)) else ((f_X11_isCell x2 wide tall).bind fun r_4 => if r_4 = 0 then (some ((-1), homeward)) else ((f_X11_layHome N x2 wide tall kind homeward).bind fun k_6 => (nx_rd k_6 600 ((8 * x1) + groups)).bind fun _ => if (k_6 ((8 * x1) + groups).toNatClampNeg) = 100000000 then (some ((-9), k_6)) else (some ((k_6 ((8 * x1) + groups).toNatClampNeg), k_6))))
set_option maxHeartbeats 4000000 in
set_option maxRecDepth 100000 in
theorem c_X11_home (l : Launch) (N : Nat) (E : nx_E) (sz : Nat) (a : Nat → Nat) (wide : Int32) (tall : Int32) (groups : Int32) (tours : Int32) (tourLength : Int32) (rowMany : Int32) (cameBy : Int32) (top : Nat → Int32) (east : Nat → Int32) (south : Nat → Int32) (rolled : Nat → Int32) (off : Nat → Int32) (kind : Nat → Int32) (mark : Nat → Int32) (rolls : Nat → Int32) (many : Nat → Int64) (onward : Nat → Int32) (at_ : Nat → Int32) (goes : Nat → Int32) (firstTour : Nat → Int32) (rowWay : Nat → Int32) (rowSeen : Nat → Int32) (prints : Nat → Int32) (homeward : Nat → Int32) (x1 : Int32) (x2 : Int32) (hI : nx_inj a 18) (o : Int32 × ((Nat → Int32))) (h : f_X11_home N x1 x2 wide tall groups kind homeward = some o) : Met l yX11_home (.code yX11_home cX11_home 4 (some .int) :: nx_T) (nx_rm 6 144) (va_Pc [.ref (a 0), .int x1, .int x2] (nx_P E (nx_A a 18 sz) sz (mW E a wide tall groups tours tourLength rowMany cameBy top east south rolled off kind mark rolls many onward at_ goes firstTour rowWay rowSeen prints homeward))) (va_Qi (fun v u => (v, u) = o) (fun u t => va_P E.1 vwCl (mW E a wide tall groups tours tourLength rowMany cameBy top east south rolled off kind mark rolls many onward at_ goes firstTour rowWay rowSeen prints u) t.heap) (nx_A a 18 sz)) 0 0 (nx_A a 18 sz) := by
  refine nx_enI (fun v u => (v, u) = o) (fun (u : (Nat → Int32)) => (mW E a wide tall groups tours tourLength rowMany cameBy top east south rolled off kind mark rolls many onward at_ goes firstTour rowWay rowSeen prints u)) (by decide) (Nat.le_of_ble_eq_true rfl) ?_
  intro p e s m below meth c Q X kr hsz hP ls hl
  subst hsz
  generalize hargs : (List.toArray [.ref (a 0), .int x1, .int x2] : Array Value) = args at X kr ⊢
  clear hargs
  obtain ⟨⟨hx, hb, hml, hown, hts⟩, hK, hSt, hNz⟩ := id X
  have hS : va_S (nx_A a 18 s.heap.size) s.heap s.heap [] := va_S.rf
  have hl : lv_has ls 4 [(0, .ref (a 0)), (1, .int x1), (2, .int x2)] := hl
  unfold f_X11_home at h
  suffices hw : ∀ (H : Heap) (locs : List Loc), va_P E.1 vwCl (mW E a wide tall groups tours tourLength rowMany cameBy top east south rolled off kind mark rolls many onward at_ goes firstTour rowWay rowSeen prints homeward) H → va_S (nx_A a 18 s.heap.size) s.heap H locs → W p l e (nx_rm 6 144) s m args below meth c H locs 0 0 Q (F0 m 0 ls []) from hw _ _ hP va_S.rf
  intro H locs hP hS
  refine lv_aload_n hx hb dX11_home_0 rfl (lv_at hl 0 rfl) ?_
  refine lv_iload_n hx hb dX11_home_1 rfl (lv_at hl 1 rfl) ?_
  obtain ⟨r_2, hc_1, h⟩ := nx_bd h
  refine nx_ki (nx_runV (As := [.int x1]) (rest := []) X hS hP (c_X11_isPlace l E H.size a wide tall groups tours tourLength rowMany cameBy top east south rolled off kind mark rolls many onward at_ goes firstTour rowWay rowSeen prints homeward x1 _ hc_1) nx_FA qV_RX11_187 ⟨rfl, rfl⟩ ⟨Nat.le_of_ble_eq_true rfl, Nat.le_of_ble_eq_true rfl⟩ ⟨Nat.zero_le _, Nat.zero_le _⟩ 0 rfl rfl rfl rfl hl.1 (Nat.le_of_ble_eq_true rfl) dX11_home_2) hS nx_FA (fun H locs hP hS => ?_)
  refine lv_if_eq (tgt := 16) hx hb dX11_home_5 (by decide) (fun hc => ?_) (fun hc => ?_)
  · have h := nx_it h hc
    refine lv_iconst (v := (-1)) hx hb dX11_home_16 (by decide) ?_
    exact kr 17 ls (-1) homeward H locs dX11_home_17 (Option.some.inj h) hP hS
  · have h := nx_if h hc
    refine lv_aload_n hx hb dX11_home_8 rfl (lv_at hl 0 rfl) ?_
    refine lv_iload_n hx hb dX11_home_9 rfl (lv_at hl 2 rfl) ?_
    obtain ⟨r_4, hc_3, h⟩ := nx_bd h
    refine nx_ki (nx_runV (As := [.int x2]) (rest := []) X hS hP (c_X11_isCell l E H.size a wide tall groups tours tourLength rowMany cameBy top east south rolled off kind mark rolls many onward at_ goes firstTour rowWay rowSeen prints homeward x2 _ hc_3) nx_FA qV_RX11_111 ⟨rfl, rfl⟩ ⟨Nat.le_of_ble_eq_true rfl, Nat.le_of_ble_eq_true rfl⟩ ⟨Nat.zero_le _, Nat.zero_le _⟩ 0 rfl rfl rfl rfl hl.1 (Nat.le_of_ble_eq_true rfl) dX11_home_10) hS nx_FA (fun H locs hP hS => ?_)
    refine lv_if_ne (tgt := 18) hx hb dX11_home_13 (by decide) (fun hc => ?_) (fun hc => ?_)
    · have h := nx_if h hc
      refine lv_aload_n hx hb dX11_home_18 rfl (lv_at hl 0 rfl) ?_
      refine lv_iload_n hx hb dX11_home_19 rfl (lv_at hl 2 rfl) ?_
      obtain ⟨k_6, hc_5, h⟩ := nx_bd h
      refine nx_kv (nx_runV (As := [.int x2]) (rest := []) X hS hP (c_X11_layHome l N E H.size a wide tall groups tours tourLength rowMany cameBy top east south rolled off kind mark rolls many onward at_ goes firstTour rowWay rowSeen prints homeward x2 hI _ hc_5) (nx_Am hS.1) qV_RX11_199 ⟨rfl, rfl⟩ ⟨Nat.le_of_ble_eq_true rfl, Nat.le_of_ble_eq_true rfl⟩ ⟨Nat.zero_le _, Nat.zero_le _⟩ 0 rfl rfl rfl rfl hl.1 (Nat.le_of_ble_eq_true rfl) dX11_home_20) hS (nx_Am hS.1) (fun H locs hP hS => ?_)
      have hP : va_P E.1 vwCl (mW E a wide tall groups tours tourLength rowMany cameBy top east south rolled off kind mark rolls many onward at_ goes firstTour rowWay rowSeen prints k_6) H := hP
      refine lv_aload_n hx hb dX11_home_23 rfl (lv_at hl 0 rfl) ?_
      refine nx_gf X hP uw_X11 (ci := 10) rfl 0 rfl 22 (by decide) wf_RX11_66 rfl dX11_home_24 ?_
      refine lv_bipush (v := 8) hx hb dX11_home_27 (by decide) ?_
      refine lv_iload_n hx hb dX11_home_29 rfl (lv_at hl 1 rfl) ?_
      refine lv_imul hx hb dX11_home_30 ?_
      refine lv_aload_n hx hb dX11_home_31 rfl (lv_at hl 0 rfl) ?_
      refine nx_gf X hP uw_X11 (ci := 10) rfl 0 rfl 9 (by decide) wf_RX11_108 rfl dX11_home_32 ?_
      refine lv_iadd hx hb dX11_home_35 ?_
      obtain ⟨hv_7, h⟩ := nx_rb h
      refine nx_ld X hP 17 rfl hv_7 dX11_home_36 ?_
      refine lv_istore_n (lv' := [(3, .int (k_6 ((8 * x1) + groups).toNatClampNeg)), (0, .ref (a 0)), (1, .int x1), (2, .int x2)]) hx hb dX11_home_37 rfl hl (by decide) rfl (fun ls hl => ?_)
      refine lv_iload_n hx hb dX11_home_38 rfl (lv_at hl 0 rfl) ?_
      refine lv_ldc hx hb hown (hts _ wk_RX11_99) dX11_home_39 ?_
      refine lv_icmp_ne (tgt := 49) hx hb dX11_home_41 (by decide) (fun hc => ?_) (fun hc => ?_)
      · have h := nx_if h hc
        refine lv_iload_n hx hb dX11_home_49 rfl (lv_at hl 0 rfl) ?_
        exact kr 50 ls (k_6 ((8 * x1) + groups).toNatClampNeg) k_6 H locs dX11_home_50 (Option.some.inj h) hP hS
      · have h := nx_it h hc
        refine lv_bipush (v := (-9)) hx hb dX11_home_44 (by decide) ?_
        refine lv_goto (tgt := 50) hx hb dX11_home_46 (by decide) ?_
        exact kr 50 ls (-9) k_6 H locs dX11_home_50 (Option.some.inj h) hP hS
    · have h := nx_it h hc
      refine lv_iconst (v := (-1)) hx hb dX11_home_16 (by decide) ?_
      exact kr 17 ls (-1) homeward H locs dX11_home_17 (Option.some.inj h) hP hS
def f_X11_homeStep_b2 (x1 : Int32) (wide : Int32) (tall : Int32) (kind : Nat → Int32) (homeward : Nat → Int32) (rec : (Int32) → Option (Int32)) (x2 : Int32) : Option (Int32) :=
  (f_X11_blockRoll x1 x2 wide tall kind).bind fun r_2 => if r_2 = (-9) then (rec (x2 + 1)) else ((f_X11_blockRoll x1 x2 wide tall kind).bind fun r_4 => (nx_rd homeward 600 r_4).bind fun _ => (nx_rd homeward 600 x1).bind fun _ => if (homeward r_4.toNatClampNeg) = ((homeward x1.toNatClampNeg) - 1) then (some x2) else (rec (x2 + 1)))
def f_X11_homeStep_l2 (x1 : Int32) (wide : Int32) (tall : Int32) (kind : Nat → Int32) (homeward : Nat → Int32) : Nat → (Int32) → Option (Int32) := nx_lp (fun rec z => f_X11_homeStep_b2 x1 wide tall kind homeward rec z)
def f_X11_homeStep (N : Nat) (x1 : Int32) (wide : Int32) (tall : Int32) (cameBy : Int32) (kind : Nat → Int32) (homeward : Nat → Int32) : Option (Int32 × (Int32)) :=
  (f_X11_homeStep_l2 x1 wide tall kind homeward N 0).bind fun z_9 => (f_X11_blockRoll x1 z_9 wide tall kind).bind fun r_12 => some (r_12, z_9)
set_option maxHeartbeats 4000000 in
set_option maxRecDepth 100000 in
theorem c_X11_homeStep (l : Launch) (N : Nat) (E : nx_E) (sz : Nat) (a : Nat → Nat) (wide : Int32) (tall : Int32) (groups : Int32) (tours : Int32) (tourLength : Int32) (rowMany : Int32) (cameBy : Int32) (top : Nat → Int32) (east : Nat → Int32) (south : Nat → Int32) (rolled : Nat → Int32) (off : Nat → Int32) (kind : Nat → Int32) (mark : Nat → Int32) (rolls : Nat → Int32) (many : Nat → Int64) (onward : Nat → Int32) (at_ : Nat → Int32) (goes : Nat → Int32) (firstTour : Nat → Int32) (rowWay : Nat → Int32) (rowSeen : Nat → Int32) (prints : Nat → Int32) (homeward : Nat → Int32) (x1 : Int32) (hI : nx_inj a 18) (o : Int32 × (Int32)) (h : f_X11_homeStep N x1 wide tall cameBy kind homeward = some o) : Met l yX11_homeStep (.code yX11_homeStep cX11_homeStep 3 (some .int) :: nx_T) (nx_rm 5 119) (va_Pc [.ref (a 0), .int x1] (nx_P E (nx_A a 18 sz) sz (mW E a wide tall groups tours tourLength rowMany cameBy top east south rolled off kind mark rolls many onward at_ goes firstTour rowWay rowSeen prints homeward))) (va_Qi (fun v u => (v, u) = o) (fun u t => va_P E.1 vwCl (mW E a wide tall groups tours tourLength rowMany u top east south rolled off kind mark rolls many onward at_ goes firstTour rowWay rowSeen prints homeward) t.heap) (nx_A a 18 sz)) 0 0 (nx_A a 18 sz) := by
  refine nx_enI (fun v u => (v, u) = o) (fun (u : Int32) => (mW E a wide tall groups tours tourLength rowMany u top east south rolled off kind mark rolls many onward at_ goes firstTour rowWay rowSeen prints homeward)) (by decide) (Nat.le_of_ble_eq_true rfl) ?_
  intro p e s m below meth c Q X kr hsz hP ls hl
  subst hsz
  generalize hargs : (List.toArray [.ref (a 0), .int x1] : Array Value) = args at X kr ⊢
  clear hargs
  obtain ⟨⟨hx, hb, hml, hown, hts⟩, hK, hSt, hNz⟩ := id X
  have hS : va_S (nx_A a 18 s.heap.size) s.heap s.heap [] := va_S.rf
  have hl : lv_has ls 3 [(0, .ref (a 0)), (1, .int x1)] := hl
  have L2 : ∀ (x1 : Int32) (cameBy : Int32) (n : Nat) (x2 : Int32) (z : (Int32)), f_X11_homeStep_l2 x1 wide tall kind homeward n x2 = some z → ∀ (H : Heap) (locs : List Loc) (ls : Array Slot), va_P E.1 vwCl (mW E a wide tall groups tours tourLength rowMany cameBy top east south rolled off kind mark rolls many onward at_ goes firstTour rowWay rowSeen prints homeward) H → va_S (nx_A a 18 s.heap.size) s.heap H locs → lv_has ls 3 [(0, .ref (a 0)), (1, .int x1), (2, .int x2)] → ∀ (kR : ∀ (H : Heap) (locs : List Loc) (ls : Array Slot), va_P E.1 vwCl (mW E a wide tall groups tours tourLength rowMany cameBy top east south rolled off kind mark rolls many onward at_ goes firstTour rowWay rowSeen prints homeward) H → va_S (nx_A a 18 s.heap.size) s.heap H locs → lv_has ls 3 [(0, .ref (a 0)), (1, .int x1), (2, .int z)] → W p l e (nx_rm 5 119) s m args below meth c H locs 0 0 Q (F0 m 41 ls [])), W p l e (nx_rm 5 119) s m args below meth c H locs 0 0 Q (F0 m 2 ls []) := by
   intro x1 cameBy n
   induction n with
   | zero => intro x2 z h; exact nomatch (show none = some z from h)
   | succ n ih =>
    intro x2 z h H locs ls hP hS hl kR
    have h : f_X11_homeStep_b2 x1 wide tall kind homeward (f_X11_homeStep_l2 x1 wide tall kind homeward n) x2 = some z := h
    unfold f_X11_homeStep_b2 at h
    refine lv_aload_n hx hb dX11_homeStep_2 rfl (lv_at hl 0 rfl) ?_
    refine lv_iload_n hx hb dX11_homeStep_3 rfl (lv_at hl 1 rfl) ?_
    refine lv_iload_n hx hb dX11_homeStep_4 rfl (lv_at hl 2 rfl) ?_
    obtain ⟨r_2, hc_1, h⟩ := nx_bd h
    refine nx_ki (nx_runV (As := [.int x1, .int x2]) (rest := []) X hS hP (c_X11_blockRoll l E H.size a wide tall groups tours tourLength rowMany cameBy top east south rolled off kind mark rolls many onward at_ goes firstTour rowWay rowSeen prints homeward x1 x2 _ hc_1) nx_FA qV_RX11_196 ⟨rfl, rfl⟩ ⟨Nat.le_of_ble_eq_true rfl, Nat.le_of_ble_eq_true rfl⟩ ⟨Nat.zero_le _, Nat.zero_le _⟩ 0 rfl rfl rfl rfl hl.1 (Nat.le_of_ble_eq_true rfl) dX11_homeStep_5) hS nx_FA (fun H locs hP hS => ?_)
    refine lv_bipush (v := (-9)) hx hb dX11_homeStep_8 (by decide) ?_
    refine lv_icmp_eq (tgt := 35) hx hb dX11_homeStep_10 (by decide) (fun hc => ?_) (fun hc => ?_)
    · have h := nx_it h hc
      refine lv_iinc (v := (x2 + 1)) (lv' := [(2, .int (x2 + 1)), (0, .ref (a 0)), (1, .int x1)]) hx hb dX11_homeStep_35 hl (k := 2) rfl rfl (by decide) rfl (fun ls hl => ?_)
      refine lv_goto (tgt := 2) hx hb dX11_homeStep_38 (by decide) ?_
      exact ih _ z h H locs ls hP hS (lv_sub hl [1, 2, 0] rfl) kR
    · have h := nx_if h hc
      refine lv_aload_n hx hb dX11_homeStep_13 rfl (lv_at hl 0 rfl) ?_
      refine nx_gf X hP uw_X11 (ci := 10) rfl 0 rfl 22 (by decide) wf_RX11_66 rfl dX11_homeStep_14 ?_
      refine lv_aload_n hx hb dX11_homeStep_17 rfl (lv_at hl 0 rfl) ?_
      refine lv_iload_n hx hb dX11_homeStep_18 rfl (lv_at hl 1 rfl) ?_
      refine lv_iload_n hx hb dX11_homeStep_19 rfl (lv_at hl 2 rfl) ?_
      obtain ⟨r_4, hc_3, h⟩ := nx_bd h
      refine nx_ki (nx_runV (As := [.int x1, .int x2]) (rest := [.ref (a 17)]) X hS hP (c_X11_blockRoll l E H.size a wide tall groups tours tourLength rowMany cameBy top east south rolled off kind mark rolls many onward at_ goes firstTour rowWay rowSeen prints homeward x1 x2 _ hc_3) nx_FA qV_RX11_196 ⟨rfl, rfl⟩ ⟨Nat.le_of_ble_eq_true rfl, Nat.le_of_ble_eq_true rfl⟩ ⟨Nat.zero_le _, Nat.zero_le _⟩ 0 rfl rfl rfl rfl hl.1 (Nat.le_of_ble_eq_true rfl) dX11_homeStep_20) hS nx_FA (fun H locs hP hS => ?_)
      obtain ⟨hv_5, h⟩ := nx_rb h
      refine nx_ld X hP 17 rfl hv_5 dX11_homeStep_23 ?_
      refine lv_aload_n hx hb dX11_homeStep_24 rfl (lv_at hl 0 rfl) ?_
      refine nx_gf X hP uw_X11 (ci := 10) rfl 0 rfl 22 (by decide) wf_RX11_66 rfl dX11_homeStep_25 ?_
      refine lv_iload_n hx hb dX11_homeStep_28 rfl (lv_at hl 1 rfl) ?_
      obtain ⟨hv_7, h⟩ := nx_rb h
      refine nx_ld X hP 17 rfl hv_7 dX11_homeStep_29 ?_
      refine lv_iconst (v := 1) hx hb dX11_homeStep_30 (by decide) ?_
      refine lv_isub hx hb dX11_homeStep_31 ?_
      refine lv_icmp_eq (tgt := 41) hx hb dX11_homeStep_32 (by decide) (fun hc => ?_) (fun hc => ?_)
      · have h := nx_it h hc
        obtain rfl := Option.some.inj h
        exact kR H locs ls hP hS (lv_sub hl [0, 1, 2] rfl)
      · have h := nx_if h hc
        refine lv_iinc (v := (x2 + 1)) (lv' := [(2, .int (x2 + 1)), (0, .ref (a 0)), (1, .int x1)]) hx hb dX11_homeStep_35 hl (k := 2) rfl rfl (by decide) rfl (fun ls hl => ?_)
        refine lv_goto (tgt := 2) hx hb dX11_homeStep_38 (by decide) ?_
        exact ih _ z h H locs ls hP hS (lv_sub hl [1, 2, 0] rfl) kR
  unfold f_X11_homeStep at h
  suffices hw : ∀ (H : Heap) (locs : List Loc), va_P E.1 vwCl (mW E a wide tall groups tours tourLength rowMany cameBy top east south rolled off kind mark rolls many onward at_ goes firstTour rowWay rowSeen prints homeward) H → va_S (nx_A a 18 s.heap.size) s.heap H locs → W p l e (nx_rm 5 119) s m args below meth c H locs 0 0 Q (F0 m 0 ls []) from hw _ _ hP va_S.rf
  intro H locs hP hS
  refine lv_iconst (v := 0) hx hb dX11_homeStep_0 (by decide) ?_
  refine lv_istore_n (lv' := [(2, .int 0), (0, .ref (a 0)), (1, .int x1)]) hx hb dX11_homeStep_1 rfl hl (by decide) rfl (fun ls hl => ?_)
  obtain ⟨z_9, hz_10, h⟩ := nx_bd h
  refine L2 _ _ N _ _ hz_10 H locs ls hP hS (lv_sub hl [1, 2, 0] rfl) (fun H locs ls hP hS hl => ?_)
  refine lv_aload_n hx hb dX11_homeStep_41 rfl (lv_at hl 0 rfl) ?_
  refine lv_iload_n hx hb dX11_homeStep_42 rfl (lv_at hl 2 rfl) ?_
  refine nx_pf (ty := .int) (v := .int z_9) X hI mW_ad hP hS uw_X11 tyX11 tyX11_ok nmX11 (ci := 10) rfl 0 rfl 23 (by decide) wf_RX11_202 rfl (by decide +kernel) rfl rfl (Nat.le_of_ble_eq_true rfl) dX11_homeStep_43 (fun H locs hP hS => ?_)
  have hP : va_P E.1 vwCl (mW E a wide tall groups tours tourLength rowMany z_9 top east south rolled off kind mark rolls many onward at_ goes firstTour rowWay rowSeen prints homeward) H := hP
  refine lv_aload_n hx hb dX11_homeStep_46 rfl (lv_at hl 0 rfl) ?_
  refine lv_iload_n hx hb dX11_homeStep_47 rfl (lv_at hl 1 rfl) ?_
  refine lv_iload_n hx hb dX11_homeStep_48 rfl (lv_at hl 2 rfl) ?_
  obtain ⟨r_12, hc_11, h⟩ := nx_bd h
  refine nx_ki (nx_runV (As := [.int x1, .int z_9]) (rest := []) X hS hP (c_X11_blockRoll l E H.size a wide tall groups tours tourLength rowMany z_9 top east south rolled off kind mark rolls many onward at_ goes firstTour rowWay rowSeen prints homeward x1 z_9 _ hc_11) nx_FA qV_RX11_196 ⟨rfl, rfl⟩ ⟨Nat.le_of_ble_eq_true rfl, Nat.le_of_ble_eq_true rfl⟩ ⟨Nat.zero_le _, Nat.zero_le _⟩ 0 rfl rfl rfl rfl hl.1 (Nat.le_of_ble_eq_true rfl) dX11_homeStep_49) hS nx_FA (fun H locs hP hS => ?_)
  exact kr 52 ls r_12 z_9 H locs dX11_homeStep_52 (Option.some.inj h) hP hS
