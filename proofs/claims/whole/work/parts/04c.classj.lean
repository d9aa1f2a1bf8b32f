def f_X10_start (N : Nat) (x1 : Int32) (size : Int32) (on : Int32) (kinds : Nat → Int32) (marks : Nat → Int32) (nb : Nat → Int32) (plen : Int32) (rowW : Nat → Int32) (rowS : Nat → Int32) : Option (Int32) :=
  (f_X7_fittingAt N x1 size on kinds marks nb plen rowW rowS).bind fun r_2 => (f_X10_noneIfNowhere r_2).bind fun r_4 => some r_4
set_option maxHeartbeats 4000000 in
set_option maxRecDepth 100000 in
theorem c_X10_start (l : Launch) (N : Nat) (E : nx_E) (sz : Nat) (a : Nat → Nat) (size : Int32) (on : Int32) (kinds : Nat → Int32) (marks : Nat → Int32) (nb : Nat → Int32) (reached : Int32) (dist : Nat → Int32) (lastW : Nat → Int32) (par : Nat → Int32) (ord : Nat → Int32) (paths : Nat → Int64) (costs : Nat → Int32) (wanted : Int32) (tlen : Int32) (onlyF : Int32) (found : Int32) (steps : Nat → Int32) (plen : Int32) (rowW : Nat → Int32) (rowS : Nat → Int32) (tally : Nat → Int32) (x1 : Int32) (o : Int32) (h : f_X10_start N x1 size on kinds marks nb plen rowW rowS = some o) : Met l yX10_start (.code yX10_start cX10_start 2 (some .int) :: nx_T) (nx_rm 5 117) (va_Pc [.ref (a 0), .int x1] (nx_P E (nx_F) sz (cW E a size on kinds marks nb reached dist lastW par ord paths costs wanted tlen onlyF found steps plen rowW rowS tally))) (va_Qi (fun v (_ : Unit) => v = o) (fun _ t => va_P E.1 vwCl (cW E a size on kinds marks nb reached dist lastW par ord paths costs wanted tlen onlyF found steps plen rowW rowS tally) t.heap) (nx_F)) 0 0 (nx_F) := by
  refine nx_enI (fun v (_ : Unit) => v = o) (fun (_ : Unit) => (cW E a size on kinds marks nb reached dist lastW par ord paths costs wanted tlen onlyF found steps plen rowW rowS tally)) (by decide) (Nat.le_of_ble_eq_true rfl) ?_
  intro p e s m below meth c Q X kr hsz hP ls hl
  subst hsz
  generalize hargs : (List.toArray [.ref (a 0), .int x1] : Array Value) = args at X kr ⊢
  clear hargs
  obtain ⟨⟨hx, hb, hml, hown, hts⟩, hK, hSt, hNz⟩ := id X
  have hS : va_S (nx_F) s.heap s.heap [] := va_S.rf
  have hl : lv_has ls 2 [(0, .ref (a 0)), (1, .int x1)] := hl
  unfold f_X10_start at h
  suffices hw : ∀ (H : Heap) (locs : List Loc), va_P E.1 vwCl (cW E a size on kinds marks nb reached dist lastW par ord paths costs wanted tlen onlyF found steps plen rowW rowS tally) H → va_S (nx_F) s.heap H locs → W p l e (nx_rm 5 117) s m args below meth c H locs 0 0 Q (F0 m 0 ls []) from hw _ _ hP va_S.rf
  intro H locs hP hS
  refine lv_aload_n hx hb dX10_start_0 rfl (lv_at hl 0 rfl) ?_
  refine nx_gf X hP uw_X10 (ci := 9) rfl 0 rfl 6 (by decide) wf_RX10_60 rfl dX10_start_1 ?_
  refine lv_iload_n hx hb dX10_start_4 rfl (lv_at hl 1 rfl) ?_
  obtain ⟨r_2, hc_1, h⟩ := nx_bd h
  refine nx_ki (nx_runV (As := [.int x1]) (rest := []) X hS hP (c_X7_fittingAt l N E H.size a size on kinds marks nb reached dist lastW par ord paths costs wanted tlen onlyF found steps plen rowW rowS tally x1 _ hc_1) nx_FA qV_RX10_200 ⟨rfl, rfl⟩ ⟨Nat.le_of_ble_eq_true rfl, Nat.le_of_ble_eq_true rfl⟩ ⟨Nat.zero_le _, Nat.zero_le _⟩ 17 rfl rfl rfl rfl hl.1 (Nat.le_of_ble_eq_true rfl) dX10_start_5) hS nx_FA (fun H locs hP hS => ?_)
  obtain ⟨r_4, hc_3, h⟩ := nx_bd h
  refine nx_ki (nx_runS (As := [.int r_2]) (rest := []) X hS hP (c_X10_noneIfNowhere l E H.size _ r_2 _ hc_3) nx_FA qS_RX10_146 ⟨rfl, rfl⟩ ⟨Nat.le_of_ble_eq_true rfl, Nat.le_of_ble_eq_true rfl⟩ ⟨Nat.zero_le _, Nat.zero_le _⟩ rfl rfl hl.1 (Nat.le_of_ble_eq_true rfl) dX10_start_8) hS nx_FA (fun H locs hP hS => ?_)
  exact kr 11 ls r_4 () H locs dX10_start_11 (Option.some.inj h) hP hS
def f_X7_toldOf (x0 : Int32) (x1 : Int32) (x2 : Int32)  : Option (Int32) :=
  if x2 = 0 then ((f_X4_cellOf x1).bind fun r_8 => some r_8) else (if x2 = 1 then ((f_X4_stanceOf x1).bind fun r_4 => (f_X3_topOf r_4).bind fun r_6 => some r_6) else ((f_X4_cellOf x0).bind fun r_2 => some r_2))
set_option maxHeartbeats 4000000 in
set_option maxRecDepth 100000 in
theorem c_X7_toldOf (l : Launch) (E : nx_E) (sz : Nat) (ws : va_W) (x0 : Int32) (x1 : Int32) (x2 : Int32) (o : Int32) (h : f_X7_toldOf x0 x1 x2 = some o) : Met l yX7_toldOf (.code yX7_toldOf cX7_toldOf 3 (some .int) :: nx_T) (nx_rm 1 20) (va_Pc [.int x0, .int x1, .int x2] (nx_P E (nx_F) sz ws)) (va_Qi (fun v (_ : Unit) => v = o) (fun _ t => va_P E.1 vwCl ws t.heap) (nx_F)) 0 0 (nx_F) := by
  refine nx_enI (fun v (_ : Unit) => v = o) (fun (_ : Unit) => ws) (by decide) (Nat.le_of_ble_eq_true rfl) ?_
  intro p e s m below meth c Q X kr hsz hP ls hl
  subst hsz
  generalize hargs : (List.toArray [.int x0, .int x1, .int x2] : Array Value) = args at X kr ⊢
  clear hargs
  obtain ⟨⟨hx, hb, hml, hown, hts⟩, hK, hSt, hNz⟩ := id X
  have hS : va_S (nx_F) s.heap s.heap [] := va_S.rf
  have hl : lv_has ls 3 [(0, .int x0), (1, .int x1), (2, .int x2)] := hl
  unfold f_X7_toldOf at h
  suffices hw : ∀ (H : Heap) (locs : List Loc), va_P E.1 vwCl ws H → va_S (nx_F) s.heap H locs → W p l e (nx_rm 1 20) s m args below meth c H locs 0 0 Q (F0 m 0 ls []) from hw _ _ hP va_S.rf
  intro H locs hP hS
  refine lv_iload_n hx hb dX7_toldOf_0 rfl (lv_at hl 2 rfl) ?_
  refine lv_if_ne (tgt := 9) hx hb dX7_toldOf_1 (by decide) (fun hc => ?_) (fun hc => ?_)
  · have h := nx_if h hc
    refine lv_iload_n hx hb dX7_toldOf_9 rfl (lv_at hl 2 rfl) ?_
    refine lv_iconst (v := 1) hx hb dX7_toldOf_10 (by decide) ?_
    refine lv_icmp_ne (tgt := 24) hx hb dX7_toldOf_11 (by decide) (fun hc => ?_) (fun hc => ?_)
    · have h := nx_if h hc
      refine lv_iload_n hx hb dX7_toldOf_24 rfl (lv_at hl 0 rfl) ?_
      obtain ⟨r_2, hc_1, h⟩ := nx_bd h
      refine nx_ki (nx_runS (As := [.int x0]) (rest := []) X hS hP (c_X4_cellOf l E H.size _ x0 _ hc_1) nx_FA qS_RX7_49 ⟨rfl, rfl⟩ ⟨Nat.le_of_ble_eq_true rfl, Nat.le_of_ble_eq_true rfl⟩ ⟨Nat.zero_le _, Nat.zero_le _⟩ rfl rfl hl.1 (Nat.le_of_ble_eq_true rfl) dX7_toldOf_25) hS nx_FA (fun H locs hP hS => ?_)
      exact kr 28 ls r_2 () H locs dX7_toldOf_28 (Option.some.inj h) hP hS
    · have h := nx_it h hc
      refine lv_iload_n hx hb dX7_toldOf_14 rfl (lv_at hl 1 rfl) ?_
      obtain ⟨r_4, hc_3, h⟩ := nx_bd h
      refine nx_ki (nx_runS (As := [.int x1]) (rest := []) X hS hP (c_X4_stanceOf l E H.size _ x1 _ hc_3) nx_FA qS_RX7_54 ⟨rfl, rfl⟩ ⟨Nat.le_of_ble_eq_true rfl, Nat.le_of_ble_eq_true rfl⟩ ⟨Nat.zero_le _, Nat.zero_le _⟩ rfl rfl hl.1 (Nat.le_of_ble_eq_true rfl) dX7_toldOf_15) hS nx_FA (fun H locs hP hS => ?_)
      obtain ⟨r_6, hc_5, h⟩ := nx_bd h
      refine nx_ki (nx_runS (As := [.int r_4]) (rest := []) X hS hP (c_X3_topOf l E H.size _ r_4 _ hc_5) nx_FA qS_RX7_57 ⟨rfl, rfl⟩ ⟨Nat.le_of_ble_eq_true rfl, Nat.le_of_ble_eq_true rfl⟩ ⟨Nat.zero_le _, Nat.zero_le _⟩ rfl rfl hl.1 (Nat.le_of_ble_eq_true rfl) dX7_toldOf_18) hS nx_FA (fun H locs hP hS => ?_)
      refine lv_goto (tgt := 28) hx hb dX7_toldOf_21 (by decide) ?_
      exact kr 28 ls r_6 () H locs dX7_toldOf_28 (Option.some.inj h) hP hS
  · have h := nx_it h hc
    refine lv_iload_n hx hb dX7_toldOf_4 rfl (lv_at hl 1 rfl) ?_
    obtain ⟨r_8, hc_7, h⟩ := nx_bd h
    refine nx_ki (nx_runS (As := [.int x1]) (rest := []) X hS hP (c_X4_cellOf l E H.size _ x1 _ hc_7) nx_FA qS_RX7_49 ⟨rfl, rfl⟩ ⟨Nat.le_of_ble_eq_true rfl, Nat.le_of_ble_eq_true rfl⟩ ⟨Nat.zero_le _, Nat.zero_le _⟩ rfl rfl hl.1 (Nat.le_of_ble_eq_true rfl) dX7_toldOf_5) hS nx_FA (fun H locs hP hS => ?_)
    exact kr 8 ls r_8 () H locs dX7_toldOf_8 (Option.some.inj h) hP hS
def f_X7_agreed_b5 (N : Nat) (x1 : Int32) (size : Int32) (on : Int32) (kinds : Nat → Int32) (marks : Nat → Int32) (nb : Nat → Int32) (plen : Int32) (rowW : Nat → Int32) (rowS : Nat → Int32) (rec : (Int32 × Int32) → Option ((Int32) ⊕ (Int32))) (x2 : Int32) (x3 : Int32) : Option ((Int32) ⊕ (Int32)) :=
  (f_X7_allStarts size).bind fun r_2 => if r_2 ≤ x3 then (some (.inr x2)) else ((f_X7_endOf N x3 size on kinds marks nb plen rowW rowS).bind fun r_4 => if r_4 = (-1) then (rec (x2, (x3 + 1))) else ((f_X7_toldOf x3 r_4 x1).bind fun r_6 => if x2 = (-9) then (rec (r_6, (x3 + 1))) else (if x2 = r_6 then (rec (r_6, (x3 + 1))) else (some (.inl (-9))))))
def f_X7_agreed_l5 (N : Nat) (x1 : Int32) (size : Int32) (on : Int32) (kinds : Nat → Int32) (marks : Nat → Int32) (nb : Nat → Int32) (plen : Int32) (rowW : Nat → Int32) (rowS : Nat → Int32) : Nat → (Int32 × Int32) → Option ((Int32) ⊕ (Int32)) := nx_lp (fun rec z => f_X7_agreed_b5 N x1 size on kinds marks nb plen rowW rowS rec z.1 z.2)
def f_X7_agreed (N : Nat) (x1 : Int32) (size : Int32) (on : Int32) (kinds : Nat → Int32) (marks : Nat → Int32) (nb : Nat → Int32) (plen : Int32) (rowW : Nat → Int32) (rowS : Nat → Int32) : Option (Int32) :=
  (f_X7_agreed_l5 N x1 size on kinds marks nb plen rowW rowS N ((-9), 0)).bind fun z_7 => Sum.elim (fun rr => some rr) (fun y_9 => some y_9) z_7
set_option maxHeartbeats 4000000 in
set_option maxRecDepth 100000 in
theorem c_X7_agreed (l : Launch) (N : Nat) (E : nx_E) (sz : Nat) (a : Nat → Nat) (size : Int32) (on : Int32) (kinds : Nat → Int32) (marks : Nat → Int32) (nb : Nat → Int32) (reached : Int32) (dist : Nat → Int32) (lastW : Nat → Int32) (par : Nat → Int32) (ord : Nat → Int32) (paths : Nat → Int64) (costs : Nat → Int32) (wanted : Int32) (tlen : Int32) (onlyF : Int32) (found : Int32) (steps : Nat → Int32) (plen : Int32) (rowW : Nat → Int32) (rowS : Nat → Int32) (tally : Nat → Int32) (x1 : Int32) (o : Int32) (h : f_X7_agreed N x1 size on kinds marks nb plen rowW rowS = some o) : Met l yX7_agreed (.code yX7_agreed cX7_agreed 6 (some .int) :: nx_T) (nx_rm 4 94) (va_Pc [.ref (a 17), .int x1] (nx_P E (nx_F) sz (cW E a size on kinds marks nb reached dist lastW par ord paths costs wanted tlen onlyF found steps plen rowW rowS tally))) (va_Qi (fun v (_ : Unit) => v = o) (fun _ t => va_P E.1 vwCl (cW E a size on kinds marks nb reached dist lastW par ord paths costs wanted tlen onlyF found steps plen rowW rowS tally) t.heap) (nx_F)) 0 0 (nx_F) := by
  refine nx_enI (fun v (_ : Unit) => v = o) (fun (_ : Unit) => (cW E a size on kinds marks nb reached dist lastW par ord paths costs wanted tlen onlyF found steps plen rowW rowS tally)) (by decide) (Nat.le_of_ble_eq_true rfl) ?_
  intro p e s m below meth c Q X kr hsz hP ls hl
  subst hsz
  generalize hargs : (List.toArray [.ref (a 17), .int x1] : Array Value) = args at X kr ⊢
  clear hargs
  obtain ⟨⟨hx, hb, hml, hown, hts⟩, hK, hSt, hNz⟩ := id X
  have hS : va_S (nx_F) s.heap s.heap [] := va_S.rf
  have hl : lv_has ls 6 [(0, .ref (a 17)), (1, .int x1)] := hl
  have L5 : ∀ (x1 : Int32) (n : Nat) (x2 : Int32) (x3 : Int32) (z : ((Int32) ⊕ (Int32))), f_X7_agreed_l5 N x1 size on kinds marks nb plen rowW rowS n (x2, x3) = some z → ∀ (H : Heap) (locs : List Loc) (ls : Array Slot), va_P E.1 vwCl (cW E a size on kinds marks nb reached dist lastW par ord paths costs wanted tlen onlyF found steps plen rowW rowS tally) H → va_S (nx_F) s.heap H locs → lv_has ls 6 [(0, .ref (a 17)), (1, .int x1), (2, .int x2), (3, .int x3)] → ∀ (kL : ∀ r, z = .inl r → ∀ (pc : Nat) (ls : Array Slot) (v : Int32) (u : Unit) (H : Heap) (locs : List Loc), decode cX7_agreed pc = .ok (.ireturn, 1) → v = r → va_P E.1 vwCl (cW E a size on kinds marks nb reached dist lastW par ord paths costs wanted tlen onlyF found steps plen rowW rowS tally) H → va_S (nx_F) s.heap H locs → W p l e (nx_rm 4 94) s m args below meth c H locs 0 0 Q (F0 m pc ls [.int v])) (kR : ∀ y, z = .inr y → ∀ (H : Heap) (locs : List Loc) (ls : Array Slot), va_P E.1 vwCl (cW E a size on kinds marks nb reached dist lastW par ord paths costs wanted tlen onlyF found steps plen rowW rowS tally) H → va_S (nx_F) s.heap H locs → lv_has ls 6 [(0, .ref (a 17)), (2, .int y)] → W p l e (nx_rm 4 94) s m args below meth c H locs 0 0 Q (F0 m 62 ls [])), W p l e (nx_rm 4 94) s m args below meth c H locs 0 0 Q (F0 m 5 ls []) := by
   intro x1 n
   induction n with
   | zero => intro x2 x3 z h; exact nomatch (show none = some z from h)
   | succ n ih =>
    intro x2 x3 z h H locs ls hP hS hl kL kR
    have h : f_X7_agreed_b5 N x1 size on kinds marks nb plen rowW rowS (f_X7_agreed_l5 N x1 size on kinds marks nb plen rowW rowS n) x2 x3 = some z := h
    unfold f_X7_agreed_b5 at h
    refine lv_iload_n hx hb dX7_agreed_5 rfl (lv_at hl 3 rfl) ?_
    refine lv_aload_n hx hb dX7_agreed_6 rfl (lv_at hl 0 rfl) ?_
    obtain ⟨r_2, hc_1, h⟩ := nx_bd h
    refine nx_ki (nx_runV (As := []) (rest := [.int x3]) X hS hP (c_X7_allStarts l E H.size a size on kinds marks nb reached dist lastW par ord paths costs wanted tlen onlyF found steps plen rowW rowS tally _ hc_1) nx_FA qV_RX7_33 ⟨rfl, rfl⟩ ⟨Nat.le_of_ble_eq_true rfl, Nat.le_of_ble_eq_true rfl⟩ ⟨Nat.zero_le _, Nat.zero_le _⟩ 17 rfl rfl rfl rfl hl.1 (Nat.le_of_ble_eq_true rfl) dX7_agreed_7) hS nx_FA (fun H locs hP hS => ?_)
    refine lv_icmp_ge (tgt := 62) hx hb dX7_agreed_10 (by decide) (fun hc => ?_) (fun hc => ?_)
    · have h := nx_it h hc
      exact kR _ (Option.some.inj h).symm H locs ls hP hS (lv_sub hl [0, 2] rfl)
    · have h := nx_if h hc
      refine lv_aload_n hx hb dX7_agreed_13 rfl (lv_at hl 0 rfl) ?_
      refine lv_iload_n hx hb dX7_agreed_14 rfl (lv_at hl 3 rfl) ?_
      obtain ⟨r_4, hc_3, h⟩ := nx_bd h
      refine nx_ki (nx_runV (As := [.int x3]) (rest := []) X hS hP (c_X7_endOf l N E H.size a size on kinds marks nb reached dist lastW par ord paths costs wanted tlen onlyF found steps plen rowW rowS tally x3 _ hc_3) nx_FA qV_RX7_37 ⟨rfl, rfl⟩ ⟨Nat.le_of_ble_eq_true rfl, Nat.le_of_ble_eq_true rfl⟩ ⟨Nat.zero_le _, Nat.zero_le _⟩ 17 rfl rfl rfl rfl hl.1 (Nat.le_of_ble_eq_true rfl) dX7_agreed_15) hS nx_FA (fun H locs hP hS => ?_)
      refine lv_istore (lv' := [(4, .int r_4), (0, .ref (a 17)), (1, .int x1), (2, .int x2), (3, .int x3)]) hx hb dX7_agreed_18 hl (by decide) rfl (fun ls hl => ?_)
      refine lv_iload hx hb dX7_agreed_20 (lv_at hl 0 rfl) ?_
      refine lv_iconst (v := (-1)) hx hb dX7_agreed_22 (by decide) ?_
      refine lv_icmp_ne (tgt := 29) hx hb dX7_agreed_23 (by decide) (fun hc => ?_) (fun hc => ?_)
      · have h := nx_if h hc
        refine lv_iload_n hx hb dX7_agreed_29 rfl (lv_at hl 4 rfl) ?_
        refine lv_iload hx hb dX7_agreed_30 (lv_at hl 0 rfl) ?_
        refine lv_iload_n hx hb dX7_agreed_32 rfl (lv_at hl 2 rfl) ?_
        obtain ⟨r_6, hc_5, h⟩ := nx_bd h
        refine nx_ki (nx_runS (As := [.int x3, .int r_4, .int x1]) (rest := []) X hS hP (c_X7_toldOf l E H.size _ x3 r_4 x1 _ hc_5) nx_FA qS_RX7_45 ⟨rfl, rfl⟩ ⟨Nat.le_of_ble_eq_true rfl, Nat.le_of_ble_eq_true rfl⟩ ⟨Nat.zero_le _, Nat.zero_le _⟩ rfl rfl hl.1 (Nat.le_of_ble_eq_true rfl) dX7_agreed_33) hS nx_FA (fun H locs hP hS => ?_)
        refine lv_istore (lv' := [(5, .int r_6), (4, .int r_4), (0, .ref (a 17)), (1, .int x1), (2, .int x2), (3, .int x3)]) hx hb dX7_agreed_36 hl (by decide) rfl (fun ls hl => ?_)
        refine lv_iload_n hx hb dX7_agreed_38 rfl (lv_at hl 4 rfl) ?_
        refine lv_bipush (v := (-9)) hx hb dX7_agreed_39 (by decide) ?_
        refine lv_icmp_eq (tgt := 53) hx hb dX7_agreed_41 (by decide) (fun hc => ?_) (fun hc => ?_)
        · have h := nx_it h hc
          refine lv_iload hx hb dX7_agreed_53 (lv_at hl 0 rfl) ?_
          refine lv_istore_n (lv' := [(2, .int r_6), (5, .int r_6), (4, .int r_4), (0, .ref (a 17)), (1, .int x1), (3, .int x3)]) hx hb dX7_agreed_55 rfl hl (by decide) rfl (fun ls hl => ?_)
          refine lv_iinc (v := (x3 + 1)) (lv' := [(3, .int (x3 + 1)), (2, .int r_6), (5, .int r_6), (4, .int r_4), (0, .ref (a 17)), (1, .int x1)]) hx hb dX7_agreed_56 hl (k := 5) rfl rfl (by decide) rfl (fun ls hl => ?_)
          refine lv_goto (tgt := 5) hx hb dX7_agreed_59 (by decide) ?_
          exact ih _ _ z h H locs ls hP hS (lv_sub hl [4, 5, 1, 0] rfl) kL kR
        · have h := nx_if h hc
          refine lv_iload_n hx hb dX7_agreed_44 rfl (lv_at hl 4 rfl) ?_
          refine lv_iload hx hb dX7_agreed_45 (lv_at hl 0 rfl) ?_
          refine lv_icmp_eq (tgt := 53) hx hb dX7_agreed_47 (by decide) (fun hc => ?_) (fun hc => ?_)
          · have h := nx_it h hc
            refine lv_iload hx hb dX7_agreed_53 (lv_at hl 0 rfl) ?_
            refine lv_istore_n (lv' := [(2, .int r_6), (5, .int r_6), (4, .int r_4), (0, .ref (a 17)), (1, .int x1), (3, .int x3)]) hx hb dX7_agreed_55 rfl hl (by decide) rfl (fun ls hl => ?_)
            refine lv_iinc (v := (x3 + 1)) (lv' := [(3, .int (x3 + 1)), (2, .int r_6), (5, .int r_6), (4, .int r_4), (0, .ref (a 17)), (1, .int x1)]) hx hb dX7_agreed_56 hl (k := 5) rfl rfl (by decide) rfl (fun ls hl => ?_)
            refine lv_goto (tgt := 5) hx hb dX7_agreed_59 (by decide) ?_
            exact ih _ _ z h H locs ls hP hS (lv_sub hl [4, 5, 1, 0] rfl) kL kR
          · have h := nx_if h hc
            refine lv_bipush (v := (-9)) hx hb dX7_agreed_50 (by decide) ?_
            exact kL _ (Option.some.inj h).symm 52 ls (-9) () H locs dX7_agreed_52 rfl hP hS
      · have h := nx_it h hc
        refine lv_goto (tgt := 56) hx hb dX7_agreed_26 (by decide) ?_
        refine lv_iinc (v := (x3 + 1)) (lv' := [(3, .int (x3 + 1)), (4, .int r_4), (0, .ref (a 17)), (1, .int x1), (2, .int x2)]) hx hb dX7_agreed_56 hl (k := 4) rfl rfl (by decide) rfl (fun ls hl => ?_)
        refine lv_goto (tgt := 5) hx hb dX7_agreed_59 (by decide) ?_
        exact ih _ _ z h H locs ls hP hS (lv_sub hl [2, 3, 4, 0] rfl) kL kR
  unfold f_X7_agreed at h
  suffices hw : ∀ (H : Heap) (locs : List Loc), va_P E.1 vwCl (cW E a size on kinds marks nb reached dist lastW par ord paths costs wanted tlen onlyF found steps plen rowW rowS tally) H → va_S (nx_F) s.heap H locs → W p l e (nx_rm 4 94) s m args below meth c H locs 0 0 Q (F0 m 0 ls []) from hw _ _ hP va_S.rf
  intro H locs hP hS
  refine lv_bipush (v := (-9)) hx hb dX7_agreed_0 (by decide) ?_
  refine lv_istore_n (lv' := [(2, .int (-9)), (0, .ref (a 17)), (1, .int x1)]) hx hb dX7_agreed_2 rfl hl (by decide) rfl (fun ls hl => ?_)
  refine lv_iconst (v := 0) hx hb dX7_agreed_3 (by decide) ?_
  refine lv_istore_n (lv' := [(3, .int 0), (2, .int (-9)), (0, .ref (a 17)), (1, .int x1)]) hx hb dX7_agreed_4 rfl hl (by decide) rfl (fun ls hl => ?_)
  obtain ⟨z_7, hz_8, h⟩ := nx_bd h
  refine L5 _ N _ _ _ hz_8 H locs ls hP hS (lv_sub hl [2, 3, 1, 0] rfl) ?_ ?_
  · intro rr hr
    subst hr
    have h := Option.some.inj h; subst h
    exact kr
  intro y_9 hr H locs ls hP hS hl
  subst hr
  refine lv_iload_n hx hb dX7_agreed_62 rfl (lv_at hl 1 rfl) ?_
  exact kr 63 ls y_9 () H locs dX7_agreed_63 (Option.some.inj h) hP hS
def f_X10_sure (N : Nat) (x1 : Int32) (size : Int32) (on : Int32) (kinds : Nat → Int32) (marks : Nat → Int32) (nb : Nat → Int32) (plen : Int32) (rowW : Nat → Int32) (rowS : Nat → Int32) : Option (Int32) :=
  if x1 < 0 then (some (-2)) else (if x1 ≤ 2 then ((f_X7_agreed N x1 size on kinds marks nb plen rowW rowS).bind fun r_2 => some r_2) else (some (-2)))
set_option maxHeartbeats 4000000 in
set_option maxRecDepth 100000 in
theorem c_X10_sure (l : Launch) (N : Nat) (E : nx_E) (sz : Nat) (a : Nat → Nat) (size : Int32) (on : Int32) (kinds : Nat → Int32) (marks : Nat → Int32) (nb : Nat → Int32) (reached : Int32) (dist : Nat → Int32) (lastW : Nat → Int32) (par : Nat → Int32) (ord : Nat → Int32) (paths : Nat → Int64) (costs : Nat → Int32) (wanted : Int32) (tlen : Int32) (onlyF : Int32) (found : Int32) (steps : Nat → Int32) (plen : Int32) (rowW : Nat → Int32) (rowS : Nat → Int32) (tally : Nat → Int32) (x1 : Int32) (o : Int32) (h : f_X10_sure N x1 size on kinds marks nb plen rowW rowS = some o) : Met l yX10_sure (.code yX10_sure cX10_sure 2 (some .int) :: nx_T) (nx_rm 5 119) (va_Pc [.ref (a 0), .int x1] (nx_P E (nx_F) sz (cW E a size on kinds marks nb reached dist lastW par ord paths costs wanted tlen onlyF found steps plen rowW rowS tally))) (va_Qi (fun v (_ : Unit) => v = o) (fun _ t => va_P E.1 vwCl (cW E a size on kinds marks nb reached dist lastW par ord paths costs wanted tlen onlyF found steps plen rowW rowS tally) t.heap) (nx_F)) 0 0 (nx_F) := by
  refine nx_enI (fun v (_ : Unit) => v = o) (fun (_ : Unit) => (cW E a size on kinds marks nb reached dist lastW par ord paths costs wanted tlen onlyF found steps plen rowW rowS tally)) (by decide) (Nat.le_of_ble_eq_true rfl) ?_
  intro p e s m below meth c Q X kr hsz hP ls hl
  subst hsz
  generalize hargs : (List.toArray [.ref (a 0), .int x1] : Array Value) = args at X kr ⊢
  clear hargs
  obtain ⟨⟨hx, hb, hml, hown, hts⟩, hK, hSt, hNz⟩ := id X
  have hS : va_S (nx_F) s.heap s.heap [] := va_S.rf
  have hl : lv_has ls 2 [(0, .ref (a 0)), (1, .int x1)] := hl
  unfold f_X10_sure at h
  suffices hw : ∀ (H : Heap) (locs : List Loc), va_P E.1 vwCl (cW E a size on kinds marks nb reached dist lastW par ord paths costs wanted tlen onlyF found steps plen rowW rowS tally) H → va_S (nx_F) s.heap H locs → W p l e (nx_rm 5 119) s m args below meth c H locs 0 0 Q (F0 m 0 ls []) from hw _ _ hP va_S.rf
  intro H locs hP hS
  refine lv_iload_n hx hb dX10_sure_0 rfl (lv_at hl 1 rfl) ?_
  refine lv_if_lt (tgt := 9) hx hb dX10_sure_1 (by decide) (fun hc => ?_) (fun hc => ?_)
  · have h := nx_it h hc
    refine lv_bipush (v := (-2)) hx hb dX10_sure_9 (by decide) ?_
    refine lv_goto (tgt := 22) hx hb dX10_sure_11 (by decide) ?_
    exact kr 22 ls (-2) () H locs dX10_sure_22 (Option.some.inj h) hP hS
  · have h := nx_if h hc
    refine lv_iload_n hx hb dX10_sure_4 rfl (lv_at hl 1 rfl) ?_
    refine lv_iconst (v := 2) hx hb dX10_sure_5 (by decide) ?_
    refine lv_icmp_le (tgt := 14) hx hb dX10_sure_6 (by decide) (fun hc => ?_) (fun hc => ?_)
    · have h := nx_it h hc
      refine lv_aload_n hx hb dX10_sure_14 rfl (lv_at hl 0 rfl) ?_
      refine nx_gf X hP uw_X10 (ci := 9) rfl 0 rfl 6 (by decide) wf_RX10_60 rfl dX10_sure_15 ?_
      refine lv_iload_n hx hb dX10_sure_18 rfl (lv_at hl 1 rfl) ?_
      obtain ⟨r_2, hc_1, h⟩ := nx_bd h
      refine nx_ki (nx_runV (As := [.int x1]) (rest := []) X hS hP (c_X7_agreed l N E H.size a size on kinds marks nb reached dist lastW par ord paths costs wanted tlen onlyF found steps plen rowW rowS tally x1 _ hc_1) nx_FA qV_RX10_203 ⟨rfl, rfl⟩ ⟨Nat.le_of_ble_eq_true rfl, Nat.le_of_ble_eq_true rfl⟩ ⟨Nat.zero_le _, Nat.zero_le _⟩ 17 rfl rfl rfl rfl hl.1 (Nat.le_of_ble_eq_true rfl) dX10_sure_19) hS nx_FA (fun H locs hP hS => ?_)
      exact kr 22 ls r_2 () H locs dX10_sure_22 (Option.some.inj h) hP hS
    · have h := nx_if h hc
      refine lv_bipush (v := (-2)) hx hb dX10_sure_9 (by decide) ?_
      refine lv_goto (tgt := 22) hx hb dX10_sure_11 (by decide) ?_
      exact kr 22 ls (-2) () H locs dX10_sure_22 (Option.some.inj h) hP hS
def f_J7_fill_53178_r20_b5 (x1 : Int32) (x3 : Int32) (rec : (Int32 × (Nat → Int32)) → Option ((Nat → Int32))) (x2 : Int32) (tally : Nat → Int32) : Option ((Nat → Int32)) :=
  if x3 ≤ x2 then (some tally) else ((nx_ck 28 x2).bind fun _ => rec ((x2 + 1), (upd tally x2.toNatClampNeg x1)))
def f_J7_fill_53178_r20_l5 (x1 : Int32) (x3 : Int32) : Nat → (Int32 × (Nat → Int32)) → Option ((Nat → Int32)) := nx_lp (fun rec z => f_J7_fill_53178_r20_b5 x1 x3 rec z.1 z.2)
def f_J7_fill_53178_r20 (N : Nat) (x1 : Int32) (tally : Nat → Int32) : Option ((Nat → Int32)) :=
  (f_J7_fill_53178_r20_l5 x1 28 N (0, tally)).bind fun z_2 => some z_2
set_option maxHeartbeats 4000000 in
set_option maxRecDepth 100000 in
theorem c_J7_fill_53178_r20 (l : Launch) (N : Nat) (E : nx_E) (sz : Nat) (a : Nat → Nat) (size : Int32) (on : Int32) (kinds : Nat → Int32) (marks : Nat → Int32) (nb : Nat → Int32) (reached : Int32) (dist : Nat → Int32) (lastW : Nat → Int32) (par : Nat → Int32) (ord : Nat → Int32) (paths : Nat → Int64) (costs : Nat → Int32) (wanted : Int32) (tlen : Int32) (onlyF : Int32) (found : Int32) (steps : Nat → Int32) (plen : Int32) (rowW : Nat → Int32) (rowS : Nat → Int32) (tally : Nat → Int32) (x1 : Int32) (hI : nx_inj a 24) (o : (Nat → Int32)) (h : f_J7_fill_53178_r20 N x1 tally = some o) : Met l yJ7_fill_53178 (.code yJ7_fill_53178 cJ7_fill_53178 4 none :: nx_T) (nx_rm 0 0) (va_Pc [.ref (a 20), .int x1] (nx_P E (nx_A a 24 sz) sz (cW E a size on kinds marks nb reached dist lastW par ord paths costs wanted tlen onlyF found steps plen rowW rowS tally))) (va_Qv (fun u => u = o) (fun u t => va_P E.1 vwCl (cW E a size on kinds marks nb reached dist lastW par ord paths costs wanted tlen onlyF found steps plen rowW rowS u) t.heap) (nx_A a 24 sz)) 0 0 (nx_A a 24 sz) := by
  refine nx_enV (fun u => u = o) (fun (u : (Nat → Int32)) => (cW E a size on kinds marks nb reached dist lastW par ord paths costs wanted tlen onlyF found steps plen rowW rowS u)) (by decide) (Nat.le_of_ble_eq_true rfl) ?_
  intro p e s m below meth c Q X kr hsz hP ls hl
  subst hsz
  generalize hargs : (List.toArray [.ref (a 20), .int x1] : Array Value) = args at X kr ⊢
  clear hargs
  obtain ⟨⟨hx, hb, hml, hown, hts⟩, hK, hSt, hNz⟩ := id X
  have hS : va_S (nx_A a 24 s.heap.size) s.heap s.heap [] := va_S.rf
  have hl : lv_has ls 4 [(0, .ref (a 20)), (1, .int x1)] := hl
  have L5 : ∀ (x1 : Int32) (x3 : Int32) (n : Nat) (x2 : Int32) (tally : Nat → Int32) (z : ((Nat → Int32))), f_J7_fill_53178_r20_l5 x1 x3 n (x2, tally) = some z → ∀ (H : Heap) (locs : List Loc) (ls : Array Slot), va_P E.1 vwCl (cW E a size on kinds marks nb reached dist lastW par ord paths costs wanted tlen onlyF found steps plen rowW rowS tally) H → va_S (nx_A a 24 s.heap.size) s.heap H locs → lv_has ls 4 [(0, .ref (a 20)), (1, .int x1), (2, .int x2), (3, .int x3)] → ∀ (kR : ∀ (H : Heap) (locs : List Loc) (ls : Array Slot), va_P E.1 vwCl (cW E a size on kinds marks nb reached dist lastW par ord paths costs wanted tlen onlyF found steps plen rowW rowS z) H → va_S (nx_A a 24 s.heap.size) s.heap H locs → lv_has ls 4 [(0, .ref (a 20))] → W p l e (nx_rm 0 0) s m args below meth c H locs 0 0 Q (F0 m 20 ls [])), W p l e (nx_rm 0 0) s m args below meth c H locs 0 0 Q (F0 m 5 ls []) := by
   intro x1 x3 n
   induction n with
   | zero => intro x2 tally z h; exact nomatch (show none = some z from h)
   | succ n ih =>
    intro x2 tally z h H locs ls hP hS hl kR
    have h : f_J7_fill_53178_r20_b5 x1 x3 (f_J7_fill_53178_r20_l5 x1 x3 n) x2 tally = some z := h
    unfold f_J7_fill_53178_r20_b5 at h
    refine lv_iload_n hx hb dJ7_fill_53178_5 rfl (lv_at hl 2 rfl) ?_
    refine lv_iload_n hx hb dJ7_fill_53178_6 rfl (lv_at hl 3 rfl) ?_
    refine lv_icmp_ge (tgt := 20) hx hb dJ7_fill_53178_7 (by decide) (fun hc => ?_) (fun hc => ?_)
    · have h := nx_it h hc
      obtain rfl := Option.some.inj h
      exact kR H locs ls hP hS (lv_sub hl [0] rfl)
    · have h := nx_if h hc
      refine lv_aload_n hx hb dJ7_fill_53178_10 rfl (lv_at hl 0 rfl) ?_
      refine lv_iload_n hx hb dJ7_fill_53178_11 rfl (lv_at hl 2 rfl) ?_
      refine lv_iload_n hx hb dJ7_fill_53178_12 rfl (lv_at hl 1 rfl) ?_
      obtain ⟨hv_1, h⟩ := nx_cb h
      refine nx_st X hI cW_ad hP hS 20 rfl hv_1 dJ7_fill_53178_13 (fun H locs hP hS => ?_)
      have hP : va_P E.1 vwCl (cW E a size on kinds marks nb reached dist lastW par ord paths costs wanted tlen onlyF found steps plen rowW rowS (upd tally x2.toNatClampNeg x1)) H := hP
      refine lv_iinc (v := (x2 + 1)) (lv' := [(2, .int (x2 + 1)), (0, .ref (a 20)), (1, .int x1), (3, .int x3)]) hx hb dJ7_fill_53178_14 hl (k := 2) rfl rfl (by decide) rfl (fun ls hl => ?_)
      refine lv_goto (tgt := 5) hx hb dJ7_fill_53178_17 (by decide) ?_
      exact ih _ _ z h H locs ls hP hS (lv_sub hl [1, 2, 0, 3] rfl) kR
  unfold f_J7_fill_53178_r20 at h
  suffices hw : ∀ (H : Heap) (locs : List Loc), va_P E.1 vwCl (cW E a size on kinds marks nb reached dist lastW par ord paths costs wanted tlen onlyF found steps plen rowW rowS tally) H → va_S (nx_A a 24 s.heap.size) s.heap H locs → W p l e (nx_rm 0 0) s m args below meth c H locs 0 0 Q (F0 m 0 ls []) from hw _ _ hP va_S.rf
  intro H locs hP hS
  refine lv_iconst (v := 0) hx hb dJ7_fill_53178_0 (by decide) ?_
  refine lv_istore_n (lv' := [(2, .int 0), (0, .ref (a 20)), (1, .int x1)]) hx hb dJ7_fill_53178_1 rfl hl (by decide) rfl (fun ls hl => ?_)
  refine lv_aload_n hx hb dJ7_fill_53178_2 rfl (lv_at hl 1 rfl) ?_
  refine nx_al (v := 28) X hP 20 rfl rfl dJ7_fill_53178_3 ?_
  refine lv_istore_n (lv' := [(3, .int 28), (2, .int 0), (0, .ref (a 20)), (1, .int x1)]) hx hb dJ7_fill_53178_4 rfl hl (by decide) rfl (fun ls hl => ?_)
  obtain ⟨z_2, hz_3, h⟩ := nx_bd h
  refine L5 _ _ N _ _ _ hz_3 H locs ls hP hS (lv_sub hl [2, 3, 1, 0] rfl) (fun H locs ls hP hS hl => ?_)
  exact kr 20 ls z_2 H locs dJ7_fill_53178_20 (Option.some.inj h) hP hS
def f_X7_tallyFrom_b4 (x1 : Int32) (size : Int32) (on : Int32) (kinds : Nat → Int32) (marks : Nat → Int32) (nb : Nat → Int32) (rec : (Int32 × Int32 × (Nat → Int32)) → Option (Int32 × (Nat → Int32))) (x2 : Int32) (x3 : Int32) (tally : Nat → Int32) : Option (Int32 × (Nat → Int32)) :=
  if 4 ≤ x3 then (some (x2, tally)) else ((f_X4_after x1 x3 size on kinds marks nb).bind fun r_2 => if r_2 = (-1) then (rec (x2, (x3 + 1), tally)) else ((f_X4_printOf r_2).bind fun r_4 => (nx_rd tally 28 ((x3 * 7) + r_4)).bind fun _ => (nx_ck 28 ((x3 * 7) + r_4)).bind fun _ => rec ((x2 ||| (1 <<< (x3 &&& 31))), (x3 + 1), (upd tally ((x3 * 7) + r_4).toNatClampNeg ((tally ((x3 * 7) + r_4).toNatClampNeg) + 1)))))
def f_X7_tallyFrom_l4 (x1 : Int32) (size : Int32) (on : Int32) (kinds : Nat → Int32) (marks : Nat → Int32) (nb : Nat → Int32) : Nat → (Int32 × Int32 × (Nat → Int32)) → Option (Int32 × (Nat → Int32)) := nx_lp (fun rec z => f_X7_tallyFrom_b4 x1 size on kinds marks nb rec z.1 z.2.1 z.2.2)
def f_X7_tallyFrom (N : Nat) (x1 : Int32) (size : Int32) (on : Int32) (kinds : Nat → Int32) (marks : Nat → Int32) (nb : Nat → Int32) (tally : Nat → Int32) : Option (Int32 × ((Nat → Int32))) :=
  (f_X7_tallyFrom_l4 x1 size on kinds marks nb N (0, 0, tally)).bind fun z_8 => some (z_8.1, z_8.2)
set_option maxHeartbeats 4000000 in
set_option maxRecDepth 100000 in
theorem c_X7_tallyFrom (l : Launch) (N : Nat) (E : nx_E) (sz : Nat) (a : Nat → Nat) (size : Int32) (on : Int32) (kinds : Nat → Int32) (marks : Nat → Int32) (nb : Nat → Int32) (reached : Int32) (dist : Nat → Int32) (lastW : Nat → Int32) (par : Nat → Int32) (ord : Nat → Int32) (paths : Nat → Int64) (costs : Nat → Int32) (wanted : Int32) (tlen : Int32) (onlyF : Int32) (found : Int32) (steps : Nat → Int32) (plen : Int32) (rowW : Nat → Int32) (rowS : Nat → Int32) (tally : Nat → Int32) (x1 : Int32) (hI : nx_inj a 24) (o : Int32 × ((Nat → Int32))) (h : f_X7_tallyFrom N x1 size on kinds marks nb tally = some o) : Met l yX7_tallyFrom (.code yX7_tallyFrom cX7_tallyFrom 5 (some .int) :: nx_T) (nx_rm 3 71) (va_Pc [.ref (a 17), .int x1] (nx_P E (nx_A a 24 sz) sz (cW E a size on kinds marks nb reached dist lastW par ord paths costs wanted tlen onlyF found steps plen rowW rowS tally))) (va_Qi (fun v u => (v, u) = o) (fun u t => va_P E.1 vwCl (cW E a size on kinds marks nb reached dist lastW par ord paths costs wanted tlen onlyF found steps plen rowW rowS u) t.heap) (nx_A a 24 sz)) 0 0 (nx_A a 24 sz) := by
  refine nx_enI (fun v u => (v, u) = o) (fun (u : (Nat → Int32)) => (cW E a size on kinds marks nb reached dist lastW par ord paths costs wanted tlen onlyF found steps plen rowW rowS u)) (by decide) (Nat.le_of_ble_eq_true rfl) ?_
  intro p e s m below meth c Q X kr hsz hP ls hl
  subst hsz
  generalize hargs : (List.toArray [.ref (a 17), .int x1] : Array Value) = args at X kr ⊢
  clear hargs
  obtain ⟨⟨hx, hb, hml, hown, hts⟩, hK, hSt, hNz⟩ := id X
  have hS : va_S (nx_A a 24 s.heap.size) s.heap s.heap [] := va_S.rf
  have hl : lv_has ls 5 [(0, .ref (a 17)), (1, .int x1)] := hl
  have L4 : ∀ (x1 : Int32) (n : Nat) (x2 : Int32) (x3 : Int32) (tally : Nat → Int32) (z : (Int32 × (Nat → Int32))), f_X7_tallyFrom_l4 x1 size on kinds marks nb n (x2, x3, tally) = some z → ∀ (H : Heap) (locs : List Loc) (ls : Array Slot), va_P E.1 vwCl (cW E a size on kinds marks nb reached dist lastW par ord paths costs wanted tlen onlyF found steps plen rowW rowS tally) H → va_S (nx_A a 24 s.heap.size) s.heap H locs → lv_has ls 5 [(0, .ref (a 17)), (1, .int x1), (2, .int x2), (3, .int x3)] → ∀ (kR : ∀ (H : Heap) (locs : List Loc) (ls : Array Slot), va_P E.1 vwCl (cW E a size on kinds marks nb reached dist lastW par ord paths costs wanted tlen onlyF found steps plen rowW rowS (z.2)) H → va_S (nx_A a 24 s.heap.size) s.heap H locs → lv_has ls 5 [(0, .ref (a 17)), (2, .int z.1)] → W p l e (nx_rm 3 71) s m args below meth c H locs 0 0 Q (F0 m 57 ls [])), W p l e (nx_rm 3 71) s m args below meth c H locs 0 0 Q (F0 m 4 ls []) := by
   intro x1 n
   induction n with
   | zero => intro x2 x3 tally z h; exact nomatch (show none = some z from h)
   | succ n ih =>
    intro x2 x3 tally z h H locs ls hP hS hl kR
    have h : f_X7_tallyFrom_b4 x1 size on kinds marks nb (f_X7_tallyFrom_l4 x1 size on kinds marks nb n) x2 x3 tally = some z := h
    unfold f_X7_tallyFrom_b4 at h
    refine lv_iload_n hx hb dX7_tallyFrom_4 rfl (lv_at hl 3 rfl) ?_
    refine lv_iconst (v := 4) hx hb dX7_tallyFrom_5 (by decide) ?_
    refine lv_icmp_ge (tgt := 57) hx hb dX7_tallyFrom_6 (by decide) (fun hc => ?_) (fun hc => ?_)
    · have h := nx_it h hc
      obtain rfl := Option.some.inj h
      exact kR H locs ls hP hS (lv_sub hl [0, 2] rfl)
    · have h := nx_if h hc
      refine lv_aload_n hx hb dX7_tallyFrom_9 rfl (lv_at hl 0 rfl) ?_
      refine nx_gf X hP uw_X7 (ci := 6) rfl 17 rfl 1 (by decide) wf_RX7_25 rfl dX7_tallyFrom_10 ?_
      refine lv_iload_n hx hb dX7_tallyFrom_13 rfl (lv_at hl 1 rfl) ?_
      refine lv_iload_n hx hb dX7_tallyFrom_14 rfl (lv_at hl 3 rfl) ?_
      obtain ⟨r_2, hc_1, h⟩ := nx_bd h
      refine nx_ki (nx_runV (As := [.int x1, .int x3]) (rest := []) X hS hP (c_X4_after l E H.size a size on kinds marks nb reached dist lastW par ord paths costs wanted tlen onlyF found steps plen rowW rowS tally x1 x3 _ hc_1) nx_FA qV_RX7_74 ⟨rfl, rfl⟩ ⟨Nat.le_of_ble_eq_true rfl, Nat.le_of_ble_eq_true rfl⟩ ⟨Nat.zero_le _, Nat.zero_le _⟩ 12 rfl rfl rfl rfl hl.1 (Nat.le_of_ble_eq_true rfl) dX7_tallyFrom_15) hS nx_FA (fun H locs hP hS => ?_)
      refine lv_istore (lv' := [(4, .int r_2), (0, .ref (a 17)), (1, .int x1), (2, .int x2), (3, .int x3)]) hx hb dX7_tallyFrom_18 hl (by decide) rfl (fun ls hl => ?_)
      refine lv_iload hx hb dX7_tallyFrom_20 (lv_at hl 0 rfl) ?_
      refine lv_iconst (v := (-1)) hx hb dX7_tallyFrom_22 (by decide) ?_
      refine lv_icmp_eq (tgt := 51) hx hb dX7_tallyFrom_23 (by decide) (fun hc => ?_) (fun hc => ?_)
      · have h := nx_it h hc
        refine lv_iinc (v := (x3 + 1)) (lv' := [(3, .int (x3 + 1)), (4, .int r_2), (0, .ref (a 17)), (1, .int x1), (2, .int x2)]) hx hb dX7_tallyFrom_51 hl (k := 4) rfl rfl (by decide) rfl (fun ls hl => ?_)
        refine lv_goto (tgt := 4) hx hb dX7_tallyFrom_54 (by decide) ?_
        exact ih _ _ _ z h H locs ls hP hS (lv_sub hl [2, 3, 4, 0] rfl) kR
      · have h := nx_if h hc
        refine lv_iload_n hx hb dX7_tallyFrom_26 rfl (lv_at hl 3 rfl) ?_
        refine lv_iconst (v := 1) hx hb dX7_tallyFrom_27 (by decide) ?_
        refine lv_iload_n hx hb dX7_tallyFrom_28 rfl (lv_at hl 4 rfl) ?_
        refine lv_ishl hx hb dX7_tallyFrom_29 ?_
        refine lv_ior hx hb dX7_tallyFrom_30 ?_
        refine lv_istore_n (lv' := [(2, .int (x2 ||| (1 <<< (x3 &&& 31)))), (4, .int r_2), (0, .ref (a 17)), (1, .int x1), (3, .int x3)]) hx hb dX7_tallyFrom_31 rfl hl (by decide) rfl (fun ls hl => ?_)
        refine lv_aload_n hx hb dX7_tallyFrom_32 rfl (lv_at hl 2 rfl) ?_
        refine nx_gf X hP uw_X7 (ci := 6) rfl 17 rfl 4 (by decide) wf_RX7_18 rfl dX7_tallyFrom_33 ?_
        refine lv_iload_n hx hb dX7_tallyFrom_36 rfl (lv_at hl 4 rfl) ?_
        refine lv_bipush (v := 7) hx hb dX7_tallyFrom_37 (by decide) ?_
        refine lv_imul hx hb dX7_tallyFrom_39 ?_
        refine lv_iload hx hb dX7_tallyFrom_40 (lv_at hl 1 rfl) ?_
        obtain ⟨r_4, hc_3, h⟩ := nx_bd h
        refine nx_ki (nx_runS (As := [.int r_2]) (rest := [.int (x3 * 7), .ref (a 20)]) X hS hP (c_X4_printOf l E H.size _ r_2 _ hc_3) nx_FA qS_RX7_78 ⟨rfl, rfl⟩ ⟨Nat.le_of_ble_eq_true rfl, Nat.le_of_ble_eq_true rfl⟩ ⟨Nat.zero_le _, Nat.zero_le _⟩ rfl rfl hl.1 (Nat.le_of_ble_eq_true rfl) dX7_tallyFrom_42) hS nx_FA (fun H locs hP hS => ?_)
        refine lv_iadd hx hb dX7_tallyFrom_45 ?_
        refine lv_dup2_11 hx hb dX7_tallyFrom_46 rfl rfl ?_
        obtain ⟨hv_5, h⟩ := nx_rb h
        refine nx_ld X hP 20 rfl hv_5 dX7_tallyFrom_47 ?_
        refine lv_iconst (v := 1) hx hb dX7_tallyFrom_48 (by decide) ?_
        refine lv_iadd hx hb dX7_tallyFrom_49 ?_
        obtain ⟨hv_7, h⟩ := nx_cb h
        refine nx_st X hI cW_ad hP hS 20 rfl hv_7 dX7_tallyFrom_50 (fun H locs hP hS => ?_)
        have hP : va_P E.1 vwCl (cW E a size on kinds marks nb reached dist lastW par ord paths costs wanted tlen onlyF found steps plen rowW rowS (upd tally ((x3 * 7) + r_4).toNatClampNeg ((tally ((x3 * 7) + r_4).toNatClampNeg) + 1))) H := hP
        refine lv_iinc (v := (x3 + 1)) (lv' := [(3, .int (x3 + 1)), (2, .int (x2 ||| (1 <<< (x3 &&& 31)))), (4, .int r_2), (0, .ref (a 17)), (1, .int x1)]) hx hb dX7_tallyFrom_51 hl (k := 4) rfl rfl (by decide) rfl (fun ls hl => ?_)
        refine lv_goto (tgt := 4) hx hb dX7_tallyFrom_54 (by decide) ?_
        exact ih _ _ _ z h H locs ls hP hS (lv_sub hl [3, 4, 1, 0] rfl) kR
  unfold f_X7_tallyFrom at h
  suffices hw : ∀ (H : Heap) (locs : List Loc), va_P E.1 vwCl (cW E a size on kinds marks nb reached dist lastW par ord paths costs wanted tlen onlyF found steps plen rowW rowS tally) H → va_S (nx_A a 24 s.heap.size) s.heap H locs → W p l e (nx_rm 3 71) s m args below meth c H locs 0 0 Q (F0 m 0 ls []) from hw _ _ hP va_S.rf
  intro H locs hP hS
  refine lv_iconst (v := 0) hx hb dX7_tallyFrom_0 (by decide) ?_
  refine lv_istore_n (lv' := [(2, .int 0), (0, .ref (a 17)), (1, .int x1)]) hx hb dX7_tallyFrom_1 rfl hl (by decide) rfl (fun ls hl => ?_)
  refine lv_iconst (v := 0) hx hb dX7_tallyFrom_2 (by decide) ?_
  refine lv_istore_n (lv' := [(3, .int 0), (2, .int 0), (0, .ref (a 17)), (1, .int x1)]) hx hb dX7_tallyFrom_3 rfl hl (by decide) rfl (fun ls hl => ?_)
  obtain ⟨z_8, hz_9, h⟩ := nx_bd h
  refine L4 _ N _ _ _ _ hz_9 H locs ls hP hS (lv_sub hl [2, 3, 1, 0] rfl) (fun H locs ls hP hS hl => ?_)
  refine lv_iload_n hx hb dX7_tallyFrom_57 rfl (lv_at hl 1 rfl) ?_
  exact kr 58 ls z_8.1 z_8.2 H locs dX7_tallyFrom_58 (Option.some.inj h) hP hS
def f_X7_mostTallied_b4 (x1 : Int32) (tally : Nat → Int32) (rec : (Int32 × Int32) → Option (Int32)) (x2 : Int32) (x3 : Int32) : Option (Int32) :=
  if 6 < x3 then (some x2) else ((nx_rd tally 28 ((x1 * 7) + x3)).bind fun _ => rec ((if x2 < (tally ((x1 * 7) + x3).toNatClampNeg) then (tally ((x1 * 7) + x3).toNatClampNeg) else x2), (x3 + 1)))
def f_X7_mostTallied_l4 (x1 : Int32) (tally : Nat → Int32) : Nat → (Int32 × Int32) → Option (Int32) := nx_lp (fun rec z => f_X7_mostTallied_b4 x1 tally rec z.1 z.2)
def f_X7_mostTallied (N : Nat) (x1 : Int32) (tally : Nat → Int32) : Option (Int32) :=
  (f_X7_mostTallied_l4 x1 tally N (0, 1)).bind fun z_3 => some z_3
set_option maxHeartbeats 4000000 in
set_option maxRecDepth 100000 in
theorem c_X7_mostTallied (l : Launch) (N : Nat) (E : nx_E) (sz : Nat) (a : Nat → Nat) (size : Int32) (on : Int32) (kinds : Nat → Int32) (marks : Nat → Int32) (nb : Nat → Int32) (reached : Int32) (dist : Nat → Int32) (lastW : Nat → Int32) (par : Nat → Int32) (ord : Nat → Int32) (paths : Nat → Int64) (costs : Nat → Int32) (wanted : Int32) (tlen : Int32) (onlyF : Int32) (found : Int32) (steps : Nat → Int32) (plen : Int32) (rowW : Nat → Int32) (rowS : Nat → Int32) (tally : Nat → Int32) (x1 : Int32) (o : Int32) (h : f_X7_mostTallied N x1 tally = some o) : Met l yX7_mostTallied (.code yX7_mostTallied cX7_mostTallied 4 (some .int) :: nx_T) (nx_rm 1 21) (va_Pc [.ref (a 17), .int x1] (nx_P E (nx_F) sz (cW E a size on kinds marks nb reached dist lastW par ord paths costs wanted tlen onlyF found steps plen rowW rowS tally))) (va_Qi (fun v (_ : Unit) => v = o) (fun _ t => va_P E.1 vwCl (cW E a size on kinds marks nb reached dist lastW par ord paths costs wanted tlen onlyF found steps plen rowW rowS tally) t.heap) (nx_F)) 0 0 (nx_F) := by
  refine nx_enI (fun v (_ : Unit) => v = o) (fun (_ : Unit) => (cW E a size on kinds marks nb reached dist lastW par ord paths costs wanted tlen onlyF found steps plen rowW rowS tally)) (by decide) (Nat.le_of_ble_eq_true rfl) ?_
  intro p e s m below meth c Q X kr hsz hP ls hl
  subst hsz
  generalize hargs : (List.toArray [.ref (a 17), .int x1] : Array Value) = args at X kr ⊢
  clear hargs
  obtain ⟨⟨hx, hb, hml, hown, hts⟩, hK, hSt, hNz⟩ := id X
  have hS : va_S (nx_F) s.heap s.heap [] := va_S.rf
  have hl : lv_has ls 4 [(0, .ref (a 17)), (1, .int x1)] := hl
  have L4 : ∀ (x1 : Int32) (n : Nat) (x2 : Int32) (x3 : Int32) (z : (Int32)), f_X7_mostTallied_l4 x1 tally n (x2, x3) = some z → ∀ (H : Heap) (locs : List Loc) (ls : Array Slot), va_P E.1 vwCl (cW E a size on kinds marks nb reached dist lastW par ord paths costs wanted tlen onlyF found steps plen rowW rowS tally) H → va_S (nx_F) s.heap H locs → lv_has ls 4 [(0, .ref (a 17)), (1, .int x1), (2, .int x2), (3, .int x3)] → ∀ (kR : ∀ (H : Heap) (locs : List Loc) (ls : Array Slot), va_P E.1 vwCl (cW E a size on kinds marks nb reached dist lastW par ord paths costs wanted tlen onlyF found steps plen rowW rowS tally) H → va_S (nx_F) s.heap H locs → lv_has ls 4 [(0, .ref (a 17)), (2, .int z)] → W p l e (nx_rm 1 21) s m args below meth c H locs 0 0 Q (F0 m 32 ls [])), W p l e (nx_rm 1 21) s m args below meth c H locs 0 0 Q (F0 m 4 ls []) := by
   intro x1 n
   induction n with
   | zero => intro x2 x3 z h; exact nomatch (show none = some z from h)
   | succ n ih =>
    intro x2 x3 z h H locs ls hP hS hl kR
    have h : f_X7_mostTallied_b4 x1 tally (f_X7_mostTallied_l4 x1 tally n) x2 x3 = some z := h
    unfold f_X7_mostTallied_b4 at h
    refine lv_iload_n hx hb dX7_mostTallied_4 rfl (lv_at hl 3 rfl) ?_
    refine lv_bipush (v := 6) hx hb dX7_mostTallied_5 (by decide) ?_
    refine lv_icmp_gt (tgt := 32) hx hb dX7_mostTallied_7 (by decide) (fun hc => ?_) (fun hc => ?_)
    · have h := nx_it h hc
      obtain rfl := Option.some.inj h
      exact kR H locs ls hP hS (lv_sub hl [0, 2] rfl)
    · have h := nx_if h hc
      refine lv_iload_n hx hb dX7_mostTallied_10 rfl (lv_at hl 2 rfl) ?_
      refine lv_aload_n hx hb dX7_mostTallied_11 rfl (lv_at hl 0 rfl) ?_
      refine nx_gf X hP uw_X7 (ci := 6) rfl 17 rfl 4 (by decide) wf_RX7_18 rfl dX7_mostTallied_12 ?_
      refine lv_iload_n hx hb dX7_mostTallied_15 rfl (lv_at hl 1 rfl) ?_
      refine lv_bipush (v := 7) hx hb dX7_mostTallied_16 (by decide) ?_
      refine lv_imul hx hb dX7_mostTallied_18 ?_
      refine lv_iload_n hx hb dX7_mostTallied_19 rfl (lv_at hl 3 rfl) ?_
      refine lv_iadd hx hb dX7_mostTallied_20 ?_
      obtain ⟨hv_1, h⟩ := nx_rb h
      refine nx_ld X hP 20 rfl hv_1 dX7_mostTallied_21 ?_
      refine va_mmax hx hb (by rw [hml]; exact hl.1.symm) hown (hts _ wm_RX7_84) (hts _ ws_J9_max_7cf53) (hts _ wn_RJ9) (hts _ wc_J9_max_7cf53) (Nat.le_of_ble_eq_true rfl) (Nat.le_of_ble_eq_true rfl) (Nat.zero_le _) (Nat.zero_le _) dX7_mostTallied_22 ?_
      refine lv_istore_n (lv' := [(2, .int (if x2 < (tally ((x1 * 7) + x3).toNatClampNeg) then (tally ((x1 * 7) + x3).toNatClampNeg) else x2)), (0, .ref (a 17)), (1, .int x1), (3, .int x3)]) hx hb dX7_mostTallied_25 rfl hl (by decide) rfl (fun ls hl => ?_)
      refine lv_iinc (v := (x3 + 1)) (lv' := [(3, .int (x3 + 1)), (2, .int (if x2 < (tally ((x1 * 7) + x3).toNatClampNeg) then (tally ((x1 * 7) + x3).toNatClampNeg) else x2)), (0, .ref (a 17)), (1, .int x1)]) hx hb dX7_mostTallied_26 hl (k := 3) rfl rfl (by decide) rfl (fun ls hl => ?_)
      refine lv_goto (tgt := 4) hx hb dX7_mostTallied_29 (by decide) ?_
      exact ih _ _ z h H locs ls hP hS (lv_sub hl [2, 3, 1, 0] rfl) kR
  unfold f_X7_mostTallied at h
  suffices hw : ∀ (H : Heap) (locs : List Loc), va_P E.1 vwCl (cW E a size on kinds marks nb reached dist lastW par ord paths costs wanted tlen onlyF found steps plen rowW rowS tally) H → va_S (nx_F) s.heap H locs → W p l e (nx_rm 1 21) s m args below meth c H locs 0 0 Q (F0 m 0 ls []) from hw _ _ hP va_S.rf
  intro H locs hP hS
  refine lv_iconst (v := 0) hx hb dX7_mostTallied_0 (by decide) ?_
  refine lv_istore_n (lv' := [(2, .int 0), (0, .ref (a 17)), (1, .int x1)]) hx hb dX7_mostTallied_1 rfl hl (by decide) rfl (fun ls hl => ?_)
  refine lv_iconst (v := 1) hx hb dX7_mostTallied_2 (by decide) ?_
  refine lv_istore_n (lv' := [(3, .int 1), (2, .int 0), (0, .ref (a 17)), (1, .int x1)]) hx hb dX7_mostTallied_3 rfl hl (by decide) rfl (fun ls hl => ?_)
  obtain ⟨z_3, hz_4, h⟩ := nx_bd h
  refine L4 _ N _ _ _ hz_4 H locs ls hP hS (lv_sub hl [2, 3, 1, 0] rfl) (fun H locs ls hP hS hl => ?_)
  refine lv_iload_n hx hb dX7_mostTallied_32 rfl (lv_at hl 1 rfl) ?_
  exact kr 33 ls z_3 () H locs dX7_mostTallied_33 (Option.some.inj h) hP hS
def f_X7_leastTallied_j46 (rec : (Int32 × Int32 × Int32) → Option (Int32)) (x1 : Int32) (x4 : Int32) (x5 : Int32) : Option (Int32) :=
  rec (x4, x5, (x4 + 1))
def f_X7_leastTallied_b8 (N : Nat) (x1 : Int32) (tally : Nat → Int32) (rec : (Int32 × Int32 × Int32) → Option (Int32)) (x2 : Int32) (x3 : Int32) (x4 : Int32) : Option (Int32) :=
  if 4 ≤ x4 then (some x2) else (if ((x1 >>> (x4 &&& 31)) &&& 1) = 0 then (rec (x2, x3, (x4 + 1))) else ((f_X7_mostTallied N x4 tally).bind fun r_2 => if x2 = (-9) then (f_X7_leastTallied_j46 rec x1 x4 r_2) else (if x3 ≤ r_2 then (rec (x2, x3, (x4 + 1))) else (f_X7_leastTallied_j46 rec x1 x4 r_2))))
def f_X7_leastTallied_l8 (N : Nat) (x1 : Int32) (tally : Nat → Int32) : Nat → (Int32 × Int32 × Int32) → Option (Int32) := nx_lp (fun rec z => f_X7_leastTallied_b8 N x1 tally rec z.1 z.2.1 z.2.2)
def f_X7_leastTallied (N : Nat) (x1 : Int32) (tally : Nat → Int32) : Option (Int32) :=
  (f_X7_leastTallied_l8 N x1 tally N ((-9), 0, 0)).bind fun z_3 => some z_3
set_option maxHeartbeats 4000000 in
set_option maxRecDepth 100000 in
theorem c_X7_leastTallied (l : Launch) (N : Nat) (E : nx_E) (sz : Nat) (a : Nat → Nat) (size : Int32) (on : Int32) (kinds : Nat → Int32) (marks : Nat → Int32) (nb : Nat → Int32) (reached : Int32) (dist : Nat → Int32) (lastW : Nat → Int32) (par : Nat → Int32) (ord : Nat → Int32) (paths : Nat → Int64) (costs : Nat → Int32) (wanted : Int32) (tlen : Int32) (onlyF : Int32) (found : Int32) (steps : Nat → Int32) (plen : Int32) (rowW : Nat → Int32) (rowS : Nat → Int32) (tally : Nat → Int32) (x1 : Int32) (o : Int32) (h : f_X7_leastTallied N x1 tally = some o) : Met l yX7_leastTallied (.code yX7_leastTallied cX7_leastTallied 6 (some .int) :: nx_T) (nx_rm 2 44) (va_Pc [.ref (a 17), .int x1] (nx_P E (nx_F) sz (cW E a size on kinds marks nb reached dist lastW par ord paths costs wanted tlen onlyF found steps plen rowW rowS tally))) (va_Qi (fun v (_ : Unit) => v = o) (fun _ t => va_P E.1 vwCl (cW E a size on kinds marks nb reached dist lastW par ord paths costs wanted tlen onlyF found steps plen rowW rowS tally) t.heap) (nx_F)) 0 0 (nx_F) := by
  refine nx_enI (fun v (_ : Unit) => v = o) (fun (_ : Unit) => (cW E a size on kinds marks nb reached dist lastW par ord paths costs wanted tlen onlyF found steps plen rowW rowS tally)) (by decide) (Nat.le_of_ble_eq_true rfl) ?_
  intro p e s m below meth c Q X kr hsz hP ls hl
  subst hsz
  generalize hargs : (List.toArray [.ref (a 17), .int x1] : Array Value) = args at X kr ⊢
  clear hargs
  obtain ⟨⟨hx, hb, hml, hown, hts⟩, hK, hSt, hNz⟩ := id X
  have hS : va_S (nx_F) s.heap s.heap [] := va_S.rf
  have hl : lv_has ls 6 [(0, .ref (a 17)), (1, .int x1)] := hl
  have L8 : ∀ (x1 : Int32) (n : Nat) (x2 : Int32) (x3 : Int32) (x4 : Int32) (z : (Int32)), f_X7_leastTallied_l8 N x1 tally n (x2, x3, x4) = some z → ∀ (H : Heap) (locs : List Loc) (ls : Array Slot), va_P E.1 vwCl (cW E a size on kinds marks nb reached dist lastW par ord paths costs wanted tlen onlyF found steps plen rowW rowS tally) H → va_S (nx_F) s.heap H locs → lv_has ls 6 [(0, .ref (a 17)), (1, .int x1), (2, .int x2), (3, .int x3), (4, .int x4)] → ∀ (kR : ∀ (H : Heap) (locs : List Loc) (ls : Array Slot), va_P E.1 vwCl (cW E a size on kinds marks nb reached dist lastW par ord paths costs wanted tlen onlyF found steps plen rowW rowS tally) H → va_S (nx_F) s.heap H locs → lv_has ls 6 [(0, .ref (a 17)), (2, .int z)] → W p l e (nx_rm 2 44) s m args below meth c H locs 0 0 Q (F0 m 58 ls [])), W p l e (nx_rm 2 44) s m args below meth c H locs 0 0 Q (F0 m 8 ls []) := by
   intro x1 n
   induction n with
   | zero => intro x2 x3 x4 z h; exact nomatch (show none = some z from h)
   | succ n ih =>
    intro x2 x3 x4 z h H locs ls hP hS hl kR
    have h : f_X7_leastTallied_b8 N x1 tally (f_X7_leastTallied_l8 N x1 tally n) x2 x3 x4 = some z := h
    have J46 : ∀ (x4 : Int32) (x5 : Int32), f_X7_leastTallied_j46 (f_X7_leastTallied_l8 N x1 tally n) x1 x4 x5 = some z → ∀ (H : Heap) (locs : List Loc) (ls : Array Slot), va_P E.1 vwCl (cW E a size on kinds marks nb reached dist lastW par ord paths costs wanted tlen onlyF found steps plen rowW rowS tally) H → va_S (nx_F) s.heap H locs → lv_has ls 6 [(0, .ref (a 17)), (1, .int x1), (4, .int x4), (5, .int x5)] → W p l e (nx_rm 2 44) s m args below meth c H locs 0 0 Q (F0 m 46 ls []) := by
      intro x4 x5 h H locs ls hP hS hl
      unfold f_X7_leastTallied_j46 at h
      refine lv_iload hx hb dX7_leastTallied_46 (lv_at hl 2 rfl) ?_
      refine lv_istore_n (lv' := [(2, .int x4), (0, .ref (a 17)), (1, .int x1), (4, .int x4), (5, .int x5)]) hx hb dX7_leastTallied_48 rfl hl (by decide) rfl (fun ls hl => ?_)
      refine lv_iload hx hb dX7_leastTallied_49 (lv_at hl 4 rfl) ?_
      refine lv_istore_n (lv' := [(3, .int x5), (2, .int x4), (0, .ref (a 17)), (1, .int x1), (4, .int x4), (5, .int x5)]) hx hb dX7_leastTallied_51 rfl hl (by decide) rfl (fun ls hl => ?_)
      refine lv_iinc (v := (x4 + 1)) (lv' := [(4, .int (x4 + 1)), (3, .int x5), (2, .int x4), (0, .ref (a 17)), (1, .int x1), (5, .int x5)]) hx hb dX7_leastTallied_52 hl (k := 4) rfl rfl (by decide) rfl (fun ls hl => ?_)
      refine lv_goto (tgt := 8) hx hb dX7_leastTallied_55 (by decide) ?_
      exact ih _ _ _ z h H locs ls hP hS (lv_sub hl [3, 4, 2, 1, 0] rfl) kR
    unfold f_X7_leastTallied_b8 at h
    refine lv_iload hx hb dX7_leastTallied_8 (lv_at hl 4 rfl) ?_
    refine lv_iconst (v := 4) hx hb dX7_leastTallied_10 (by decide) ?_
    refine lv_icmp_ge (tgt := 58) hx hb dX7_leastTallied_11 (by decide) (fun hc => ?_) (fun hc => ?_)
    · have h := nx_it h hc
      obtain rfl := Option.some.inj h
      exact kR H locs ls hP hS (lv_sub hl [0, 2] rfl)
    · have h := nx_if h hc
      refine lv_iload_n hx hb dX7_leastTallied_14 rfl (lv_at hl 1 rfl) ?_
      refine lv_iload hx hb dX7_leastTallied_15 (lv_at hl 4 rfl) ?_
      refine lv_ishr hx hb dX7_leastTallied_17 ?_
      refine lv_iconst (v := 1) hx hb dX7_leastTallied_18 (by decide) ?_
      refine lv_iand hx hb dX7_leastTallied_19 ?_
      refine lv_if_ne (tgt := 26) hx hb dX7_leastTallied_20 (by decide) (fun hc => ?_) (fun hc => ?_)
      · have h := nx_if h hc
        refine lv_aload_n hx hb dX7_leastTallied_26 rfl (lv_at hl 0 rfl) ?_
        refine lv_iload hx hb dX7_leastTallied_27 (lv_at hl 4 rfl) ?_
        obtain ⟨r_2, hc_1, h⟩ := nx_bd h
        refine nx_ki (nx_runV (As := [.int x4]) (rest := []) X hS hP (c_X7_mostTallied l N E H.size a size on kinds marks nb reached dist lastW par ord paths costs wanted tlen onlyF found steps plen rowW rowS tally x4 _ hc_1) nx_FA qV_RX7_81 ⟨rfl, rfl⟩ ⟨Nat.le_of_ble_eq_true rfl, Nat.le_of_ble_eq_true rfl⟩ ⟨Nat.zero_le _, Nat.zero_le _⟩ 17 rfl rfl rfl rfl hl.1 (Nat.le_of_ble_eq_true rfl) dX7_leastTallied_29) hS nx_FA (fun H locs hP hS => ?_)
        refine lv_istore (lv' := [(5, .int r_2), (0, .ref (a 17)), (1, .int x1), (2, .int x2), (3, .int x3), (4, .int x4)]) hx hb dX7_leastTallied_32 hl (by decide) rfl (fun ls hl => ?_)
        refine lv_iload_n hx hb dX7_leastTallied_34 rfl (lv_at hl 3 rfl) ?_
        refine lv_bipush (v := (-9)) hx hb dX7_leastTallied_35 (by decide) ?_
        refine lv_icmp_eq (tgt := 46) hx hb dX7_leastTallied_37 (by decide) (fun hc => ?_) (fun hc => ?_)
        · have h := nx_it h hc
          exact J46 _ _ h H locs ls hP hS (lv_sub hl [1, 2, 5, 0] rfl)
        · have h := nx_if h hc
          refine lv_iload hx hb dX7_leastTallied_40 (lv_at hl 0 rfl) ?_
          refine lv_iload_n hx hb dX7_leastTallied_42 rfl (lv_at hl 4 rfl) ?_
          refine lv_icmp_ge (tgt := 52) hx hb dX7_leastTallied_43 (by decide) (fun hc => ?_) (fun hc => ?_)
          · have h := nx_it h hc
            refine lv_iinc (v := (x4 + 1)) (lv' := [(4, .int (x4 + 1)), (5, .int r_2), (0, .ref (a 17)), (1, .int x1), (2, .int x2), (3, .int x3)]) hx hb dX7_leastTallied_52 hl (k := 5) rfl rfl (by decide) rfl (fun ls hl => ?_)
            refine lv_goto (tgt := 8) hx hb dX7_leastTallied_55 (by decide) ?_
            exact ih _ _ _ z h H locs ls hP hS (lv_sub hl [2, 3, 4, 5, 0] rfl) kR
          · have h := nx_if h hc
            exact J46 _ _ h H locs ls hP hS (lv_sub hl [1, 2, 5, 0] rfl)
      · have h := nx_it h hc
        refine lv_goto (tgt := 52) hx hb dX7_leastTallied_23 (by decide) ?_
        refine lv_iinc (v := (x4 + 1)) (lv' := [(4, .int (x4 + 1)), (0, .ref (a 17)), (1, .int x1), (2, .int x2), (3, .int x3)]) hx hb dX7_leastTallied_52 hl (k := 4) rfl rfl (by decide) rfl (fun ls hl => ?_)
        refine lv_goto (tgt := 8) hx hb dX7_leastTallied_55 (by decide) ?_
        exact ih _ _ _ z h H locs ls hP hS (lv_sub hl [1, 2, 3, 4, 0] rfl) kR
  unfold f_X7_leastTallied at h
  suffices hw : ∀ (H : Heap) (locs : List Loc), va_P E.1 vwCl (cW E a size on kinds marks nb reached dist lastW par ord paths costs wanted tlen onlyF found steps plen rowW rowS tally) H → va_S (nx_F) s.heap H locs → W p l e (nx_rm 2 44) s m args below meth c H locs 0 0 Q (F0 m 0 ls []) from hw _ _ hP va_S.rf
  intro H locs hP hS
  refine lv_bipush (v := (-9)) hx hb dX7_leastTallied_0 (by decide) ?_
  refine lv_istore_n (lv' := [(2, .int (-9)), (0, .ref (a 17)), (1, .int x1)]) hx hb dX7_leastTallied_2 rfl hl (by decide) rfl (fun ls hl => ?_)
  refine lv_iconst (v := 0) hx hb dX7_leastTallied_3 (by decide) ?_
  refine lv_istore_n (lv' := [(3, .int 0), (2, .int (-9)), (0, .ref (a 17)), (1, .int x1)]) hx hb dX7_leastTallied_4 rfl hl (by decide) rfl (fun ls hl => ?_)
  refine lv_iconst (v := 0) hx hb dX7_leastTallied_5 (by decide) ?_
  refine lv_istore (lv' := [(4, .int 0), (3, .int 0), (2, .int (-9)), (0, .ref (a 17)), (1, .int x1)]) hx hb dX7_leastTallied_6 hl (by decide) rfl (fun ls hl => ?_)
  obtain ⟨z_3, hz_4, h⟩ := nx_bd h
  refine L8 _ N _ _ _ _ hz_4 H locs ls hP hS (lv_sub hl [3, 4, 2, 1, 0] rfl) (fun H locs ls hP hS hl => ?_)
  refine lv_iload_n hx hb dX7_leastTallied_58 rfl (lv_at hl 1 rfl) ?_
  exact kr 59 ls z_3 () H locs dX7_leastTallied_59 (Option.some.inj h) hP hS
def f_X7_tellingWay_b15 (N : Nat) (size : Int32) (on : Int32) (kinds : Nat → Int32) (marks : Nat → Int32) (nb : Nat → Int32) (plen : Int32) (rowW : Nat → Int32) (rowS : Nat → Int32) (rec : (Int32 × Int32 × Int32 × (Nat → Int32)) → Option (Int32 × Int32 × (Nat → Int32))) (x1 : Int32) (x2 : Int32) (x3 : Int32) (tally : Nat → Int32) : Option (Int32 × Int32 × (Nat → Int32)) :=
  (f_X7_allStarts size).bind fun r_2 => if r_2 ≤ x3 then (some (x1, x2, tally)) else ((f_X7_endOf N x3 size on kinds marks nb plen rowW rowS).bind fun r_4 => if r_4 = (-1) then (rec (x1, x2, (x3 + 1), tally)) else ((f_X7_tallyFrom N r_4 size on kinds marks nb tally).bind fun t_8 => rec ((x1 + 1), (x2 &&& t_8.1), (x3 + 1), t_8.2)))
def f_X7_tellingWay_l15 (N : Nat) (size : Int32) (on : Int32) (kinds : Nat → Int32) (marks : Nat → Int32) (nb : Nat → Int32) (plen : Int32) (rowW : Nat → Int32) (rowS : Nat → Int32) : Nat → (Int32 × Int32 × Int32 × (Nat → Int32)) → Option (Int32 × Int32 × (Nat → Int32)) := nx_lp (fun rec z => f_X7_tellingWay_b15 N size on kinds marks nb plen rowW rowS rec z.1 z.2.1 z.2.2.1 z.2.2.2)
def f_X7_tellingWay (N : Nat)  (size : Int32) (on : Int32) (kinds : Nat → Int32) (marks : Nat → Int32) (nb : Nat → Int32) (plen : Int32) (rowW : Nat → Int32) (rowS : Nat → Int32) (tally : Nat → Int32) : Option (Int32 × ((Nat → Int32))) :=
  (f_J7_fill_53178_r20 N 0 tally).bind fun k_10 => (f_X7_tellingWay_l15 N size on kinds marks nb plen rowW rowS N (0, 15, 0, k_10)).bind fun z_11 => if z_11.1 = 0 then (some ((-9), z_11.2.2)) else ((f_X7_leastTallied N z_11.2.1 z_11.2.2).bind fun r_14 => some (r_14, z_11.2.2))
set_option maxHeartbeats 4000000 in
set_option maxRecDepth 100000 in
theorem c_X7_tellingWay (l : Launch) (N : Nat) (E : nx_E) (sz : Nat) (a : Nat → Nat) (size : Int32) (on : Int32) (kinds : Nat → Int32) (marks : Nat → Int32) (nb : Nat → Int32) (reached : Int32) (dist : Nat → Int32) (lastW : Nat → Int32) (par : Nat → Int32) (ord : Nat → Int32) (paths : Nat → Int64) (costs : Nat → Int32) (wanted : Int32) (tlen : Int32) (onlyF : Int32) (found : Int32) (steps : Nat → Int32) (plen : Int32) (rowW : Nat → Int32) (rowS : Nat → Int32) (tally : Nat → Int32)  (hI : nx_inj a 24) (o : Int32 × ((Nat → Int32))) (h : f_X7_tellingWay N size on kinds marks nb plen rowW rowS tally = some o) : Met l yX7_tellingWay (.code yX7_tellingWay cX7_tellingWay 5 (some .int) :: nx_T) (nx_rm 4 95) (va_Pc [.ref (a 17)] (nx_P E (nx_A a 24 sz) sz (cW E a size on kinds marks nb reached dist lastW par ord paths costs wanted tlen onlyF found steps plen rowW rowS tally))) (va_Qi (fun v u => (v, u) = o) (fun u t => va_P E.1 vwCl (cW E a size on kinds marks nb reached dist lastW par ord paths costs wanted tlen onlyF found steps plen rowW rowS u) t.heap) (nx_A a 24 sz)) 0 0 (nx_A a 24 sz) := by
  refine nx_enI (fun v u => (v, u) = o) (fun (u : (Nat → Int32)) => (cW E a size on kinds marks nb reached dist lastW par ord paths costs wanted tlen onlyF found steps plen rowW rowS u)) (by decide) (Nat.le_of_ble_eq_true rfl) ?_
  intro p e s m below meth c Q X kr hsz hP ls hl
  subst hsz
  generalize hargs : (List.toArray [.ref (a 17)] : Array Value) = args at X kr ⊢
  clear hargs
  obtain ⟨⟨hx, hb, hml, hown, hts⟩, hK, hSt, hNz⟩ := id X
  have hS : va_S (nx_A a 24 s.heap.size) s.heap s.heap [] := va_S.rf
  have hl : lv_has ls 5 [(0, .ref (a 17))] := hl
  have L15 : ∀ (n : Nat) (x1 : Int32) (x2 : Int32) (x3 : Int32) (tally : Nat → Int32) (z : (Int32 × Int32 × (Nat → Int32))), f_X7_tellingWay_l15 N size on kinds marks nb plen rowW rowS n (x1, x2, x3, tally) = some z → ∀ (H : Heap) (locs : List Loc) (ls : Array Slot), va_P E.1 vwCl (cW E a size on kinds marks nb reached dist lastW par ord paths costs wanted tlen onlyF found steps plen rowW rowS tally) H → va_S (nx_A a 24 s.heap.size) s.heap H locs → lv_has ls 5 [(0, .ref (a 17)), (1, .int x1), (2, .int x2), (3, .int x3)] → ∀ (kR : ∀ (H : Heap) (locs : List Loc) (ls : Array Slot), va_P E.1 vwCl (cW E a size on kinds marks nb reached dist lastW par ord paths costs wanted tlen onlyF found steps plen rowW rowS (z.2.2)) H → va_S (nx_A a 24 s.heap.size) s.heap H locs → lv_has ls 5 [(0, .ref (a 17)), (1, .int z.1), (2, .int z.2.1)] → W p l e (nx_rm 4 95) s m args below meth c H locs 0 0 Q (F0 m 54 ls [])), W p l e (nx_rm 4 95) s m args below meth c H locs 0 0 Q (F0 m 15 ls []) := by
   intro  n
   induction n with
   | zero => intro x1 x2 x3 tally z h; exact nomatch (show none = some z from h)
   | succ n ih =>
    intro x1 x2 x3 tally z h H locs ls hP hS hl kR
    have h : f_X7_tellingWay_b15 N size on kinds marks nb plen rowW rowS (f_X7_tellingWay_l15 N size on kinds marks nb plen rowW rowS n) x1 x2 x3 tally = some z := h
    unfold f_X7_tellingWay_b15 at h
    refine lv_iload_n hx hb dX7_tellingWay_15 rfl (lv_at hl 3 rfl) ?_
    refine lv_aload_n hx hb dX7_tellingWay_16 rfl (lv_at hl 0 rfl) ?_
    obtain ⟨r_2, hc_1, h⟩ := nx_bd h
    refine nx_ki (nx_runV (As := []) (rest := [.int x3]) X hS hP (c_X7_allStarts l E H.size a size on kinds marks nb reached dist lastW par ord paths costs wanted tlen onlyF found steps plen rowW rowS tally _ hc_1) nx_FA qV_RX7_33 ⟨rfl, rfl⟩ ⟨Nat.le_of_ble_eq_true rfl, Nat.le_of_ble_eq_true rfl⟩ ⟨Nat.zero_le _, Nat.zero_le _⟩ 17 rfl rfl rfl rfl hl.1 (Nat.le_of_ble_eq_true rfl) dX7_tellingWay_17) hS nx_FA (fun H locs hP hS => ?_)
    refine lv_icmp_ge (tgt := 54) hx hb dX7_tellingWay_20 (by decide) (fun hc => ?_) (fun hc => ?_)
    · have h := nx_it h hc
      obtain rfl := Option.some.inj h
      exact kR H locs ls hP hS (lv_sub hl [0, 1, 2] rfl)
    · have h := nx_if h hc
      refine lv_aload_n hx hb dX7_tellingWay_23 rfl (lv_at hl 0 rfl) ?_
      refine lv_iload_n hx hb dX7_tellingWay_24 rfl (lv_at hl 3 rfl) ?_
      obtain ⟨r_4, hc_3, h⟩ := nx_bd h
      refine nx_ki (nx_runV (As := [.int x3]) (rest := []) X hS hP (c_X7_endOf l N E H.size a size on kinds marks nb reached dist lastW par ord paths costs wanted tlen onlyF found steps plen rowW rowS tally x3 _ hc_3) nx_FA qV_RX7_37 ⟨rfl, rfl⟩ ⟨Nat.le_of_ble_eq_true rfl, Nat.le_of_ble_eq_true rfl⟩ ⟨Nat.zero_le _, Nat.zero_le _⟩ 17 rfl rfl rfl rfl hl.1 (Nat.le_of_ble_eq_true rfl) dX7_tellingWay_25) hS nx_FA (fun H locs hP hS => ?_)
      refine lv_istore (lv' := [(4, .int r_4), (0, .ref (a 17)), (1, .int x1), (2, .int x2), (3, .int x3)]) hx hb dX7_tellingWay_28 hl (by decide) rfl (fun ls hl => ?_)
      refine lv_iload hx hb dX7_tellingWay_30 (lv_at hl 0 rfl) ?_
      refine lv_iconst (v := (-1)) hx hb dX7_tellingWay_32 (by decide) ?_
      refine lv_icmp_eq (tgt := 48) hx hb dX7_tellingWay_33 (by decide) (fun hc => ?_) (fun hc => ?_)
      · have h := nx_it h hc
        refine lv_iinc (v := (x3 + 1)) (lv' := [(3, .int (x3 + 1)), (4, .int r_4), (0, .ref (a 17)), (1, .int x1), (2, .int x2)]) hx hb dX7_tellingWay_48 hl (k := 4) rfl rfl (by decide) rfl (fun ls hl => ?_)
        refine lv_goto (tgt := 15) hx hb dX7_tellingWay_51 (by decide) ?_
        exact ih _ _ _ _ z h H locs ls hP hS (lv_sub hl [2, 3, 4, 0] rfl) kR
      · have h := nx_if h hc
        refine lv_iinc (v := (x1 + 1)) (lv' := [(1, .int (x1 + 1)), (4, .int r_4), (0, .ref (a 17)), (2, .int x2), (3, .int x3)]) hx hb dX7_tellingWay_36 hl (k := 2) rfl rfl (by decide) rfl (fun ls hl => ?_)
        refine lv_iload_n hx hb dX7_tellingWay_39 rfl (lv_at hl 3 rfl) ?_
        refine lv_aload_n hx hb dX7_tellingWay_40 rfl (lv_at hl 2 rfl) ?_
        refine lv_iload hx hb dX7_tellingWay_41 (lv_at hl 1 rfl) ?_
        obtain ⟨⟨r_6, k_7⟩, hc_5, h⟩ := nx_bd h
        refine nx_kwi (nx_runV (As := [.int r_4]) (rest := [.int x2]) X hS hP (c_X7_tallyFrom l N E H.size a size on kinds marks nb reached dist lastW par ord paths costs wanted tlen onlyF found steps plen rowW rowS tally r_4 hI _ hc_5) (nx_Am hS.1) qV_RX7_68 ⟨rfl, rfl⟩ ⟨Nat.le_of_ble_eq_true rfl, Nat.le_of_ble_eq_true rfl⟩ ⟨Nat.zero_le _, Nat.zero_le _⟩ 17 rfl rfl rfl rfl hl.1 (Nat.le_of_ble_eq_true rfl) dX7_tellingWay_43) hS (nx_Am hS.1) (fun H locs hP hS => ?_)
        have hP : va_P E.1 vwCl (cW E a size on kinds marks nb reached dist lastW par ord paths costs wanted tlen onlyF found steps plen rowW rowS k_7) H := hP
        refine lv_iand hx hb dX7_tellingWay_46 ?_
        refine lv_istore_n (lv' := [(2, .int (x2 &&& r_6)), (1, .int (x1 + 1)), (4, .int r_4), (0, .ref (a 17)), (3, .int x3)]) hx hb dX7_tellingWay_47 rfl hl (by decide) rfl (fun ls hl => ?_)
        refine lv_iinc (v := (x3 + 1)) (lv' := [(3, .int (x3 + 1)), (2, .int (x2 &&& r_6)), (1, .int (x1 + 1)), (4, .int r_4), (0, .ref (a 17))]) hx hb dX7_tellingWay_48 hl (k := 4) rfl rfl (by decide) rfl (fun ls hl => ?_)
        refine lv_goto (tgt := 15) hx hb dX7_tellingWay_51 (by decide) ?_
        exact ih _ _ _ _ z h H locs ls hP hS (lv_sub hl [4, 2, 1, 0] rfl) kR
  unfold f_X7_tellingWay at h
  suffices hw : ∀ (H : Heap) (locs : List Loc), va_P E.1 vwCl (cW E a size on kinds marks nb reached dist lastW par ord paths costs wanted tlen onlyF found steps plen rowW rowS tally) H → va_S (nx_A a 24 s.heap.size) s.heap H locs → W p l e (nx_rm 4 95) s m args below meth c H locs 0 0 Q (F0 m 0 ls []) from hw _ _ hP va_S.rf
  intro H locs hP hS
  refine lv_aload_n hx hb dX7_tellingWay_0 rfl (lv_at hl 0 rfl) ?_
  refine nx_gf X hP uw_X7 (ci := 6) rfl 17 rfl 4 (by decide) wf_RX7_18 rfl dX7_tellingWay_1 ?_
  refine lv_iconst (v := 0) hx hb dX7_tellingWay_4 (by decide) ?_
  obtain ⟨k_10, hc_9, h⟩ := nx_bd h
  refine nx_kv (nx_runS (As := [.ref (a 20), .int 0]) (rest := []) X hS hP (c_J7_fill_53178_r20 l N E H.size a size on kinds marks nb reached dist lastW par ord paths costs wanted tlen onlyF found steps plen rowW rowS tally 0 hI _ hc_9) (nx_Am hS.1) qS_RX7_62 ⟨rfl, rfl⟩ ⟨Nat.le_of_ble_eq_true rfl, Nat.le_of_ble_eq_true rfl⟩ ⟨Nat.zero_le _, Nat.zero_le _⟩ rfl rfl hl.1 (Nat.le_of_ble_eq_true rfl) dX7_tellingWay_5) hS (nx_Am hS.1) (fun H locs hP hS => ?_)
  have hP : va_P E.1 vwCl (cW E a size on kinds marks nb reached dist lastW par ord paths costs wanted tlen onlyF found steps plen rowW rowS k_10) H := hP
  refine lv_iconst (v := 0) hx hb dX7_tellingWay_8 (by decide) ?_
  refine lv_istore_n (lv' := [(1, .int 0), (0, .ref (a 17))]) hx hb dX7_tellingWay_9 rfl hl (by decide) rfl (fun ls hl => ?_)
  refine lv_bipush (v := 15) hx hb dX7_tellingWay_10 (by decide) ?_
  refine lv_istore_n (lv' := [(2, .int 15), (1, .int 0), (0, .ref (a 17))]) hx hb dX7_tellingWay_12 rfl hl (by decide) rfl (fun ls hl => ?_)
  refine lv_iconst (v := 0) hx hb dX7_tellingWay_13 (by decide) ?_
  refine lv_istore_n (lv' := [(3, .int 0), (2, .int 15), (1, .int 0), (0, .ref (a 17))]) hx hb dX7_tellingWay_14 rfl hl (by decide) rfl (fun ls hl => ?_)
  obtain ⟨z_11, hz_12, h⟩ := nx_bd h
  refine L15  N _ _ _ _ _ hz_12 H locs ls hP hS (lv_sub hl [3, 2, 1, 0] rfl) (fun H locs ls hP hS hl => ?_)
  refine lv_iload_n hx hb dX7_tellingWay_54 rfl (lv_at hl 1 rfl) ?_
  refine lv_if_ne (tgt := 63) hx hb dX7_tellingWay_55 (by decide) (fun hc => ?_) (fun hc => ?_)
  · have h := nx_if h hc
    refine lv_aload_n hx hb dX7_tellingWay_63 rfl (lv_at hl 0 rfl) ?_
    refine lv_iload_n hx hb dX7_tellingWay_64 rfl (lv_at hl 2 rfl) ?_
    obtain ⟨r_14, hc_13, h⟩ := nx_bd h
    refine nx_ki (nx_runV (As := [.int z_11.2.1]) (rest := []) X hS hP (c_X7_leastTallied l N E H.size a size on kinds marks nb reached dist lastW par ord paths costs wanted tlen onlyF found steps plen rowW rowS z_11.2.2 z_11.2.1 _ hc_13) nx_FA qV_RX7_71 ⟨rfl, rfl⟩ ⟨Nat.le_of_ble_eq_true rfl, Nat.le_of_ble_eq_true rfl⟩ ⟨Nat.zero_le _, Nat.zero_le _⟩ 17 rfl rfl rfl rfl hl.1 (Nat.le_of_ble_eq_true rfl) dX7_tellingWay_65) hS nx_FA (fun H locs hP hS => ?_)
    exact kr 68 ls r_14 z_11.2.2 H locs dX7_tellingWay_68 (Option.some.inj h) hP hS
  · have h := nx_it h hc
    refine lv_bipush (v := (-9)) hx hb dX7_tellingWay_58 (by decide) ?_
    refine lv_goto (tgt := 68) hx hb dX7_tellingWay_60 (by decide) ?_
    exact kr 68 ls (-9) z_11.2.2 H locs dX7_tellingWay_68 (Option.some.inj h) hP hS
