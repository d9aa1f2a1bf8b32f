def f_X11_in (x0 : Int64) (x2 : Int64) (x4 : Int64)  : Option (Int32) :=
  if (lg_cmp x0 x2) < 0 then (some 0) else (if 0 < (lg_cmp x0 x4) then (some 0) else (some 1))
set_option maxHeartbeats 4000000 in
set_option maxRecDepth 100000 in
theorem c_X11_in (l : Launch) (E : nx_E) (sz : Nat) (a : Nat → Nat) (wide : Int32) (tall : Int32) (groups : Int32) (tours : Int32) (tourLength : Int32) (rowMany : Int32) (cameBy : Int32) (top : Nat → Int32) (east : Nat → Int32) (south : Nat → Int32) (rolled : Nat → Int32) (off : Nat → Int32) (kind : Nat → Int32) (mark : Nat → Int32) (rolls : Nat → Int32) (many : Nat → Int64) (onward : Nat → Int32) (at_ : Nat → Int32) (goes : Nat → Int32) (firstTour : Nat → Int32) (rowWay : Nat → Int32) (rowSeen : Nat → Int32) (prints : Nat → Int32) (homeward : Nat → Int32) (x0 : Int64) (x2 : Int64) (x4 : Int64) (o : Int32) (h : f_X11_in x0 x2 x4 = some o) : Met l yX11_in (.code yX11_in cX11_in 6 (some .boolean) :: nx_T) (nx_rm 0 0) (va_Pc [.long x0, .long x2, .long x4] (nx_P E (nx_F) sz (mW E a wide tall groups tours tourLength rowMany cameBy top east south rolled off kind mark rolls many onward at_ goes firstTour rowWay rowSeen prints homeward))) (va_Qi (fun v (_ : Unit) => v = o) (fun _ t => va_P E.1 vwCl (mW E a wide tall groups tours tourLength rowMany cameBy top east south rolled off kind mark rolls many onward at_ goes firstTour rowWay rowSeen prints homeward) t.heap) (nx_F)) 0 0 (nx_F) := by
  refine nx_enZ (fun v (_ : Unit) => v = o) (fun (_ : Unit) => (mW E a wide tall groups tours tourLength rowMany cameBy top east south rolled off kind mark rolls many onward at_ goes firstTour rowWay rowSeen prints homeward)) (by decide) (Nat.le_of_ble_eq_true rfl) ?_
  intro p e s m below meth c Q X kr hsz hP ls hl
  subst hsz
  generalize hargs : (List.toArray [.long x0, .long x2, .long x4] : Array Value) = args at X kr ⊢
  clear hargs
  obtain ⟨⟨hx, hb, hml, hown, hts⟩, hK, hSt, hNz⟩ := id X
  have hS : va_S (nx_F) s.heap s.heap [] := va_S.rf
  have hl : lv_has ls 6 [(0, .long x0), (2, .long x2), (4, .long x4)] := hl
  unfold f_X11_in at h
  suffices hw : ∀ (H : Heap) (locs : List Loc), va_P E.1 vwCl (mW E a wide tall groups tours tourLength rowMany cameBy top east south rolled off kind mark rolls many onward at_ goes firstTour rowWay rowSeen prints homeward) H → va_S (nx_F) s.heap H locs → W p l e (nx_rm 0 0) s m args below meth c H locs 0 0 Q (F0 m 0 ls []) from hw _ _ hP va_S.rf
  intro H locs hP hS
  refine lv_lload_n hx hb dX11_in_0 rfl (lv_at hl 0 rfl) ?_
  refine lv_lload_n hx hb dX11_in_1 rfl (lv_at hl 1 rfl) ?_
  refine W.lcmp hx hb dX11_in_2 ?_
  refine lv_if_lt (tgt := 17) hx hb dX11_in_3 (by decide) (fun hc => ?_) (fun hc => ?_)
  · have h := nx_it h hc
    refine lv_iconst (v := 0) hx hb dX11_in_17 (by decide) ?_
    exact kr 18 ls 0 () H locs dX11_in_18 (Or.inl rfl) (Option.some.inj h) hP hS
  · have h := nx_if h hc
    refine lv_lload_n hx hb dX11_in_6 rfl (lv_at hl 0 rfl) ?_
    refine lv_lload hx hb dX11_in_7 (lv_at hl 2 rfl) ?_
    refine W.lcmp hx hb dX11_in_9 ?_
    refine lv_if_gt (tgt := 17) hx hb dX11_in_10 (by decide) (fun hc => ?_) (fun hc => ?_)
    · have h := nx_it h hc
      refine lv_iconst (v := 0) hx hb dX11_in_17 (by decide) ?_
      exact kr 18 ls 0 () H locs dX11_in_18 (Or.inl rfl) (Option.some.inj h) hP hS
    · have h := nx_if h hc
      refine lv_iconst (v := 1) hx hb dX11_in_13 (by decide) ?_
      refine lv_goto (tgt := 18) hx hb dX11_in_14 (by decide) ?_
      exact kr 18 ls 1 () H locs dX11_in_18 (Or.inr rfl) (Option.some.inj h) hP hS
def f_X11_stanceOf_b2 (x1 : Int32) (x2 : Int32) (top : Nat → Int32) (east : Nat → Int32) (rec : (Int32) → Option ((Int32) ⊕ (Unit))) (x3 : Int32) : Option ((Int32) ⊕ (Unit)) :=
  if 24 ≤ x3 then (some (.inr ())) else ((nx_rd top 24 x3).bind fun _ => if (top x3.toNatClampNeg) = x1 then ((nx_rd east 24 x3).bind fun _ => if (east x3.toNatClampNeg) = x2 then (some (.inl x3)) else (rec (x3 + 1))) else (rec (x3 + 1)))
def f_X11_stanceOf_l2 (x1 : Int32) (x2 : Int32) (top : Nat → Int32) (east : Nat → Int32) : Nat → (Int32) → Option ((Int32) ⊕ (Unit)) := nx_lp (fun rec z => f_X11_stanceOf_b2 x1 x2 top east rec z)
def f_X11_stanceOf (N : Nat) (x1 : Int32) (x2 : Int32) (top : Nat → Int32) (east : Nat → Int32) : Option (Int32) :=
  (f_X11_stanceOf_l2 x1 x2 top east N 0).bind fun z_5 => Sum.elim (fun rr => some rr) (fun y_7 => some (-9)) z_5
set_option maxHeartbeats 4000000 in
set_option maxRecDepth 100000 in
theorem c_X11_stanceOf (l : Launch) (N : Nat) (E : nx_E) (sz : Nat) (a : Nat → Nat) (wide : Int32) (tall : Int32) (groups : Int32) (tours : Int32) (tourLength : Int32) (rowMany : Int32) (cameBy : Int32) (top : Nat → Int32) (east : Nat → Int32) (south : Nat → Int32) (rolled : Nat → Int32) (off : Nat → Int32) (kind : Nat → Int32) (mark : Nat → Int32) (rolls : Nat → Int32) (many : Nat → Int64) (onward : Nat → Int32) (at_ : Nat → Int32) (goes : Nat → Int32) (firstTour : Nat → Int32) (rowWay : Nat → Int32) (rowSeen : Nat → Int32) (prints : Nat → Int32) (homeward : Nat → Int32) (x1 : Int32) (x2 : Int32) (o : Int32) (h : f_X11_stanceOf N x1 x2 top east = some o) : Met l yX11_stanceOf (.code yX11_stanceOf cX11_stanceOf 4 (some .int) :: nx_T) (nx_rm 0 0) (va_Pc [.ref (a 0), .int x1, .int x2] (nx_P E (nx_F) sz (mW E a wide tall groups tours tourLength rowMany cameBy top east south rolled off kind mark rolls many onward at_ goes firstTour rowWay rowSeen prints homeward))) (va_Qi (fun v (_ : Unit) => v = o) (fun _ t => va_P E.1 vwCl (mW E a wide tall groups tours tourLength rowMany cameBy top east south rolled off kind mark rolls many onward at_ goes firstTour rowWay rowSeen prints homeward) t.heap) (nx_F)) 0 0 (nx_F) := by
  refine nx_enI (fun v (_ : Unit) => v = o) (fun (_ : Unit) => (mW E a wide tall groups tours tourLength rowMany cameBy top east south rolled off kind mark rolls many onward at_ goes firstTour rowWay rowSeen prints homeward)) (by decide) (Nat.le_of_ble_eq_true rfl) ?_
  intro p e s m below meth c Q X kr hsz hP ls hl
  subst hsz
  generalize hargs : (List.toArray [.ref (a 0), .int x1, .int x2] : Array Value) = args at X kr ⊢
  clear hargs
  obtain ⟨⟨hx, hb, hml, hown, hts⟩, hK, hSt, hNz⟩ := id X
  have hS : va_S (nx_F) s.heap s.heap [] := va_S.rf
  have hl : lv_has ls 4 [(0, .ref (a 0)), (1, .int x1), (2, .int x2)] := hl
  have L2 : ∀ (x1 : Int32) (x2 : Int32) (n : Nat) (x3 : Int32) (z : ((Int32) ⊕ (Unit))), f_X11_stanceOf_l2 x1 x2 top east n x3 = some z → ∀ (H : Heap) (locs : List Loc) (ls : Array Slot), va_P E.1 vwCl (mW E a wide tall groups tours tourLength rowMany cameBy top east south rolled off kind mark rolls many onward at_ goes firstTour rowWay rowSeen prints homeward) H → va_S (nx_F) s.heap H locs → lv_has ls 4 [(0, .ref (a 0)), (1, .int x1), (2, .int x2), (3, .int x3)] → ∀ (kL : ∀ r, z = .inl r → ∀ (pc : Nat) (ls : Array Slot) (v : Int32) (u : Unit) (H : Heap) (locs : List Loc), decode cX11_stanceOf pc = .ok (.ireturn, 1) → v = r → va_P E.1 vwCl (mW E a wide tall groups tours tourLength rowMany cameBy top east south rolled off kind mark rolls many onward at_ goes firstTour rowWay rowSeen prints homeward) H → va_S (nx_F) s.heap H locs → W p l e (nx_rm 0 0) s m args below meth c H locs 0 0 Q (F0 m pc ls [.int v])) (kR : ∀ y, z = .inr y → ∀ (H : Heap) (locs : List Loc) (ls : Array Slot), va_P E.1 vwCl (mW E a wide tall groups tours tourLength rowMany cameBy top east south rolled off kind mark rolls many onward at_ goes firstTour rowWay rowSeen prints homeward) H → va_S (nx_F) s.heap H locs → lv_has ls 4 [(0, .ref (a 0))] → W p l e (nx_rm 0 0) s m args below meth c H locs 0 0 Q (F0 m 36 ls [])), W p l e (nx_rm 0 0) s m args below meth c H locs 0 0 Q (F0 m 2 ls []) := by
   intro x1 x2 n
   induction n with
   | zero => intro x3 z h; exact nomatch (show none = some z from h)
   | succ n ih =>
    intro x3 z h H locs ls hP hS hl kL kR
    have h : f_X11_stanceOf_b2 x1 x2 top east (f_X11_stanceOf_l2 x1 x2 top east n) x3 = some z := h
    unfold f_X11_stanceOf_b2 at h
    refine lv_iload_n hx hb dX11_stanceOf_2 rfl (lv_at hl 3 rfl) ?_
    refine lv_bipush (v := 24) hx hb dX11_stanceOf_3 (by decide) ?_
    refine lv_icmp_ge (tgt := 36) hx hb dX11_stanceOf_5 (by decide) (fun hc => ?_) (fun hc => ?_)
    · have h := nx_it h hc
      exact kR _ (Option.some.inj h).symm H locs ls hP hS (lv_sub hl [0] rfl)
    · have h := nx_if h hc
      refine lv_aload_n hx hb dX11_stanceOf_8 rfl (lv_at hl 0 rfl) ?_
      refine nx_gf X hP uw_X11 (ci := 10) rfl 0 rfl 0 (by decide) wf_RX11_7 rfl dX11_stanceOf_9 ?_
      refine lv_iload_n hx hb dX11_stanceOf_12 rfl (lv_at hl 3 rfl) ?_
      obtain ⟨hv_1, h⟩ := nx_rb h
      refine nx_ld X hP 1 rfl hv_1 dX11_stanceOf_13 ?_
      refine lv_iload_n hx hb dX11_stanceOf_14 rfl (lv_at hl 1 rfl) ?_
      refine lv_icmp_ne (tgt := 30) hx hb dX11_stanceOf_15 (by decide) (fun hc => ?_) (fun hc => ?_)
      · have h := nx_if h hc
        refine lv_iinc (v := (x3 + 1)) (lv' := [(3, .int (x3 + 1)), (0, .ref (a 0)), (1, .int x1), (2, .int x2)]) hx hb dX11_stanceOf_30 hl (k := 3) rfl rfl (by decide) rfl (fun ls hl => ?_)
        refine lv_goto (tgt := 2) hx hb dX11_stanceOf_33 (by decide) ?_
        exact ih _ z h H locs ls hP hS (lv_sub hl [1, 2, 3, 0] rfl) kL kR
      · have h := nx_it h hc
        refine lv_aload_n hx hb dX11_stanceOf_18 rfl (lv_at hl 0 rfl) ?_
        refine nx_gf X hP uw_X11 (ci := 10) rfl 0 rfl 1 (by decide) wf_RX11_13 rfl dX11_stanceOf_19 ?_
        refine lv_iload_n hx hb dX11_stanceOf_22 rfl (lv_at hl 3 rfl) ?_
        obtain ⟨hv_3, h⟩ := nx_rb h
        refine nx_ld X hP 2 rfl hv_3 dX11_stanceOf_23 ?_
        refine lv_iload_n hx hb dX11_stanceOf_24 rfl (lv_at hl 2 rfl) ?_
        refine lv_icmp_ne (tgt := 30) hx hb dX11_stanceOf_25 (by decide) (fun hc => ?_) (fun hc => ?_)
        · have h := nx_if h hc
          refine lv_iinc (v := (x3 + 1)) (lv' := [(3, .int (x3 + 1)), (0, .ref (a 0)), (1, .int x1), (2, .int x2)]) hx hb dX11_stanceOf_30 hl (k := 3) rfl rfl (by decide) rfl (fun ls hl => ?_)
          refine lv_goto (tgt := 2) hx hb dX11_stanceOf_33 (by decide) ?_
          exact ih _ z h H locs ls hP hS (lv_sub hl [1, 2, 3, 0] rfl) kL kR
        · have h := nx_it h hc
          refine lv_iload_n hx hb dX11_stanceOf_28 rfl (lv_at hl 3 rfl) ?_
          exact kL _ (Option.some.inj h).symm 29 ls x3 () H locs dX11_stanceOf_29 rfl hP hS
  unfold f_X11_stanceOf at h
  suffices hw : ∀ (H : Heap) (locs : List Loc), va_P E.1 vwCl (mW E a wide tall groups tours tourLength rowMany cameBy top east south rolled off kind mark rolls many onward at_ goes firstTour rowWay rowSeen prints homeward) H → va_S (nx_F) s.heap H locs → W p l e (nx_rm 0 0) s m args below meth c H locs 0 0 Q (F0 m 0 ls []) from hw _ _ hP va_S.rf
  intro H locs hP hS
  refine lv_iconst (v := 0) hx hb dX11_stanceOf_0 (by decide) ?_
  refine lv_istore_n (lv' := [(3, .int 0), (0, .ref (a 0)), (1, .int x1), (2, .int x2)]) hx hb dX11_stanceOf_1 rfl hl (by decide) rfl (fun ls hl => ?_)
  obtain ⟨z_5, hz_6, h⟩ := nx_bd h
  refine L2 _ _ N _ _ hz_6 H locs ls hP hS (lv_sub hl [1, 2, 3, 0] rfl) ?_ ?_
  · intro rr hr
    subst hr
    have h := Option.some.inj h; subst h
    exact kr
  intro y_7 hr H locs ls hP hS hl
  subst hr
  refine lv_bipush (v := (-9)) hx hb dX11_stanceOf_36 (by decide) ?_
  exact kr 38 ls (-9) () H locs dX11_stanceOf_38 (Option.some.inj h) hP hS
def f_X11_topAfter (x1 : Int32) (x2 : Int32) (east : Nat → Int32) (south : Nat → Int32) : Option (Int32) :=
  if x2 = 0 then ((nx_rd east 24 x1).bind fun _ => some (7 - (east x1.toNatClampNeg))) else (if x2 = 1 then ((nx_rd south 24 x1).bind fun _ => some (7 - (south x1.toNatClampNeg))) else (if x2 = 2 then ((nx_rd east 24 x1).bind fun _ => some (east x1.toNatClampNeg)) else ((nx_rd south 24 x1).bind fun _ => some (south x1.toNatClampNeg))))
set_option maxHeartbeats 4000000 in
set_option maxRecDepth 100000 in
theorem c_X11_topAfter (l : Launch) (E : nx_E) (sz : Nat) (a : Nat → Nat) (wide : Int32) (tall : Int32) (groups : Int32) (tours : Int32) (tourLength : Int32) (rowMany : Int32) (cameBy : Int32) (top : Nat → Int32) (east : Nat → Int32) (south : Nat → Int32) (rolled : Nat → Int32) (off : Nat → Int32) (kind : Nat → Int32) (mark : Nat → Int32) (rolls : Nat → Int32) (many : Nat → Int64) (onward : Nat → Int32) (at_ : Nat → Int32) (goes : Nat → Int32) (firstTour : Nat → Int32) (rowWay : Nat → Int32) (rowSeen : Nat → Int32) (prints : Nat → Int32) (homeward : Nat → Int32) (x1 : Int32) (x2 : Int32) (o : Int32) (h : f_X11_topAfter x1 x2 east south = some o) : Met l yX11_topAfter (.code yX11_topAfter cX11_topAfter 3 (some .int) :: nx_T) (nx_rm 0 0) (va_Pc [.ref (a 0), .int x1, .int x2] (nx_P E (nx_F) sz (mW E a wide tall groups tours tourLength rowMany cameBy top east south rolled off kind mark rolls many onward at_ goes firstTour rowWay rowSeen prints homeward))) (va_Qi (fun v (_ : Unit) => v = o) (fun _ t => va_P E.1 vwCl (mW E a wide tall groups tours tourLength rowMany cameBy top east south rolled off kind mark rolls many onward at_ goes firstTour rowWay rowSeen prints homeward) t.heap) (nx_F)) 0 0 (nx_F) := by
  refine nx_enI (fun v (_ : Unit) => v = o) (fun (_ : Unit) => (mW E a wide tall groups tours tourLength rowMany cameBy top east south rolled off kind mark rolls many onward at_ goes firstTour rowWay rowSeen prints homeward)) (by decide) (Nat.le_of_ble_eq_true rfl) ?_
  intro p e s m below meth c Q X kr hsz hP ls hl
  subst hsz
  generalize hargs : (List.toArray [.ref (a 0), .int x1, .int x2] : Array Value) = args at X kr ⊢
  clear hargs
  obtain ⟨⟨hx, hb, hml, hown, hts⟩, hK, hSt, hNz⟩ := id X
  have hS : va_S (nx_F) s.heap s.heap [] := va_S.rf
  have hl : lv_has ls 3 [(0, .ref (a 0)), (1, .int x1), (2, .int x2)] := hl
  unfold f_X11_topAfter at h
  suffices hw : ∀ (H : Heap) (locs : List Loc), va_P E.1 vwCl (mW E a wide tall groups tours tourLength rowMany cameBy top east south rolled off kind mark rolls many onward at_ goes firstTour rowWay rowSeen prints homeward) H → va_S (nx_F) s.heap H locs → W p l e (nx_rm 0 0) s m args below meth c H locs 0 0 Q (F0 m 0 ls []) from hw _ _ hP va_S.rf
  intro H locs hP hS
  refine lv_iload_n hx hb dX11_topAfter_0 rfl (lv_at hl 2 rfl) ?_
  refine lv_if_ne (tgt := 16) hx hb dX11_topAfter_1 (by decide) (fun hc => ?_) (fun hc => ?_)
  · have h := nx_if h hc
    refine lv_iload_n hx hb dX11_topAfter_16 rfl (lv_at hl 2 rfl) ?_
    refine lv_iconst (v := 1) hx hb dX11_topAfter_17 (by decide) ?_
    refine lv_icmp_ne (tgt := 33) hx hb dX11_topAfter_18 (by decide) (fun hc => ?_) (fun hc => ?_)
    · have h := nx_if h hc
      refine lv_iload_n hx hb dX11_topAfter_33 rfl (lv_at hl 2 rfl) ?_
      refine lv_iconst (v := 2) hx hb dX11_topAfter_34 (by decide) ?_
      refine lv_icmp_ne (tgt := 47) hx hb dX11_topAfter_35 (by decide) (fun hc => ?_) (fun hc => ?_)
      · have h := nx_if h hc
        refine lv_aload_n hx hb dX11_topAfter_47 rfl (lv_at hl 0 rfl) ?_
        refine nx_gf X hP uw_X11 (ci := 10) rfl 0 rfl 2 (by decide) wf_RX11_16 rfl dX11_topAfter_48 ?_
        refine lv_iload_n hx hb dX11_topAfter_51 rfl (lv_at hl 1 rfl) ?_
        obtain ⟨hv_1, h⟩ := nx_rb h
        refine nx_ld X hP 3 rfl hv_1 dX11_topAfter_52 ?_
        exact kr 53 ls (south x1.toNatClampNeg) () H locs dX11_topAfter_53 (Option.some.inj h) hP hS
      · have h := nx_it h hc
        refine lv_aload_n hx hb dX11_topAfter_38 rfl (lv_at hl 0 rfl) ?_
        refine nx_gf X hP uw_X11 (ci := 10) rfl 0 rfl 1 (by decide) wf_RX11_13 rfl dX11_topAfter_39 ?_
        refine lv_iload_n hx hb dX11_topAfter_42 rfl (lv_at hl 1 rfl) ?_
        obtain ⟨hv_3, h⟩ := nx_rb h
        refine nx_ld X hP 2 rfl hv_3 dX11_topAfter_43 ?_
        refine lv_goto (tgt := 53) hx hb dX11_topAfter_44 (by decide) ?_
        exact kr 53 ls (east x1.toNatClampNeg) () H locs dX11_topAfter_53 (Option.some.inj h) hP hS
    · have h := nx_it h hc
      refine lv_bipush (v := 7) hx hb dX11_topAfter_21 (by decide) ?_
      refine lv_aload_n hx hb dX11_topAfter_23 rfl (lv_at hl 0 rfl) ?_
      refine nx_gf X hP uw_X11 (ci := 10) rfl 0 rfl 2 (by decide) wf_RX11_16 rfl dX11_topAfter_24 ?_
      refine lv_iload_n hx hb dX11_topAfter_27 rfl (lv_at hl 1 rfl) ?_
      obtain ⟨hv_5, h⟩ := nx_rb h
      refine nx_ld X hP 3 rfl hv_5 dX11_topAfter_28 ?_
      refine lv_isub hx hb dX11_topAfter_29 ?_
      refine lv_goto (tgt := 53) hx hb dX11_topAfter_30 (by decide) ?_
      exact kr 53 ls (7 - (south x1.toNatClampNeg)) () H locs dX11_topAfter_53 (Option.some.inj h) hP hS
  · have h := nx_it h hc
    refine lv_bipush (v := 7) hx hb dX11_topAfter_4 (by decide) ?_
    refine lv_aload_n hx hb dX11_topAfter_6 rfl (lv_at hl 0 rfl) ?_
    refine nx_gf X hP uw_X11 (ci := 10) rfl 0 rfl 1 (by decide) wf_RX11_13 rfl dX11_topAfter_7 ?_
    refine lv_iload_n hx hb dX11_topAfter_10 rfl (lv_at hl 1 rfl) ?_
    obtain ⟨hv_7, h⟩ := nx_rb h
    refine nx_ld X hP 2 rfl hv_7 dX11_topAfter_11 ?_
    refine lv_isub hx hb dX11_topAfter_12 ?_
    refine lv_goto (tgt := 53) hx hb dX11_topAfter_13 (by decide) ?_
    exact kr 53 ls (7 - (east x1.toNatClampNeg)) () H locs dX11_topAfter_53 (Option.some.inj h) hP hS
def f_X11_eastAfter (x1 : Int32) (x2 : Int32) (top : Nat → Int32) (east : Nat → Int32) : Option (Int32) :=
  if x2 = 0 then ((nx_rd top 24 x1).bind fun _ => some (top x1.toNatClampNeg)) else (if x2 = 2 then ((nx_rd top 24 x1).bind fun _ => some (7 - (top x1.toNatClampNeg))) else ((nx_rd east 24 x1).bind fun _ => some (east x1.toNatClampNeg)))
set_option maxHeartbeats 4000000 in
set_option maxRecDepth 100000 in
theorem c_X11_eastAfter (l : Launch) (E : nx_E) (sz : Nat) (a : Nat → Nat) (wide : Int32) (tall : Int32) (groups : Int32) (tours : Int32) (tourLength : Int32) (rowMany : Int32) (cameBy : Int32) (top : Nat → Int32) (east : Nat → Int32) (south : Nat → Int32) (rolled : Nat → Int32) (off : Nat → Int32) (kind : Nat → Int32) (mark : Nat → Int32) (rolls : Nat → Int32) (many : Nat → Int64) (onward : Nat → Int32) (at_ : Nat → Int32) (goes : Nat → Int32) (firstTour : Nat → Int32) (rowWay : Nat → Int32) (rowSeen : Nat → Int32) (prints : Nat → Int32) (homeward : Nat → Int32) (x1 : Int32) (x2 : Int32) (o : Int32) (h : f_X11_eastAfter x1 x2 top east = some o) : Met l yX11_eastAfter (.code yX11_eastAfter cX11_eastAfter 3 (some .int) :: nx_T) (nx_rm 0 0) (va_Pc [.ref (a 0), .int x1, .int x2] (nx_P E (nx_F) sz (mW E a wide tall groups tours tourLength rowMany cameBy top east south rolled off kind mark rolls many onward at_ goes firstTour rowWay rowSeen prints homeward))) (va_Qi (fun v (_ : Unit) => v = o) (fun _ t => va_P E.1 vwCl (mW E a wide tall groups tours tourLength rowMany cameBy top east south rolled off kind mark rolls many onward at_ goes firstTour rowWay rowSeen prints homeward) t.heap) (nx_F)) 0 0 (nx_F) := by
  refine nx_enI (fun v (_ : Unit) => v = o) (fun (_ : Unit) => (mW E a wide tall groups tours tourLength rowMany cameBy top east south rolled off kind mark rolls many onward at_ goes firstTour rowWay rowSeen prints homeward)) (by decide) (Nat.le_of_ble_eq_true rfl) ?_
  intro p e s m below meth c Q X kr hsz hP ls hl
  subst hsz
  generalize hargs : (List.toArray [.ref (a 0), .int x1, .int x2] : Array Value) = args at X kr ⊢
  clear hargs
  obtain ⟨⟨hx, hb, hml, hown, hts⟩, hK, hSt, hNz⟩ := id X
  have hS : va_S (nx_F) s.heap s.heap [] := va_S.rf
  have hl : lv_has ls 3 [(0, .ref (a 0)), (1, .int x1), (2, .int x2)] := hl
  unfold f_X11_eastAfter at h
  suffices hw : ∀ (H : Heap) (locs : List Loc), va_P E.1 vwCl (mW E a wide tall groups tours tourLength rowMany cameBy top east south rolled off kind mark rolls many onward at_ goes firstTour rowWay rowSeen prints homeward) H → va_S (nx_F) s.heap H locs → W p l e (nx_rm 0 0) s m args below meth c H locs 0 0 Q (F0 m 0 ls []) from hw _ _ hP va_S.rf
  intro H locs hP hS
  refine lv_iload_n hx hb dX11_eastAfter_0 rfl (lv_at hl 2 rfl) ?_
  refine lv_if_ne (tgt := 13) hx hb dX11_eastAfter_1 (by decide) (fun hc => ?_) (fun hc => ?_)
  · have h := nx_if h hc
    refine lv_iload_n hx hb dX11_eastAfter_13 rfl (lv_at hl 2 rfl) ?_
    refine lv_iconst (v := 2) hx hb dX11_eastAfter_14 (by decide) ?_
    refine lv_icmp_ne (tgt := 30) hx hb dX11_eastAfter_15 (by decide) (fun hc => ?_) (fun hc => ?_)
    · have h := nx_if h hc
      refine lv_aload_n hx hb dX11_eastAfter_30 rfl (lv_at hl 0 rfl) ?_
      refine nx_gf X hP uw_X11 (ci := 10) rfl 0 rfl 1 (by decide) wf_RX11_13 rfl dX11_eastAfter_31 ?_
      refine lv_iload_n hx hb dX11_eastAfter_34 rfl (lv_at hl 1 rfl) ?_
      obtain ⟨hv_1, h⟩ := nx_rb h
      refine nx_ld X hP 2 rfl hv_1 dX11_eastAfter_35 ?_
      exact kr 36 ls (east x1.toNatClampNeg) () H locs dX11_eastAfter_36 (Option.some.inj h) hP hS
    · have h := nx_it h hc
      refine lv_bipush (v := 7) hx hb dX11_eastAfter_18 (by decide) ?_
      refine lv_aload_n hx hb dX11_eastAfter_20 rfl (lv_at hl 0 rfl) ?_
      refine nx_gf X hP uw_X11 (ci := 10) rfl 0 rfl 0 (by decide) wf_RX11_7 rfl dX11_eastAfter_21 ?_
      refine lv_iload_n hx hb dX11_eastAfter_24 rfl (lv_at hl 1 rfl) ?_
      obtain ⟨hv_3, h⟩ := nx_rb h
      refine nx_ld X hP 1 rfl hv_3 dX11_eastAfter_25 ?_
      refine lv_isub hx hb dX11_eastAfter_26 ?_
      refine lv_goto (tgt := 36) hx hb dX11_eastAfter_27 (by decide) ?_
      exact kr 36 ls (7 - (top x1.toNatClampNeg)) () H locs dX11_eastAfter_36 (Option.some.inj h) hP hS
  · have h := nx_it h hc
    refine lv_aload_n hx hb dX11_eastAfter_4 rfl (lv_at hl 0 rfl) ?_
    refine nx_gf X hP uw_X11 (ci := 10) rfl 0 rfl 0 (by decide) wf_RX11_7 rfl dX11_eastAfter_5 ?_
    refine lv_iload_n hx hb dX11_eastAfter_8 rfl (lv_at hl 1 rfl) ?_
    obtain ⟨hv_5, h⟩ := nx_rb h
    refine nx_ld X hP 1 rfl hv_5 dX11_eastAfter_9 ?_
    refine lv_goto (tgt := 36) hx hb dX11_eastAfter_10 (by decide) ?_
    exact kr 36 ls (top x1.toNatClampNeg) () H locs dX11_eastAfter_36 (Option.some.inj h) hP hS
def f_X11_laySouths_j146 (rec : (Int32 × Int32 × (Nat → Int32) × (Nat → Int32)) → Option (Int32 × (Nat → Int32) × (Nat → Int32))) (x1 : Int32) (x2 : Int32) (s0 : Int32) (s1 : Int32) (south : Nat → Int32) (rolled : Nat → Int32) : Option (Int32 × (Nat → Int32) × (Nat → Int32)) :=
  (nx_ck 24 s1).bind fun _ => rec (x1, (x2 + 1), (upd south s1.toNatClampNeg s0), rolled)
def f_X11_laySouths_j98 (rec : (Int32 × Int32 × (Nat → Int32) × (Nat → Int32)) → Option (Int32 × (Nat → Int32) × (Nat → Int32))) (x2 : Int32) (x3 : Int32) (x6 : Int32) (s0 : Int32) (top : Nat → Int32) (south : Nat → Int32) (rolled : Nat → Int32) : Option (Int32 × (Nat → Int32) × (Nat → Int32)) :=
  if (x2 - x2 / 4 * 4) = 1 then ((nx_rd top 24 x3).bind fun _ => f_X11_laySouths_j146 rec s0 x2 (top x3.toNatClampNeg) x6 south rolled) else (if (x2 - x2 / 4 * 4) = 3 then ((nx_rd top 24 x3).bind fun _ => f_X11_laySouths_j146 rec s0 x2 (7 - (top x3.toNatClampNeg)) x6 south rolled) else ((nx_rd south 24 x3).bind fun _ => f_X11_laySouths_j146 rec s0 x2 (south x3.toNatClampNeg) x6 south rolled))
def f_X11_laySouths_b22 (N : Nat) (top : Nat → Int32) (east : Nat → Int32) (rec : (Int32 × Int32 × (Nat → Int32) × (Nat → Int32)) → Option (Int32 × (Nat → Int32) × (Nat → Int32))) (x1 : Int32) (x2 : Int32) (south : Nat → Int32) (rolled : Nat → Int32) : Option (Int32 × (Nat → Int32) × (Nat → Int32)) :=
  if 96 ≤ x2 then (some (x1, south, rolled)) else ((nx_rd south 24 (x2 / 4)).bind fun _ => if (south (x2 / 4).toNatClampNeg) ≤ 0 then (rec (x1, (x2 + 1), south, rolled)) else ((f_X11_topAfter (x2 / 4) (x2 - x2 / 4 * 4) east south).bind fun r_11 => (f_X11_eastAfter (x2 / 4) (x2 - x2 / 4 * 4) top east).bind fun r_13 => (f_X11_stanceOf N r_11 r_13 top east).bind fun r_15 => (nx_ck 96 x2).bind fun _ => if x1 = 0 then ((nx_rd south 24 r_15).bind fun _ => if (south r_15.toNatClampNeg) = 0 then (f_X11_laySouths_j98 rec x2 (x2 / 4) r_15 1 top south (upd rolled x2.toNatClampNeg r_15)) else (f_X11_laySouths_j98 rec x2 (x2 / 4) r_15 0 top south (upd rolled x2.toNatClampNeg r_15))) else (f_X11_laySouths_j98 rec x2 (x2 / 4) r_15 1 top south (upd rolled x2.toNatClampNeg r_15))))
def f_X11_laySouths_l22 (N : Nat) (top : Nat → Int32) (east : Nat → Int32) : Nat → (Int32 × Int32 × (Nat → Int32) × (Nat → Int32)) → Option (Int32 × (Nat → Int32) × (Nat → Int32)) := nx_lp (fun rec z => f_X11_laySouths_b22 N top east rec z.1 z.2.1 z.2.2.1 z.2.2.2)
def f_X11_laySouths_b14 (N : Nat) (top : Nat → Int32) (east : Nat → Int32) (rec : (Int32 × (Nat → Int32) × (Nat → Int32)) → Option ((Nat → Int32) × (Nat → Int32))) (x1 : Int32) (south : Nat → Int32) (rolled : Nat → Int32) : Option ((Nat → Int32) × (Nat → Int32)) :=
  if x1 = 0 then (some (south, rolled)) else ((f_X11_laySouths_l22 N top east N (0, 0, south, rolled)).bind fun z_19 => rec (z_19.1, z_19.2.1, z_19.2.2))
def f_X11_laySouths_l14 (N : Nat) (top : Nat → Int32) (east : Nat → Int32) : Nat → (Int32 × (Nat → Int32) × (Nat → Int32)) → Option ((Nat → Int32) × (Nat → Int32)) := nx_lp (fun rec z => f_X11_laySouths_b14 N top east rec z.1 z.2.1 z.2.2)
def f_X11_laySouths (N : Nat)  (top : Nat → Int32) (east : Nat → Int32) (south : Nat → Int32) (rolled : Nat → Int32) : Option ((Nat → Int32) × (Nat → Int32)) :=
  (f_X11_stanceOf N 1 3 top east).bind fun r_22 => (nx_ck 24 r_22).bind fun _ => (f_X11_laySouths_l14 N top east N (1, (upd south r_22.toNatClampNeg 2), rolled)).bind fun z_24 => some (z_24.1, z_24.2)
set_option maxHeartbeats 4000000 in
set_option maxRecDepth 100000 in
theorem c_X11_laySouths (l : Launch) (N : Nat) (E : nx_E) (sz : Nat) (a : Nat → Nat) (wide : Int32) (tall : Int32) (groups : Int32) (tours : Int32) (tourLength : Int32) (rowMany : Int32) (cameBy : Int32) (top : Nat → Int32) (east : Nat → Int32) (south : Nat → Int32) (rolled : Nat → Int32) (off : Nat → Int32) (kind : Nat → Int32) (mark : Nat → Int32) (rolls : Nat → Int32) (many : Nat → Int64) (onward : Nat → Int32) (at_ : Nat → Int32) (goes : Nat → Int32) (firstTour : Nat → Int32) (rowWay : Nat → Int32) (rowSeen : Nat → Int32) (prints : Nat → Int32) (homeward : Nat → Int32)  (hI : nx_inj a 18) (o : (Nat → Int32) × (Nat → Int32)) (h : f_X11_laySouths N top east south rolled = some o) : Met l yX11_laySouths (.code yX11_laySouths cX11_laySouths 7 none :: nx_T) (nx_rm 1 23) (va_Pc [.ref (a 0)] (nx_P E (nx_A a 18 sz) sz (mW E a wide tall groups tours tourLength rowMany cameBy top east south rolled off kind mark rolls many onward at_ goes firstTour rowWay rowSeen prints homeward))) (va_Qv (fun u => u = o) (fun u t => va_P E.1 vwCl (mW E a wide tall groups tours tourLength rowMany cameBy top east (u.1) (u.2) off kind mark rolls many onward at_ goes firstTour rowWay rowSeen prints homeward) t.heap) (nx_A a 18 sz)) 0 0 (nx_A a 18 sz) := by
  refine nx_enV (fun u => u = o) (fun (u : (Nat → Int32) × (Nat → Int32)) => (mW E a wide tall groups tours tourLength rowMany cameBy top east (u.1) (u.2) off kind mark rolls many onward at_ goes firstTour rowWay rowSeen prints homeward)) (by decide) (Nat.le_of_ble_eq_true rfl) ?_
  intro p e s m below meth c Q X kr hsz hP ls hl
  subst hsz
  generalize hargs : (List.toArray [.ref (a 0)] : Array Value) = args at X kr ⊢
  clear hargs
  obtain ⟨⟨hx, hb, hml, hown, hts⟩, hK, hSt, hNz⟩ := id X
  have hS : va_S (nx_A a 18 s.heap.size) s.heap s.heap [] := va_S.rf
  have hl : lv_has ls 7 [(0, .ref (a 0))] := hl
  have L22 : ∀ (n : Nat) (x1 : Int32) (x2 : Int32) (south : Nat → Int32) (rolled : Nat → Int32) (z : (Int32 × (Nat → Int32) × (Nat → Int32))), f_X11_laySouths_l22 N top east n (x1, x2, south, rolled) = some z → ∀ (H : Heap) (locs : List Loc) (ls : Array Slot), va_P E.1 vwCl (mW E a wide tall groups tours tourLength rowMany cameBy top east south rolled off kind mark rolls many onward at_ goes firstTour rowWay rowSeen prints homeward) H → va_S (nx_A a 18 s.heap.size) s.heap H locs → lv_has ls 7 [(0, .ref (a 0)), (1, .int x1), (2, .int x2)] → ∀ (kR : ∀ (H : Heap) (locs : List Loc) (ls : Array Slot), va_P E.1 vwCl (mW E a wide tall groups tours tourLength rowMany cameBy top east (z.2.1) (z.2.2) off kind mark rolls many onward at_ goes firstTour rowWay rowSeen prints homeward) H → va_S (nx_A a 18 s.heap.size) s.heap H locs → lv_has ls 7 [(0, .ref (a 0)), (1, .int z.1)] → W p l e (nx_rm 1 23) s m args below meth c H locs 0 0 Q (F0 m 153 ls [])), W p l e (nx_rm 1 23) s m args below meth c H locs 0 0 Q (F0 m 22 ls []) := by
   intro  n
   induction n with
   | zero => intro x1 x2 south rolled z h; exact nomatch (show none = some z from h)
   | succ n ih =>
    intro x1 x2 south rolled z h H locs ls hP hS hl kR
    have h : f_X11_laySouths_b22 N top east (f_X11_laySouths_l22 N top east n) x1 x2 south rolled = some z := h
    have J146 : ∀ (x1 : Int32) (x2 : Int32) (s0 : Int32) (s1 : Int32) (south : Nat → Int32) (rolled : Nat → Int32), f_X11_laySouths_j146 (f_X11_laySouths_l22 N top east n) x1 x2 s0 s1 south rolled = some z → ∀ (H : Heap) (locs : List Loc) (ls : Array Slot), va_P E.1 vwCl (mW E a wide tall groups tours tourLength rowMany cameBy top east south rolled off kind mark rolls many onward at_ goes firstTour rowWay rowSeen prints homeward) H → va_S (nx_A a 18 s.heap.size) s.heap H locs → lv_has ls 7 [(0, .ref (a 0)), (1, .int x1), (2, .int x2)] → W p l e (nx_rm 1 23) s m args below meth c H locs 0 0 Q (F0 m 146 ls [.int s0, .int s1, .ref (a 3)]) := by
      intro x1 x2 s0 s1 south rolled h H locs ls hP hS hl
      unfold f_X11_laySouths_j146 at h
      obtain ⟨hv_1, h⟩ := nx_cb h
      refine nx_st X hI mW_ad hP hS 3 rfl hv_1 dX11_laySouths_146 (fun H locs hP hS => ?_)
      have hP : va_P E.1 vwCl (mW E a wide tall groups tours tourLength rowMany cameBy top east (upd south s1.toNatClampNeg s0) rolled off kind mark rolls many onward at_ goes firstTour rowWay rowSeen prints homeward) H := hP
      refine lv_iinc (v := (x2 + 1)) (lv' := [(2, .int (x2 + 1)), (0, .ref (a 0)), (1, .int x1)]) hx hb dX11_laySouths_147 hl (k := 2) rfl rfl (by decide) rfl (fun ls hl => ?_)
      refine lv_goto (tgt := 22) hx hb dX11_laySouths_150 (by decide) ?_
      exact ih _ _ _ _ z h H locs ls hP hS (lv_sub hl [1, 2, 0] rfl) kR
    have J98 : ∀ (x2 : Int32) (x3 : Int32) (x6 : Int32) (s0 : Int32) (south : Nat → Int32) (rolled : Nat → Int32), f_X11_laySouths_j98 (f_X11_laySouths_l22 N top east n) x2 x3 x6 s0 top south rolled = some z → ∀ (H : Heap) (locs : List Loc) (ls : Array Slot), va_P E.1 vwCl (mW E a wide tall groups tours tourLength rowMany cameBy top east south rolled off kind mark rolls many onward at_ goes firstTour rowWay rowSeen prints homeward) H → va_S (nx_A a 18 s.heap.size) s.heap H locs → lv_has ls 7 [(0, .ref (a 0)), (2, .int x2), (3, .int x3), (6, .int x6)] → W p l e (nx_rm 1 23) s m args below meth c H locs 0 0 Q (F0 m 98 ls [.int s0]) := by
      intro x2 x3 x6 s0 south rolled h H locs ls hP hS hl
      unfold f_X11_laySouths_j98 at h
      refine lv_istore_n (lv' := [(1, .int s0), (0, .ref (a 0)), (2, .int x2), (3, .int x3), (6, .int x6)]) hx hb dX11_laySouths_98 rfl hl (by decide) rfl (fun ls hl => ?_)
      refine lv_aload_n hx hb dX11_laySouths_99 rfl (lv_at hl 1 rfl) ?_
      refine nx_gf X hP uw_X11 (ci := 10) rfl 0 rfl 2 (by decide) wf_RX11_16 rfl dX11_laySouths_100 ?_
      refine lv_iload hx hb dX11_laySouths_103 (lv_at hl 4 rfl) ?_
      refine lv_iload_n hx hb dX11_laySouths_105 rfl (lv_at hl 2 rfl) ?_
      refine lv_iconst (v := 4) hx hb dX11_laySouths_106 (by decide) ?_
      refine lv_irem hx hb dX11_laySouths_107 (by decide) ?_
      refine lv_iconst (v := 1) hx hb dX11_laySouths_108 (by decide) ?_
      refine lv_icmp_ne (tgt := 121) hx hb dX11_laySouths_109 (by decide) (fun hc => ?_) (fun hc => ?_)
      · have h := nx_if h hc
        refine lv_iload_n hx hb dX11_laySouths_121 rfl (lv_at hl 2 rfl) ?_
        refine lv_iconst (v := 4) hx hb dX11_laySouths_122 (by decide) ?_
        refine lv_irem hx hb dX11_laySouths_123 (by decide) ?_
        refine lv_iconst (v := 3) hx hb dX11_laySouths_124 (by decide) ?_
        refine lv_icmp_ne (tgt := 140) hx hb dX11_laySouths_125 (by decide) (fun hc => ?_) (fun hc => ?_)
        · have h := nx_if h hc
          refine lv_aload_n hx hb dX11_laySouths_140 rfl (lv_at hl 1 rfl) ?_
          refine nx_gf X hP uw_X11 (ci := 10) rfl 0 rfl 2 (by decide) wf_RX11_16 rfl dX11_laySouths_141 ?_
          refine lv_iload_n hx hb dX11_laySouths_144 rfl (lv_at hl 3 rfl) ?_
          obtain ⟨hv_2, h⟩ := nx_rb h
          refine nx_ld X hP 3 rfl hv_2 dX11_laySouths_145 ?_
          exact J146 _ _ _ _ _ _ h H locs ls hP hS (lv_sub hl [1, 0, 2] rfl)
        · have h := nx_it h hc
          refine lv_bipush (v := 7) hx hb dX11_laySouths_128 (by decide) ?_
          refine lv_aload_n hx hb dX11_laySouths_130 rfl (lv_at hl 1 rfl) ?_
          refine nx_gf X hP uw_X11 (ci := 10) rfl 0 rfl 0 (by decide) wf_RX11_7 rfl dX11_laySouths_131 ?_
          refine lv_iload_n hx hb dX11_laySouths_134 rfl (lv_at hl 3 rfl) ?_
          obtain ⟨hv_4, h⟩ := nx_rb h
          refine nx_ld X hP 1 rfl hv_4 dX11_laySouths_135 ?_
          refine lv_isub hx hb dX11_laySouths_136 ?_
          refine lv_goto (tgt := 146) hx hb dX11_laySouths_137 (by decide) ?_
          exact J146 _ _ _ _ _ _ h H locs ls hP hS (lv_sub hl [1, 0, 2] rfl)
      · have h := nx_it h hc
        refine lv_aload_n hx hb dX11_laySouths_112 rfl (lv_at hl 1 rfl) ?_
        refine nx_gf X hP uw_X11 (ci := 10) rfl 0 rfl 0 (by decide) wf_RX11_7 rfl dX11_laySouths_113 ?_
        refine lv_iload_n hx hb dX11_laySouths_116 rfl (lv_at hl 3 rfl) ?_
        obtain ⟨hv_6, h⟩ := nx_rb h
        refine nx_ld X hP 1 rfl hv_6 dX11_laySouths_117 ?_
        refine lv_goto (tgt := 146) hx hb dX11_laySouths_118 (by decide) ?_
        exact J146 _ _ _ _ _ _ h H locs ls hP hS (lv_sub hl [1, 0, 2] rfl)
    unfold f_X11_laySouths_b22 at h
    refine lv_iload_n hx hb dX11_laySouths_22 rfl (lv_at hl 2 rfl) ?_
    refine lv_bipush (v := 96) hx hb dX11_laySouths_23 (by decide) ?_
    refine lv_icmp_ge (tgt := 153) hx hb dX11_laySouths_25 (by decide) (fun hc => ?_) (fun hc => ?_)
    · have h := nx_it h hc
      obtain rfl := Option.some.inj h
      exact kR H locs ls hP hS (lv_sub hl [0, 1] rfl)
    · have h := nx_if h hc
      refine lv_iload_n hx hb dX11_laySouths_28 rfl (lv_at hl 2 rfl) ?_
      refine lv_iconst (v := 4) hx hb dX11_laySouths_29 (by decide) ?_
      refine lv_idiv hx hb dX11_laySouths_30 (by decide) ?_
      refine lv_istore_n (lv' := [(3, .int (x2 / 4)), (0, .ref (a 0)), (1, .int x1), (2, .int x2)]) hx hb dX11_laySouths_31 rfl hl (by decide) rfl (fun ls hl => ?_)
      refine lv_aload_n hx hb dX11_laySouths_32 rfl (lv_at hl 1 rfl) ?_
      refine nx_gf X hP uw_X11 (ci := 10) rfl 0 rfl 2 (by decide) wf_RX11_16 rfl dX11_laySouths_33 ?_
      refine lv_iload_n hx hb dX11_laySouths_36 rfl (lv_at hl 0 rfl) ?_
      obtain ⟨hv_8, h⟩ := nx_rb h
      refine nx_ld X hP 3 rfl hv_8 dX11_laySouths_37 ?_
      refine lv_if_le (tgt := 147) hx hb dX11_laySouths_38 (by decide) (fun hc => ?_) (fun hc => ?_)
      · have h := nx_it h hc
        refine lv_iinc (v := (x2 + 1)) (lv' := [(2, .int (x2 + 1)), (3, .int (x2 / 4)), (0, .ref (a 0)), (1, .int x1)]) hx hb dX11_laySouths_147 hl (k := 3) rfl rfl (by decide) rfl (fun ls hl => ?_)
        refine lv_goto (tgt := 22) hx hb dX11_laySouths_150 (by decide) ?_
        exact ih _ _ _ _ z h H locs ls hP hS (lv_sub hl [2, 3, 0] rfl) kR
      · have h := nx_if h hc
        refine lv_aload_n hx hb dX11_laySouths_41 rfl (lv_at hl 1 rfl) ?_
        refine lv_iload_n hx hb dX11_laySouths_42 rfl (lv_at hl 0 rfl) ?_
        refine lv_iload_n hx hb dX11_laySouths_43 rfl (lv_at hl 3 rfl) ?_
        refine lv_iconst (v := 4) hx hb dX11_laySouths_44 (by decide) ?_
        refine lv_irem hx hb dX11_laySouths_45 (by decide) ?_
        obtain ⟨r_11, hc_10, h⟩ := nx_bd h
        refine nx_ki (nx_runV (As := [.int (x2 / 4), .int (x2 - x2 / 4 * 4)]) (rest := []) X hS hP (c_X11_topAfter l E H.size a wide tall groups tours tourLength rowMany cameBy top east south rolled off kind mark rolls many onward at_ goes firstTour rowWay rowSeen prints homeward (x2 / 4) (x2 - x2 / 4 * 4) _ hc_10) nx_FA qV_RX11_76 ⟨rfl, rfl⟩ ⟨Nat.le_of_ble_eq_true rfl, Nat.le_of_ble_eq_true rfl⟩ ⟨Nat.zero_le _, Nat.zero_le _⟩ 0 rfl rfl rfl rfl hl.1 (Nat.le_of_ble_eq_true rfl) dX11_laySouths_46) hS nx_FA (fun H locs hP hS => ?_)
        refine lv_istore (lv' := [(4, .int r_11), (3, .int (x2 / 4)), (0, .ref (a 0)), (1, .int x1), (2, .int x2)]) hx hb dX11_laySouths_49 hl (by decide) rfl (fun ls hl => ?_)
        refine lv_aload_n hx hb dX11_laySouths_51 rfl (lv_at hl 2 rfl) ?_
        refine lv_iload_n hx hb dX11_laySouths_52 rfl (lv_at hl 1 rfl) ?_
        refine lv_iload_n hx hb dX11_laySouths_53 rfl (lv_at hl 4 rfl) ?_
        refine lv_iconst (v := 4) hx hb dX11_laySouths_54 (by decide) ?_
        refine lv_irem hx hb dX11_laySouths_55 (by decide) ?_
        obtain ⟨r_13, hc_12, h⟩ := nx_bd h
        refine nx_ki (nx_runV (As := [.int (x2 / 4), .int (x2 - x2 / 4 * 4)]) (rest := []) X hS hP (c_X11_eastAfter l E H.size a wide tall groups tours tourLength rowMany cameBy top east south rolled off kind mark rolls many onward at_ goes firstTour rowWay rowSeen prints homeward (x2 / 4) (x2 - x2 / 4 * 4) _ hc_12) nx_FA qV_RX11_79 ⟨rfl, rfl⟩ ⟨Nat.le_of_ble_eq_true rfl, Nat.le_of_ble_eq_true rfl⟩ ⟨Nat.zero_le _, Nat.zero_le _⟩ 0 rfl rfl rfl rfl hl.1 (Nat.le_of_ble_eq_true rfl) dX11_laySouths_56) hS nx_FA (fun H locs hP hS => ?_)
        refine lv_istore (lv' := [(5, .int r_13), (4, .int r_11), (3, .int (x2 / 4)), (0, .ref (a 0)), (1, .int x1), (2, .int x2)]) hx hb dX11_laySouths_59 hl (by decide) rfl (fun ls hl => ?_)
        refine lv_aload_n hx hb dX11_laySouths_61 rfl (lv_at hl 3 rfl) ?_
        refine lv_iload hx hb dX11_laySouths_62 (lv_at hl 1 rfl) ?_
        refine lv_iload hx hb dX11_laySouths_64 (lv_at hl 0 rfl) ?_
        obtain ⟨r_15, hc_14, h⟩ := nx_bd h
        refine nx_ki (nx_runV (As := [.int r_11, .int r_13]) (rest := []) X hS hP (c_X11_stanceOf l N E H.size a wide tall groups tours tourLength rowMany cameBy top east south rolled off kind mark rolls many onward at_ goes firstTour rowWay rowSeen prints homeward r_11 r_13 _ hc_14) nx_FA qV_RX11_72 ⟨rfl, rfl⟩ ⟨Nat.le_of_ble_eq_true rfl, Nat.le_of_ble_eq_true rfl⟩ ⟨Nat.zero_le _, Nat.zero_le _⟩ 0 rfl rfl rfl rfl hl.1 (Nat.le_of_ble_eq_true rfl) dX11_laySouths_66) hS nx_FA (fun H locs hP hS => ?_)
        refine lv_istore (lv' := [(6, .int r_15), (5, .int r_13), (4, .int r_11), (3, .int (x2 / 4)), (0, .ref (a 0)), (1, .int x1), (2, .int x2)]) hx hb dX11_laySouths_69 hl (by decide) rfl (fun ls hl => ?_)
        refine lv_aload_n hx hb dX11_laySouths_71 rfl (lv_at hl 4 rfl) ?_
        refine nx_gf X hP uw_X11 (ci := 10) rfl 0 rfl 3 (by decide) wf_RX11_19 rfl dX11_laySouths_72 ?_
        refine lv_iload_n hx hb dX11_laySouths_75 rfl (lv_at hl 6 rfl) ?_
        refine lv_iload hx hb dX11_laySouths_76 (lv_at hl 0 rfl) ?_
        obtain ⟨hv_16, h⟩ := nx_cb h
        refine nx_st X hI mW_ad hP hS 4 rfl hv_16 dX11_laySouths_78 (fun H locs hP hS => ?_)
        have hP : va_P E.1 vwCl (mW E a wide tall groups tours tourLength rowMany cameBy top east south (upd rolled x2.toNatClampNeg r_15) off kind mark rolls many onward at_ goes firstTour rowWay rowSeen prints homeward) H := hP
        refine lv_iload_n hx hb dX11_laySouths_79 rfl (lv_at hl 5 rfl) ?_
        refine lv_if_ne (tgt := 93) hx hb dX11_laySouths_80 (by decide) (fun hc => ?_) (fun hc => ?_)
        · have h := nx_if h hc
          refine lv_iconst (v := 1) hx hb dX11_laySouths_93 (by decide) ?_
          refine lv_goto (tgt := 98) hx hb dX11_laySouths_94 (by decide) ?_
          exact J98 _ _ _ _ _ _ h H locs ls hP hS (lv_sub hl [4, 6, 3, 0] rfl)
        · have h := nx_it h hc
          refine lv_aload_n hx hb dX11_laySouths_83 rfl (lv_at hl 4 rfl) ?_
          refine nx_gf X hP uw_X11 (ci := 10) rfl 0 rfl 2 (by decide) wf_RX11_16 rfl dX11_laySouths_84 ?_
          refine lv_iload hx hb dX11_laySouths_87 (lv_at hl 0 rfl) ?_
          obtain ⟨hv_17, h⟩ := nx_rb h
          refine nx_ld X hP 3 rfl hv_17 dX11_laySouths_89 ?_
          refine lv_if_ne (tgt := 97) hx hb dX11_laySouths_90 (by decide) (fun hc => ?_) (fun hc => ?_)
          · have h := nx_if h hc
            refine lv_iconst (v := 0) hx hb dX11_laySouths_97 (by decide) ?_
            exact J98 _ _ _ _ _ _ h H locs ls hP hS (lv_sub hl [4, 6, 3, 0] rfl)
          · have h := nx_it h hc
            refine lv_iconst (v := 1) hx hb dX11_laySouths_93 (by decide) ?_
            refine lv_goto (tgt := 98) hx hb dX11_laySouths_94 (by decide) ?_
            exact J98 _ _ _ _ _ _ h H locs ls hP hS (lv_sub hl [4, 6, 3, 0] rfl)
  have L14 : ∀ (n : Nat) (x1 : Int32) (south : Nat → Int32) (rolled : Nat → Int32) (z : ((Nat → Int32) × (Nat → Int32))), f_X11_laySouths_l14 N top east n (x1, south, rolled) = some z → ∀ (H : Heap) (locs : List Loc) (ls : Array Slot), va_P E.1 vwCl (mW E a wide tall groups tours tourLength rowMany cameBy top east south rolled off kind mark rolls many onward at_ goes firstTour rowWay rowSeen prints homeward) H → va_S (nx_A a 18 s.heap.size) s.heap H locs → lv_has ls 7 [(0, .ref (a 0)), (1, .int x1)] → ∀ (kR : ∀ (H : Heap) (locs : List Loc) (ls : Array Slot), va_P E.1 vwCl (mW E a wide tall groups tours tourLength rowMany cameBy top east (z.1) (z.2) off kind mark rolls many onward at_ goes firstTour rowWay rowSeen prints homeward) H → va_S (nx_A a 18 s.heap.size) s.heap H locs → lv_has ls 7 [(0, .ref (a 0))] → W p l e (nx_rm 1 23) s m args below meth c H locs 0 0 Q (F0 m 156 ls [])), W p l e (nx_rm 1 23) s m args below meth c H locs 0 0 Q (F0 m 14 ls []) := by
   intro  n
   induction n with
   | zero => intro x1 south rolled z h; exact nomatch (show none = some z from h)
   | succ n ih =>
    intro x1 south rolled z h H locs ls hP hS hl kR
    have h : f_X11_laySouths_b14 N top east (f_X11_laySouths_l14 N top east n) x1 south rolled = some z := h
    unfold f_X11_laySouths_b14 at h
    refine lv_iload_n hx hb dX11_laySouths_14 rfl (lv_at hl 1 rfl) ?_
    refine lv_if_eq (tgt := 156) hx hb dX11_laySouths_15 (by decide) (fun hc => ?_) (fun hc => ?_)
    · have h := nx_it h hc
      obtain rfl := Option.some.inj h
      exact kR H locs ls hP hS (lv_sub hl [0] rfl)
    · have h := nx_if h hc
      refine lv_iconst (v := 0) hx hb dX11_laySouths_18 (by decide) ?_
      refine lv_istore_n (lv' := [(1, .int 0), (0, .ref (a 0))]) hx hb dX11_laySouths_19 rfl hl (by decide) rfl (fun ls hl => ?_)
      refine lv_iconst (v := 0) hx hb dX11_laySouths_20 (by decide) ?_
      refine lv_istore_n (lv' := [(2, .int 0), (1, .int 0), (0, .ref (a 0))]) hx hb dX11_laySouths_21 rfl hl (by decide) rfl (fun ls hl => ?_)
      obtain ⟨z_19, hz_20, h⟩ := nx_bd h
      refine L22  N _ _ _ _ _ hz_20 H locs ls hP hS (lv_sub hl [2, 1, 0] rfl) (fun H locs ls hP hS hl => ?_)
      refine lv_goto (tgt := 14) hx hb dX11_laySouths_153 (by decide) ?_
      exact ih _ _ _ z h H locs ls hP hS (lv_sub hl [0, 1] rfl) kR
  unfold f_X11_laySouths at h
  suffices hw : ∀ (H : Heap) (locs : List Loc), va_P E.1 vwCl (mW E a wide tall groups tours tourLength rowMany cameBy top east south rolled off kind mark rolls many onward at_ goes firstTour rowWay rowSeen prints homeward) H → va_S (nx_A a 18 s.heap.size) s.heap H locs → W p l e (nx_rm 1 23) s m args below meth c H locs 0 0 Q (F0 m 0 ls []) from hw _ _ hP va_S.rf
  intro H locs hP hS
  refine lv_aload_n hx hb dX11_laySouths_0 rfl (lv_at hl 0 rfl) ?_
  refine nx_gf X hP uw_X11 (ci := 10) rfl 0 rfl 2 (by decide) wf_RX11_16 rfl dX11_laySouths_1 ?_
  refine lv_aload_n hx hb dX11_laySouths_4 rfl (lv_at hl 0 rfl) ?_
  refine lv_iconst (v := 1) hx hb dX11_laySouths_5 (by decide) ?_
  refine lv_iconst (v := 3) hx hb dX11_laySouths_6 (by decide) ?_
  obtain ⟨r_22, hc_21, h⟩ := nx_bd h
  refine nx_ki (nx_runV (As := [.int 1, .int 3]) (rest := [.ref (a 3)]) X hS hP (c_X11_stanceOf l N E H.size a wide tall groups tours tourLength rowMany cameBy top east south rolled off kind mark rolls many onward at_ goes firstTour rowWay rowSeen prints homeward 1 3 _ hc_21) nx_FA qV_RX11_72 ⟨rfl, rfl⟩ ⟨Nat.le_of_ble_eq_true rfl, Nat.le_of_ble_eq_true rfl⟩ ⟨Nat.zero_le _, Nat.zero_le _⟩ 0 rfl rfl rfl rfl hl.1 (Nat.le_of_ble_eq_true rfl) dX11_laySouths_7) hS nx_FA (fun H locs hP hS => ?_)
  refine lv_iconst (v := 2) hx hb dX11_laySouths_10 (by decide) ?_
  obtain ⟨hv_23, h⟩ := nx_cb h
  refine nx_st X hI mW_ad hP hS 3 rfl hv_23 dX11_laySouths_11 (fun H locs hP hS => ?_)
  have hP : va_P E.1 vwCl (mW E a wide tall groups tours tourLength rowMany cameBy top east (upd south r_22.toNatClampNeg 2) rolled off kind mark rolls many onward at_ goes firstTour rowWay rowSeen prints homeward) H := hP
  refine lv_iconst (v := 1) hx hb dX11_laySouths_12 (by decide) ?_
  refine lv_istore_n (lv' := [(1, .int 1), (0, .ref (a 0))]) hx hb dX11_laySouths_13 rfl hl (by decide) rfl (fun ls hl => ?_)
  obtain ⟨z_24, hz_25, h⟩ := nx_bd h
  refine L14  N _ _ _ _ hz_25 H locs ls hP hS (lv_sub hl [1, 0] rfl) (fun H locs ls hP hS hl => ?_)
  exact kr 156 ls (z_24.1, z_24.2) H locs dX11_laySouths_156 (Option.some.inj h) hP hS
def f_X11_isStance (x0 : Int32)  : Option (Int32) :=
  (f_X11_in ((x0 : Int32).toInt64) 0 23).bind fun r_2 => (nx_b r_2).bind fun _ => some r_2
set_option maxHeartbeats 4000000 in
set_option maxRecDepth 100000 in
theorem c_X11_isStance (l : Launch) (E : nx_E) (sz : Nat) (a : Nat → Nat) (wide : Int32) (tall : Int32) (groups : Int32) (tours : Int32) (tourLength : Int32) (rowMany : Int32) (cameBy : Int32) (top : Nat → Int32) (east : Nat → Int32) (south : Nat → Int32) (rolled : Nat → Int32) (off : Nat → Int32) (kind : Nat → Int32) (mark : Nat → Int32) (rolls : Nat → Int32) (many : Nat → Int64) (onward : Nat → Int32) (at_ : Nat → Int32) (goes : Nat → Int32) (firstTour : Nat → Int32) (rowWay : Nat → Int32) (rowSeen : Nat → Int32) (prints : Nat → Int32) (homeward : Nat → Int32) (x0 : Int32) (o : Int32) (h : f_X11_isStance x0 = some o) : Met l yX11_isStance (.code yX11_isStance cX11_isStance 1 (some .boolean) :: nx_T) (nx_rm 1 25) (va_Pc [.int x0] (nx_P E (nx_F) sz (mW E a wide tall groups tours tourLength rowMany cameBy top east south rolled off kind mark rolls many onward at_ goes firstTour rowWay rowSeen prints homeward))) (va_Qi (fun v (_ : Unit) => v = o) (fun _ t => va_P E.1 vwCl (mW E a wide tall groups tours tourLength rowMany cameBy top east south rolled off kind mark rolls many onward at_ goes firstTour rowWay rowSeen prints homeward) t.heap) (nx_F)) 0 0 (nx_F) := by
  refine nx_enZ (fun v (_ : Unit) => v = o) (fun (_ : Unit) => (mW E a wide tall groups tours tourLength rowMany cameBy top east south rolled off kind mark rolls many onward at_ goes firstTour rowWay rowSeen prints homeward)) (by decide) (Nat.le_of_ble_eq_true rfl) ?_
  intro p e s m below meth c Q X kr hsz hP ls hl
  subst hsz
  generalize hargs : (List.toArray [.int x0] : Array Value) = args at X kr ⊢
  clear hargs
  obtain ⟨⟨hx, hb, hml, hown, hts⟩, hK, hSt, hNz⟩ := id X
  have hS : va_S (nx_F) s.heap s.heap [] := va_S.rf
  have hl : lv_has ls 1 [(0, .int x0)] := hl
  unfold f_X11_isStance at h
  suffices hw : ∀ (H : Heap) (locs : List Loc), va_P E.1 vwCl (mW E a wide tall groups tours tourLength rowMany cameBy top east south rolled off kind mark rolls many onward at_ goes firstTour rowWay rowSeen prints homeward) H → va_S (nx_F) s.heap H locs → W p l e (nx_rm 1 25) s m args below meth c H locs 0 0 Q (F0 m 0 ls []) from hw _ _ hP va_S.rf
  intro H locs hP hS
  refine lv_iload_n hx hb dX11_isStance_0 rfl (lv_at hl 0 rfl) ?_
  refine lv_i2l (v := (x0 : Int32).toInt64) hx hb dX11_isStance_1 rfl ?_
  refine lv_lconst (v := 0) hx hb dX11_isStance_2 (by decide) ?_
  refine lv_ldc2 hx hb hown (hts _ wl_RX11_82) dX11_isStance_3 ?_
  obtain ⟨r_2, hc_1, h⟩ := nx_bd h
  refine nx_ki (nx_runS (As := [.long ((x0 : Int32).toInt64), .long 0, .long 23]) (rest := []) X hS hP (c_X11_in l E H.size a wide tall groups tours tourLength rowMany cameBy top east south rolled off kind mark rolls many onward at_ goes firstTour rowWay rowSeen prints homeward ((x0 : Int32).toInt64) 0 23 _ hc_1) nx_FA qS_RX11_84 ⟨rfl, rfl⟩ ⟨Nat.le_of_ble_eq_true rfl, Nat.le_of_ble_eq_true rfl⟩ ⟨Nat.zero_le _, Nat.zero_le _⟩ rfl rfl hl.1 (Nat.le_of_ble_eq_true rfl) dX11_isStance_6) hS nx_FA (fun H locs hP hS => ?_)
  obtain ⟨hz, h⟩ := nx_bb h
  exact kr 9 ls r_2 () H locs dX11_isStance_9 hz (Option.some.inj h) hP hS
def f_X11_isWay (x0 : Int32)  : Option (Int32) :=
  (f_X11_in ((x0 : Int32).toInt64) 0 3).bind fun r_2 => (nx_b r_2).bind fun _ => some r_2
set_option maxHeartbeats 4000000 in
set_option maxRecDepth 100000 in
theorem c_X11_isWay (l : Launch) (E : nx_E) (sz : Nat) (a : Nat → Nat) (wide : Int32) (tall : Int32) (groups : Int32) (tours : Int32) (tourLength : Int32) (rowMany : Int32) (cameBy : Int32) (top : Nat → Int32) (east : Nat → Int32) (south : Nat → Int32) (rolled : Nat → Int32) (off : Nat → Int32) (kind : Nat → Int32) (mark : Nat → Int32) (rolls : Nat → Int32) (many : Nat → Int64) (onward : Nat → Int32) (at_ : Nat → Int32) (goes : Nat → Int32) (firstTour : Nat → Int32) (rowWay : Nat → Int32) (rowSeen : Nat → Int32) (prints : Nat → Int32) (homeward : Nat → Int32) (x0 : Int32) (o : Int32) (h : f_X11_isWay x0 = some o) : Met l yX11_isWay (.code yX11_isWay cX11_isWay 1 (some .boolean) :: nx_T) (nx_rm 1 25) (va_Pc [.int x0] (nx_P E (nx_F) sz (mW E a wide tall groups tours tourLength rowMany cameBy top east south rolled off kind mark rolls many onward at_ goes firstTour rowWay rowSeen prints homeward))) (va_Qi (fun v (_ : Unit) => v = o) (fun _ t => va_P E.1 vwCl (mW E a wide tall groups tours tourLength rowMany cameBy top east south rolled off kind mark rolls many onward at_ goes firstTour rowWay rowSeen prints homeward) t.heap) (nx_F)) 0 0 (nx_F) := by
  refine nx_enZ (fun v (_ : Unit) => v = o) (fun (_ : Unit) => (mW E a wide tall groups tours tourLength rowMany cameBy top east south rolled off kind mark rolls many onward at_ goes firstTour rowWay rowSeen prints homeward)) (by decide) (Nat.le_of_ble_eq_true rfl) ?_
  intro p e s m below meth c Q X kr hsz hP ls hl
  subst hsz
  generalize hargs : (List.toArray [.int x0] : Array Value) = args at X kr ⊢
  clear hargs
  obtain ⟨⟨hx, hb, hml, hown, hts⟩, hK, hSt, hNz⟩ := id X
  have hS : va_S (nx_F) s.heap s.heap [] := va_S.rf
  have hl : lv_has ls 1 [(0, .int x0)] := hl
  unfold f_X11_isWay at h
  suffices hw : ∀ (H : Heap) (locs : List Loc), va_P E.1 vwCl (mW E a wide tall groups tours tourLength rowMany cameBy top east south rolled off kind mark rolls many onward at_ goes firstTour rowWay rowSeen prints homeward) H → va_S (nx_F) s.heap H locs → W p l e (nx_rm 1 25) s m args below meth c H locs 0 0 Q (F0 m 0 ls []) from hw _ _ hP va_S.rf
  intro H locs hP hS
  refine lv_iload_n hx hb dX11_isWay_0 rfl (lv_at hl 0 rfl) ?_
  refine lv_i2l (v := (x0 : Int32).toInt64) hx hb dX11_isWay_1 rfl ?_
  refine lv_lconst (v := 0) hx hb dX11_isWay_2 (by decide) ?_
  refine lv_ldc2 hx hb hown (hts _ wl_RX11_88) dX11_isWay_3 ?_
  obtain ⟨r_2, hc_1, h⟩ := nx_bd h
  refine nx_ki (nx_runS (As := [.long ((x0 : Int32).toInt64), .long 0, .long 3]) (rest := []) X hS hP (c_X11_in l E H.size a wide tall groups tours tourLength rowMany cameBy top east south rolled off kind mark rolls many onward at_ goes firstTour rowWay rowSeen prints homeward ((x0 : Int32).toInt64) 0 3 _ hc_1) nx_FA qS_RX11_84 ⟨rfl, rfl⟩ ⟨Nat.le_of_ble_eq_true rfl, Nat.le_of_ble_eq_true rfl⟩ ⟨Nat.zero_le _, Nat.zero_le _⟩ rfl rfl hl.1 (Nat.le_of_ble_eq_true rfl) dX11_isWay_6) hS nx_FA (fun H locs hP hS => ?_)
  obtain ⟨hz, h⟩ := nx_bb h
  exact kr 9 ls r_2 () H locs dX11_isWay_9 hz (Option.some.inj h) hP hS
def f_X11_face (x1 : Int32) (x2 : Int32) (top : Nat → Int32) (east : Nat → Int32) (south : Nat → Int32) : Option (Int32) :=
  (f_X11_isStance x1).bind fun r_2 => if r_2 = 0 then (some (-1)) else (if x2 = 0 then ((nx_rd top 24 x1).bind fun _ => some (top x1.toNatClampNeg)) else (if x2 = 1 then ((nx_rd east 24 x1).bind fun _ => some (east x1.toNatClampNeg)) else (if x2 = 2 then ((nx_rd south 24 x1).bind fun _ => some (south x1.toNatClampNeg)) else (some (-2)))))
set_option maxHeartbeats 4000000 in
set_option maxRecDepth 100000 in
theorem c_X11_face (l : Launch) (E : nx_E) (sz : Nat) (a : Nat → Nat) (wide : Int32) (tall : Int32) (groups : Int32) (tours : Int32) (tourLength : Int32) (rowMany : Int32) (cameBy : Int32) (top : Nat → Int32) (east : Nat → Int32) (south : Nat → Int32) (rolled : Nat → Int32) (off : Nat → Int32) (kind : Nat → Int32) (mark : Nat → Int32) (rolls : Nat → Int32) (many : Nat → Int64) (onward : Nat → Int32) (at_ : Nat → Int32) (goes : Nat → Int32) (firstTour : Nat → Int32) (rowWay : Nat → Int32) (rowSeen : Nat → Int32) (prints : Nat → Int32) (homeward : Nat → Int32) (x1 : Int32) (x2 : Int32) (o : Int32) (h : f_X11_face x1 x2 top east south = some o) : Met l yX11_face (.code yX11_face cX11_face 3 (some .int) :: nx_T) (nx_rm 2 45) (va_Pc [.ref (a 0), .int x1, .int x2] (nx_P E (nx_F) sz (mW E a wide tall groups tours tourLength rowMany cameBy top east south rolled off kind mark rolls many onward at_ goes firstTour rowWay rowSeen prints homeward))) (va_Qi (fun v (_ : Unit) => v = o) (fun _ t => va_P E.1 vwCl (mW E a wide tall groups tours tourLength rowMany cameBy top east south rolled off kind mark rolls many onward at_ goes firstTour rowWay rowSeen prints homeward) t.heap) (nx_F)) 0 0 (nx_F) := by
  refine nx_enI (fun v (_ : Unit) => v = o) (fun (_ : Unit) => (mW E a wide tall groups tours tourLength rowMany cameBy top east south rolled off kind mark rolls many onward at_ goes firstTour rowWay rowSeen prints homeward)) (by decide) (Nat.le_of_ble_eq_true rfl) ?_
  intro p e s m below meth c Q X kr hsz hP ls hl
  subst hsz
  generalize hargs : (List.toArray [.ref (a 0), .int x1, .int x2] : Array Value) = args at X kr ⊢
  clear hargs
  obtain ⟨⟨hx, hb, hml, hown, hts⟩, hK, hSt, hNz⟩ := id X
  have hS : va_S (nx_F) s.heap s.heap [] := va_S.rf
  have hl : lv_has ls 3 [(0, .ref (a 0)), (1, .int x1), (2, .int x2)] := hl
  unfold f_X11_face at h
  suffices hw : ∀ (H : Heap) (locs : List Loc), va_P E.1 vwCl (mW E a wide tall groups tours tourLength rowMany cameBy top east south rolled off kind mark rolls many onward at_ goes firstTour rowWay rowSeen prints homeward) H → va_S (nx_F) s.heap H locs → W p l e (nx_rm 2 45) s m args below meth c H locs 0 0 Q (F0 m 0 ls []) from hw _ _ hP va_S.rf
  intro H locs hP hS
  refine lv_iload_n hx hb dX11_face_0 rfl (lv_at hl 1 rfl) ?_
  obtain ⟨r_2, hc_1, h⟩ := nx_bd h
  refine nx_ki (nx_runS (As := [.int x1]) (rest := []) X hS hP (c_X11_isStance l E H.size a wide tall groups tours tourLength rowMany cameBy top east south rolled off kind mark rolls many onward at_ goes firstTour rowWay rowSeen prints homeward x1 _ hc_1) nx_FA qS_RX11_90 ⟨rfl, rfl⟩ ⟨Nat.le_of_ble_eq_true rfl, Nat.le_of_ble_eq_true rfl⟩ ⟨Nat.zero_le _, Nat.zero_le _⟩ rfl rfl hl.1 (Nat.le_of_ble_eq_true rfl) dX11_face_1) hS nx_FA (fun H locs hP hS => ?_)
  refine lv_if_ne (tgt := 9) hx hb dX11_face_4 (by decide) (fun hc => ?_) (fun hc => ?_)
  · have h := nx_if h hc
    refine lv_iload_n hx hb dX11_face_9 rfl (lv_at hl 2 rfl) ?_
    refine lv_if_ne (tgt := 22) hx hb dX11_face_10 (by decide) (fun hc => ?_) (fun hc => ?_)
    · have h := nx_if h hc
      refine lv_iload_n hx hb dX11_face_22 rfl (lv_at hl 2 rfl) ?_
      refine lv_iconst (v := 1) hx hb dX11_face_23 (by decide) ?_
      refine lv_icmp_ne (tgt := 36) hx hb dX11_face_24 (by decide) (fun hc => ?_) (fun hc => ?_)
      · have h := nx_if h hc
        refine lv_iload_n hx hb dX11_face_36 rfl (lv_at hl 2 rfl) ?_
        refine lv_iconst (v := 2) hx hb dX11_face_37 (by decide) ?_
        refine lv_icmp_ne (tgt := 50) hx hb dX11_face_38 (by decide) (fun hc => ?_) (fun hc => ?_)
        · have h := nx_if h hc
          refine lv_bipush (v := (-2)) hx hb dX11_face_50 (by decide) ?_
          exact kr 52 ls (-2) () H locs dX11_face_52 (Option.some.inj h) hP hS
        · have h := nx_it h hc
          refine lv_aload_n hx hb dX11_face_41 rfl (lv_at hl 0 rfl) ?_
          refine nx_gf X hP uw_X11 (ci := 10) rfl 0 rfl 2 (by decide) wf_RX11_16 rfl dX11_face_42 ?_
          refine lv_iload_n hx hb dX11_face_45 rfl (lv_at hl 1 rfl) ?_
          obtain ⟨hv_3, h⟩ := nx_rb h
          refine nx_ld X hP 3 rfl hv_3 dX11_face_46 ?_
          refine lv_goto (tgt := 52) hx hb dX11_face_47 (by decide) ?_
          exact kr 52 ls (south x1.toNatClampNeg) () H locs dX11_face_52 (Option.some.inj h) hP hS
      · have h := nx_it h hc
        refine lv_aload_n hx hb dX11_face_27 rfl (lv_at hl 0 rfl) ?_
        refine nx_gf X hP uw_X11 (ci := 10) rfl 0 rfl 1 (by decide) wf_RX11_13 rfl dX11_face_28 ?_
        refine lv_iload_n hx hb dX11_face_31 rfl (lv_at hl 1 rfl) ?_
        obtain ⟨hv_5, h⟩ := nx_rb h
        refine nx_ld X hP 2 rfl hv_5 dX11_face_32 ?_
        refine lv_goto (tgt := 52) hx hb dX11_face_33 (by decide) ?_
        exact kr 52 ls (east x1.toNatClampNeg) () H locs dX11_face_52 (Option.some.inj h) hP hS
    · have h := nx_it h hc
      refine lv_aload_n hx hb dX11_face_13 rfl (lv_at hl 0 rfl) ?_
      refine nx_gf X hP uw_X11 (ci := 10) rfl 0 rfl 0 (by decide) wf_RX11_7 rfl dX11_face_14 ?_
      refine lv_iload_n hx hb dX11_face_17 rfl (lv_at hl 1 rfl) ?_
      obtain ⟨hv_7, h⟩ := nx_rb h
      refine nx_ld X hP 1 rfl hv_7 dX11_face_18 ?_
      refine lv_goto (tgt := 52) hx hb dX11_face_19 (by decide) ?_
      exact kr 52 ls (top x1.toNatClampNeg) () H locs dX11_face_52 (Option.some.inj h) hP hS
  · have h := nx_it h hc
    refine lv_iconst (v := (-1)) hx hb dX11_face_7 (by decide) ?_
    exact kr 8 ls (-1) () H locs dX11_face_8 (Option.some.inj h) hP hS
def f_X11_turn (x1 : Int32) (x2 : Int32) (rolled : Nat → Int32) : Option (Int32) :=
  (f_X11_isStance x1).bind fun r_2 => if r_2 = 0 then (some (-1)) else ((f_X11_isWay x2).bind fun r_4 => if r_4 = 0 then (some (-2)) else ((nx_rd rolled 96 ((4 * x1) + x2)).bind fun _ => some (rolled ((4 * x1) + x2).toNatClampNeg)))
set_option maxHeartbeats 4000000 in
set_option maxRecDepth 100000 in
theorem c_X11_turn (l : Launch) (E : nx_E) (sz : Nat) (a : Nat → Nat) (wide : Int32) (tall : Int32) (groups : Int32) (tours : Int32) (tourLength : Int32) (rowMany : Int32) (cameBy : Int32) (top : Nat → Int32) (east : Nat → Int32) (south : Nat → Int32) (rolled : Nat → Int32) (off : Nat → Int32) (kind : Nat → Int32) (mark : Nat → Int32) (rolls : Nat → Int32) (many : Nat → Int64) (onward : Nat → Int32) (at_ : Nat → Int32) (goes : Nat → Int32) (firstTour : Nat → Int32) (rowWay : Nat → Int32) (rowSeen : Nat → Int32) (prints : Nat → Int32) (homeward : Nat → Int32) (x1 : Int32) (x2 : Int32) (o : Int32) (h : f_X11_turn x1 x2 rolled = some o) : Met l yX11_turn (.code yX11_turn cX11_turn 3 (some .int) :: nx_T) (nx_rm 2 45) (va_Pc [.ref (a 0), .int x1, .int x2] (nx_P E (nx_F) sz (mW E a wide tall groups tours tourLength rowMany cameBy top east south rolled off kind mark rolls many onward at_ goes firstTour rowWay rowSeen prints homeward))) (va_Qi (fun v (_ : Unit) => v = o) (fun _ t => va_P E.1 vwCl (mW E a wide tall groups tours tourLength rowMany cameBy top east south rolled off kind mark rolls many onward at_ goes firstTour rowWay rowSeen prints homeward) t.heap) (nx_F)) 0 0 (nx_F) := by
  refine nx_enI (fun v (_ : Unit) => v = o) (fun (_ : Unit) => (mW E a wide tall groups tours tourLength rowMany cameBy top east south rolled off kind mark rolls many onward at_ goes firstTour rowWay rowSeen prints homeward)) (by decide) (Nat.le_of_ble_eq_true rfl) ?_
  intro p e s m below meth c Q X kr hsz hP ls hl
  subst hsz
  generalize hargs : (List.toArray [.ref (a 0), .int x1, .int x2] : Array Value) = args at X kr ⊢
  clear hargs
  obtain ⟨⟨hx, hb, hml, hown, hts⟩, hK, hSt, hNz⟩ := id X
  have hS : va_S (nx_F) s.heap s.heap [] := va_S.rf
  have hl : lv_has ls 3 [(0, .ref (a 0)), (1, .int x1), (2, .int x2)] := hl
  unfold f_X11_turn at h
  suffices hw : ∀ (H : Heap) (locs : List Loc), va_P E.1 vwCl (mW E a wide tall groups tours tourLength rowMany cameBy top east south rolled off kind mark rolls many onward at_ goes firstTour rowWay rowSeen prints homeward) H → va_S (nx_F) s.heap H locs → W p l e (nx_rm 2 45) s m args below meth c H locs 0 0 Q (F0 m 0 ls []) from hw _ _ hP va_S.rf
  intro H locs hP hS
  refine lv_iload_n hx hb dX11_turn_0 rfl (lv_at hl 1 rfl) ?_
  obtain ⟨r_2, hc_1, h⟩ := nx_bd h
  refine nx_ki (nx_runS (As := [.int x1]) (rest := []) X hS hP (c_X11_isStance l E H.size a wide tall groups tours tourLength rowMany cameBy top east south rolled off kind mark rolls many onward at_ goes firstTour rowWay rowSeen prints homeward x1 _ hc_1) nx_FA qS_RX11_90 ⟨rfl, rfl⟩ ⟨Nat.le_of_ble_eq_true rfl, Nat.le_of_ble_eq_true rfl⟩ ⟨Nat.zero_le _, Nat.zero_le _⟩ rfl rfl hl.1 (Nat.le_of_ble_eq_true rfl) dX11_turn_1) hS nx_FA (fun H locs hP hS => ?_)
  refine lv_if_ne (tgt := 9) hx hb dX11_turn_4 (by decide) (fun hc => ?_) (fun hc => ?_)
  · have h := nx_if h hc
    refine lv_iload_n hx hb dX11_turn_9 rfl (lv_at hl 2 rfl) ?_
    obtain ⟨r_4, hc_3, h⟩ := nx_bd h
    refine nx_ki (nx_runS (As := [.int x2]) (rest := []) X hS hP (c_X11_isWay l E H.size a wide tall groups tours tourLength rowMany cameBy top east south rolled off kind mark rolls many onward at_ goes firstTour rowWay rowSeen prints homeward x2 _ hc_3) nx_FA qS_RX11_94 ⟨rfl, rfl⟩ ⟨Nat.le_of_ble_eq_true rfl, Nat.le_of_ble_eq_true rfl⟩ ⟨Nat.zero_le _, Nat.zero_le _⟩ rfl rfl hl.1 (Nat.le_of_ble_eq_true rfl) dX11_turn_10) hS nx_FA (fun H locs hP hS => ?_)
    refine lv_if_eq (tgt := 29) hx hb dX11_turn_13 (by decide) (fun hc => ?_) (fun hc => ?_)
    · have h := nx_it h hc
      refine lv_bipush (v := (-2)) hx hb dX11_turn_29 (by decide) ?_
      exact kr 31 ls (-2) () H locs dX11_turn_31 (Option.some.inj h) hP hS
    · have h := nx_if h hc
      refine lv_aload_n hx hb dX11_turn_16 rfl (lv_at hl 0 rfl) ?_
      refine nx_gf X hP uw_X11 (ci := 10) rfl 0 rfl 3 (by decide) wf_RX11_19 rfl dX11_turn_17 ?_
      refine lv_iconst (v := 4) hx hb dX11_turn_20 (by decide) ?_
      refine lv_iload_n hx hb dX11_turn_21 rfl (lv_at hl 1 rfl) ?_
      refine lv_imul hx hb dX11_turn_22 ?_
      refine lv_iload_n hx hb dX11_turn_23 rfl (lv_at hl 2 rfl) ?_
      refine lv_iadd hx hb dX11_turn_24 ?_
      obtain ⟨hv_5, h⟩ := nx_rb h
      refine nx_ld X hP 4 rfl hv_5 dX11_turn_25 ?_
      refine lv_goto (tgt := 31) hx hb dX11_turn_26 (by decide) ?_
      exact kr 31 ls (rolled ((4 * x1) + x2).toNatClampNeg) () H locs dX11_turn_31 (Option.some.inj h) hP hS
  · have h := nx_it h hc
    refine lv_iconst (v := (-1)) hx hb dX11_turn_7 (by decide) ?_
    exact kr 8 ls (-1) () H locs dX11_turn_8 (Option.some.inj h) hP hS
