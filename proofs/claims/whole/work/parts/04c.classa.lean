def f_X10_isSide (x0 : Int32)  : Option (Int32) :=
  if x0 < 2 then (some 0) else (if 5 < x0 then (some 0) else (some 1))
set_option maxHeartbeats 4000000 in
set_option maxRecDepth 100000 in
theorem c_X10_isSide (l : Launch) (E : nx_E) (sz : Nat) (ws : va_W) (x0 : Int32) (o : Int32) (h : f_X10_isSide x0 = some o) : Met l yX10_isSide (.code yX10_isSide cX10_isSide 1 (some .boolean) :: nx_T) (nx_rm 0 0) (va_Pc [.int x0] (nx_P E (nx_F) sz ws)) (va_Qi (fun v (_ : Unit) => v = o) (fun _ t => va_P E.1 vwCl ws t.heap) (nx_F)) 0 0 (nx_F) := by
  refine nx_enZ (fun v (_ : Unit) => v = o) (fun (_ : Unit) => ws) (by decide) (Nat.le_of_ble_eq_true rfl) ?_
  intro p e s m below meth c Q X kr hsz hP ls hl
  subst hsz
  generalize hargs : (List.toArray [.int x0] : Array Value) = args at X kr ⊢
  clear hargs
  obtain ⟨⟨hx, hb, hml, hown, hts⟩, hK, hSt, hNz⟩ := id X
  have hS : va_S (nx_F) s.heap s.heap [] := va_S.rf
  have hl : lv_has ls 1 [(0, .int x0)] := hl
  unfold f_X10_isSide at h
  suffices hw : ∀ (H : Heap) (locs : List Loc), va_P E.1 vwCl ws H → va_S (nx_F) s.heap H locs → W p l e (nx_rm 0 0) s m args below meth c H locs 0 0 Q (F0 m 0 ls []) from hw _ _ hP va_S.rf
  intro H locs hP hS
  refine lv_iload_n hx hb dX10_isSide_0 rfl (lv_at hl 0 rfl) ?_
  refine lv_iconst (v := 2) hx hb dX10_isSide_1 (by decide) ?_
  refine lv_icmp_lt (tgt := 14) hx hb dX10_isSide_2 (by decide) (fun hc => ?_) (fun hc => ?_)
  · have h := nx_it h hc
    refine lv_iconst (v := 0) hx hb dX10_isSide_14 (by decide) ?_
    exact kr 15 ls 0 () H locs dX10_isSide_15 (Or.inl rfl) (Option.some.inj h) hP hS
  · have h := nx_if h hc
    refine lv_iload_n hx hb dX10_isSide_5 rfl (lv_at hl 0 rfl) ?_
    refine lv_iconst (v := 5) hx hb dX10_isSide_6 (by decide) ?_
    refine lv_icmp_gt (tgt := 14) hx hb dX10_isSide_7 (by decide) (fun hc => ?_) (fun hc => ?_)
    · have h := nx_it h hc
      refine lv_iconst (v := 0) hx hb dX10_isSide_14 (by decide) ?_
      exact kr 15 ls 0 () H locs dX10_isSide_15 (Or.inl rfl) (Option.some.inj h) hP hS
    · have h := nx_if h hc
      refine lv_iconst (v := 1) hx hb dX10_isSide_10 (by decide) ?_
      refine lv_goto (tgt := 15) hx hb dX10_isSide_11 (by decide) ?_
      exact kr 15 ls 1 () H locs dX10_isSide_15 (Or.inr rfl) (Option.some.inj h) hP hS
def f_X10_isStance (x0 : Int32)  : Option (Int32) :=
  if x0 < 0 then (some 0) else (if 24 ≤ x0 then (some 0) else (some 1))
set_option maxHeartbeats 4000000 in
set_option maxRecDepth 100000 in
theorem c_X10_isStance (l : Launch) (E : nx_E) (sz : Nat) (ws : va_W) (x0 : Int32) (o : Int32) (h : f_X10_isStance x0 = some o) : Met l yX10_isStance (.code yX10_isStance cX10_isStance 1 (some .boolean) :: nx_T) (nx_rm 0 0) (va_Pc [.int x0] (nx_P E (nx_F) sz ws)) (va_Qi (fun v (_ : Unit) => v = o) (fun _ t => va_P E.1 vwCl ws t.heap) (nx_F)) 0 0 (nx_F) := by
  refine nx_enZ (fun v (_ : Unit) => v = o) (fun (_ : Unit) => ws) (by decide) (Nat.le_of_ble_eq_true rfl) ?_
  intro p e s m below meth c Q X kr hsz hP ls hl
  subst hsz
  generalize hargs : (List.toArray [.int x0] : Array Value) = args at X kr ⊢
  clear hargs
  obtain ⟨⟨hx, hb, hml, hown, hts⟩, hK, hSt, hNz⟩ := id X
  have hS : va_S (nx_F) s.heap s.heap [] := va_S.rf
  have hl : lv_has ls 1 [(0, .int x0)] := hl
  unfold f_X10_isStance at h
  suffices hw : ∀ (H : Heap) (locs : List Loc), va_P E.1 vwCl ws H → va_S (nx_F) s.heap H locs → W p l e (nx_rm 0 0) s m args below meth c H locs 0 0 Q (F0 m 0 ls []) from hw _ _ hP va_S.rf
  intro H locs hP hS
  refine lv_iload_n hx hb dX10_isStance_0 rfl (lv_at hl 0 rfl) ?_
  refine lv_if_lt (tgt := 14) hx hb dX10_isStance_1 (by decide) (fun hc => ?_) (fun hc => ?_)
  · have h := nx_it h hc
    refine lv_iconst (v := 0) hx hb dX10_isStance_14 (by decide) ?_
    exact kr 15 ls 0 () H locs dX10_isStance_15 (Or.inl rfl) (Option.some.inj h) hP hS
  · have h := nx_if h hc
    refine lv_iload_n hx hb dX10_isStance_4 rfl (lv_at hl 0 rfl) ?_
    refine lv_bipush (v := 24) hx hb dX10_isStance_5 (by decide) ?_
    refine lv_icmp_ge (tgt := 14) hx hb dX10_isStance_7 (by decide) (fun hc => ?_) (fun hc => ?_)
    · have h := nx_it h hc
      refine lv_iconst (v := 0) hx hb dX10_isStance_14 (by decide) ?_
      exact kr 15 ls 0 () H locs dX10_isStance_15 (Or.inl rfl) (Option.some.inj h) hP hS
    · have h := nx_if h hc
      refine lv_iconst (v := 1) hx hb dX10_isStance_10 (by decide) ?_
      refine lv_goto (tgt := 15) hx hb dX10_isStance_11 (by decide) ?_
      exact kr 15 ls 1 () H locs dX10_isStance_15 (Or.inr rfl) (Option.some.inj h) hP hS
def f_X10_isFace (x0 : Int32)  : Option (Int32) :=
  if x0 < 1 then (some 0) else (if 6 < x0 then (some 0) else (some 1))
set_option maxHeartbeats 4000000 in
set_option maxRecDepth 100000 in
theorem c_X10_isFace (l : Launch) (E : nx_E) (sz : Nat) (ws : va_W) (x0 : Int32) (o : Int32) (h : f_X10_isFace x0 = some o) : Met l yX10_isFace (.code yX10_isFace cX10_isFace 1 (some .boolean) :: nx_T) (nx_rm 0 0) (va_Pc [.int x0] (nx_P E (nx_F) sz ws)) (va_Qi (fun v (_ : Unit) => v = o) (fun _ t => va_P E.1 vwCl ws t.heap) (nx_F)) 0 0 (nx_F) := by
  refine nx_enZ (fun v (_ : Unit) => v = o) (fun (_ : Unit) => ws) (by decide) (Nat.le_of_ble_eq_true rfl) ?_
  intro p e s m below meth c Q X kr hsz hP ls hl
  subst hsz
  generalize hargs : (List.toArray [.int x0] : Array Value) = args at X kr ⊢
  clear hargs
  obtain ⟨⟨hx, hb, hml, hown, hts⟩, hK, hSt, hNz⟩ := id X
  have hS : va_S (nx_F) s.heap s.heap [] := va_S.rf
  have hl : lv_has ls 1 [(0, .int x0)] := hl
  unfold f_X10_isFace at h
  suffices hw : ∀ (H : Heap) (locs : List Loc), va_P E.1 vwCl ws H → va_S (nx_F) s.heap H locs → W p l e (nx_rm 0 0) s m args below meth c H locs 0 0 Q (F0 m 0 ls []) from hw _ _ hP va_S.rf
  intro H locs hP hS
  refine lv_iload_n hx hb dX10_isFace_0 rfl (lv_at hl 0 rfl) ?_
  refine lv_iconst (v := 1) hx hb dX10_isFace_1 (by decide) ?_
  refine lv_icmp_lt (tgt := 15) hx hb dX10_isFace_2 (by decide) (fun hc => ?_) (fun hc => ?_)
  · have h := nx_it h hc
    refine lv_iconst (v := 0) hx hb dX10_isFace_15 (by decide) ?_
    exact kr 16 ls 0 () H locs dX10_isFace_16 (Or.inl rfl) (Option.some.inj h) hP hS
  · have h := nx_if h hc
    refine lv_iload_n hx hb dX10_isFace_5 rfl (lv_at hl 0 rfl) ?_
    refine lv_bipush (v := 6) hx hb dX10_isFace_6 (by decide) ?_
    refine lv_icmp_gt (tgt := 15) hx hb dX10_isFace_8 (by decide) (fun hc => ?_) (fun hc => ?_)
    · have h := nx_it h hc
      refine lv_iconst (v := 0) hx hb dX10_isFace_15 (by decide) ?_
      exact kr 16 ls 0 () H locs dX10_isFace_16 (Or.inl rfl) (Option.some.inj h) hP hS
    · have h := nx_if h hc
      refine lv_iconst (v := 1) hx hb dX10_isFace_11 (by decide) ?_
      refine lv_goto (tgt := 16) hx hb dX10_isFace_12 (by decide) ?_
      exact kr 16 ls 1 () H locs dX10_isFace_16 (Or.inr rfl) (Option.some.inj h) hP hS
def f_X10_isWay (x0 : Int32)  : Option (Int32) :=
  if x0 < 0 then (some 0) else (if 4 ≤ x0 then (some 0) else (some 1))
set_option maxHeartbeats 4000000 in
set_option maxRecDepth 100000 in
theorem c_X10_isWay (l : Launch) (E : nx_E) (sz : Nat) (ws : va_W) (x0 : Int32) (o : Int32) (h : f_X10_isWay x0 = some o) : Met l yX10_isWay (.code yX10_isWay cX10_isWay 1 (some .boolean) :: nx_T) (nx_rm 0 0) (va_Pc [.int x0] (nx_P E (nx_F) sz ws)) (va_Qi (fun v (_ : Unit) => v = o) (fun _ t => va_P E.1 vwCl ws t.heap) (nx_F)) 0 0 (nx_F) := by
  refine nx_enZ (fun v (_ : Unit) => v = o) (fun (_ : Unit) => ws) (by decide) (Nat.le_of_ble_eq_true rfl) ?_
  intro p e s m below meth c Q X kr hsz hP ls hl
  subst hsz
  generalize hargs : (List.toArray [.int x0] : Array Value) = args at X kr ⊢
  clear hargs
  obtain ⟨⟨hx, hb, hml, hown, hts⟩, hK, hSt, hNz⟩ := id X
  have hS : va_S (nx_F) s.heap s.heap [] := va_S.rf
  have hl : lv_has ls 1 [(0, .int x0)] := hl
  unfold f_X10_isWay at h
  suffices hw : ∀ (H : Heap) (locs : List Loc), va_P E.1 vwCl ws H → va_S (nx_F) s.heap H locs → W p l e (nx_rm 0 0) s m args below meth c H locs 0 0 Q (F0 m 0 ls []) from hw _ _ hP va_S.rf
  intro H locs hP hS
  refine lv_iload_n hx hb dX10_isWay_0 rfl (lv_at hl 0 rfl) ?_
  refine lv_if_lt (tgt := 13) hx hb dX10_isWay_1 (by decide) (fun hc => ?_) (fun hc => ?_)
  · have h := nx_it h hc
    refine lv_iconst (v := 0) hx hb dX10_isWay_13 (by decide) ?_
    exact kr 14 ls 0 () H locs dX10_isWay_14 (Or.inl rfl) (Option.some.inj h) hP hS
  · have h := nx_if h hc
    refine lv_iload_n hx hb dX10_isWay_4 rfl (lv_at hl 0 rfl) ?_
    refine lv_iconst (v := 4) hx hb dX10_isWay_5 (by decide) ?_
    refine lv_icmp_ge (tgt := 13) hx hb dX10_isWay_6 (by decide) (fun hc => ?_) (fun hc => ?_)
    · have h := nx_it h hc
      refine lv_iconst (v := 0) hx hb dX10_isWay_13 (by decide) ?_
      exact kr 14 ls 0 () H locs dX10_isWay_14 (Or.inl rfl) (Option.some.inj h) hP hS
    · have h := nx_if h hc
      refine lv_iconst (v := 1) hx hb dX10_isWay_9 (by decide) ?_
      refine lv_goto (tgt := 14) hx hb dX10_isWay_10 (by decide) ?_
      exact kr 14 ls 1 () H locs dX10_isWay_14 (Or.inr rfl) (Option.some.inj h) hP hS
def f_X10_oneIf (x0 : Int32)  : Option (Int32) :=
  if x0 = 0 then (some 0) else (some 1)
set_option maxHeartbeats 4000000 in
set_option maxRecDepth 100000 in
theorem c_X10_oneIf (l : Launch) (E : nx_E) (sz : Nat) (ws : va_W) (x0 : Int32) (o : Int32) (h : f_X10_oneIf x0 = some o) : Met l yX10_oneIf (.code yX10_oneIf cX10_oneIf 1 (some .int) :: nx_T) (nx_rm 0 0) (va_Pc [.int x0] (nx_P E (nx_F) sz ws)) (va_Qi (fun v (_ : Unit) => v = o) (fun _ t => va_P E.1 vwCl ws t.heap) (nx_F)) 0 0 (nx_F) := by
  refine nx_enI (fun v (_ : Unit) => v = o) (fun (_ : Unit) => ws) (by decide) (Nat.le_of_ble_eq_true rfl) ?_
  intro p e s m below meth c Q X kr hsz hP ls hl
  subst hsz
  generalize hargs : (List.toArray [.int x0] : Array Value) = args at X kr ⊢
  clear hargs
  obtain ⟨⟨hx, hb, hml, hown, hts⟩, hK, hSt, hNz⟩ := id X
  have hS : va_S (nx_F) s.heap s.heap [] := va_S.rf
  have hl : lv_has ls 1 [(0, .int x0)] := hl
  unfold f_X10_oneIf at h
  suffices hw : ∀ (H : Heap) (locs : List Loc), va_P E.1 vwCl ws H → va_S (nx_F) s.heap H locs → W p l e (nx_rm 0 0) s m args below meth c H locs 0 0 Q (F0 m 0 ls []) from hw _ _ hP va_S.rf
  intro H locs hP hS
  refine lv_iload_n hx hb dX10_oneIf_0 rfl (lv_at hl 0 rfl) ?_
  refine lv_if_eq (tgt := 8) hx hb dX10_oneIf_1 (by decide) (fun hc => ?_) (fun hc => ?_)
  · have h := nx_it h hc
    refine lv_iconst (v := 0) hx hb dX10_oneIf_8 (by decide) ?_
    exact kr 9 ls 0 () H locs dX10_oneIf_9 (Option.some.inj h) hP hS
  · have h := nx_if h hc
    refine lv_iconst (v := 1) hx hb dX10_oneIf_4 (by decide) ?_
    refine lv_goto (tgt := 9) hx hb dX10_oneIf_5 (by decide) ?_
    exact kr 9 ls 1 () H locs dX10_oneIf_9 (Option.some.inj h) hP hS
def f_X10_noneIfNowhere (x0 : Int32)  : Option (Int32) :=
  if x0 = (-1) then (some (-9)) else (some x0)
set_option maxHeartbeats 4000000 in
set_option maxRecDepth 100000 in
theorem c_X10_noneIfNowhere (l : Launch) (E : nx_E) (sz : Nat) (ws : va_W) (x0 : Int32) (o : Int32) (h : f_X10_noneIfNowhere x0 = some o) : Met l yX10_noneIfNowhere (.code yX10_noneIfNowhere cX10_noneIfNowhere 1 (some .int) :: nx_T) (nx_rm 0 0) (va_Pc [.int x0] (nx_P E (nx_F) sz ws)) (va_Qi (fun v (_ : Unit) => v = o) (fun _ t => va_P E.1 vwCl ws t.heap) (nx_F)) 0 0 (nx_F) := by
  refine nx_enI (fun v (_ : Unit) => v = o) (fun (_ : Unit) => ws) (by decide) (Nat.le_of_ble_eq_true rfl) ?_
  intro p e s m below meth c Q X kr hsz hP ls hl
  subst hsz
  generalize hargs : (List.toArray [.int x0] : Array Value) = args at X kr ⊢
  clear hargs
  obtain ⟨⟨hx, hb, hml, hown, hts⟩, hK, hSt, hNz⟩ := id X
  have hS : va_S (nx_F) s.heap s.heap [] := va_S.rf
  have hl : lv_has ls 1 [(0, .int x0)] := hl
  unfold f_X10_noneIfNowhere at h
  suffices hw : ∀ (H : Heap) (locs : List Loc), va_P E.1 vwCl ws H → va_S (nx_F) s.heap H locs → W p l e (nx_rm 0 0) s m args below meth c H locs 0 0 Q (F0 m 0 ls []) from hw _ _ hP va_S.rf
  intro H locs hP hS
  refine lv_iload_n hx hb dX10_noneIfNowhere_0 rfl (lv_at hl 0 rfl) ?_
  refine lv_iconst (v := (-1)) hx hb dX10_noneIfNowhere_1 (by decide) ?_
  refine lv_icmp_ne (tgt := 10) hx hb dX10_noneIfNowhere_2 (by decide) (fun hc => ?_) (fun hc => ?_)
  · have h := nx_if h hc
    refine lv_iload_n hx hb dX10_noneIfNowhere_10 rfl (lv_at hl 0 rfl) ?_
    exact kr 11 ls x0 () H locs dX10_noneIfNowhere_11 (Option.some.inj h) hP hS
  · have h := nx_it h hc
    refine lv_bipush (v := (-9)) hx hb dX10_noneIfNowhere_5 (by decide) ?_
    refine lv_goto (tgt := 11) hx hb dX10_noneIfNowhere_7 (by decide) ?_
    exact kr 11 ls (-9) () H locs dX10_noneIfNowhere_11 (Option.some.inj h) hP hS
def f_J7_fill_53178_r2_b5 (x1 : Int32) (x3 : Int32) (rec : (Int32 × (Nat → Int32)) → Option ((Nat → Int32))) (x2 : Int32) (kinds : Nat → Int32) : Option ((Nat → Int32)) :=
  if x3 ≤ x2 then (some kinds) else ((nx_ck 25 x2).bind fun _ => rec ((x2 + 1), (upd kinds x2.toNatClampNeg x1)))
def f_J7_fill_53178_r2_l5 (x1 : Int32) (x3 : Int32) : Nat → (Int32 × (Nat → Int32)) → Option ((Nat → Int32)) := nx_lp (fun rec z => f_J7_fill_53178_r2_b5 x1 x3 rec z.1 z.2)
def f_J7_fill_53178_r2 (N : Nat) (x1 : Int32) (kinds : Nat → Int32) : Option ((Nat → Int32)) :=
  (f_J7_fill_53178_r2_l5 x1 25 N (0, kinds)).bind fun z_2 => some z_2
set_option maxHeartbeats 4000000 in
set_option maxRecDepth 100000 in
theorem c_J7_fill_53178_r2 (l : Launch) (N : Nat) (E : nx_E) (sz : Nat) (a : Nat → Nat) (size : Int32) (on : Int32) (kinds : Nat → Int32) (marks : Nat → Int32) (nb : Nat → Int32) (reached : Int32) (dist : Nat → Int32) (lastW : Nat → Int32) (par : Nat → Int32) (ord : Nat → Int32) (paths : Nat → Int64) (costs : Nat → Int32) (wanted : Int32) (tlen : Int32) (onlyF : Int32) (found : Int32) (steps : Nat → Int32) (plen : Int32) (rowW : Nat → Int32) (rowS : Nat → Int32) (tally : Nat → Int32) (x1 : Int32) (hI : nx_inj a 24) (o : (Nat → Int32)) (h : f_J7_fill_53178_r2 N x1 kinds = some o) : Met l yJ7_fill_53178 (.code yJ7_fill_53178 cJ7_fill_53178 4 none :: nx_T) (nx_rm 0 0) (va_Pc [.ref (a 2), .int x1] (nx_P E (nx_A a 24 sz) sz (cW E a size on kinds marks nb reached dist lastW par ord paths costs wanted tlen onlyF found steps plen rowW rowS tally))) (va_Qv (fun u => u = o) (fun u t => va_P E.1 vwCl (cW E a size on u marks nb reached dist lastW par ord paths costs wanted tlen onlyF found steps plen rowW rowS tally) t.heap) (nx_A a 24 sz)) 0 0 (nx_A a 24 sz) := by
  refine nx_enV (fun u => u = o) (fun (u : (Nat → Int32)) => (cW E a size on u marks nb reached dist lastW par ord paths costs wanted tlen onlyF found steps plen rowW rowS tally)) (by decide) (Nat.le_of_ble_eq_true rfl) ?_
  intro p e s m below meth c Q X kr hsz hP ls hl
  subst hsz
  generalize hargs : (List.toArray [.ref (a 2), .int x1] : Array Value) = args at X kr ⊢
  clear hargs
  obtain ⟨⟨hx, hb, hml, hown, hts⟩, hK, hSt, hNz⟩ := id X
  have hS : va_S (nx_A a 24 s.heap.size) s.heap s.heap [] := va_S.rf
  have hl : lv_has ls 4 [(0, .ref (a 2)), (1, .int x1)] := hl
  have L5 : ∀ (x1 : Int32) (x3 : Int32) (n : Nat) (x2 : Int32) (kinds : Nat → Int32) (z : ((Nat → Int32))), f_J7_fill_53178_r2_l5 x1 x3 n (x2, kinds) = some z → ∀ (H : Heap) (locs : List Loc) (ls : Array Slot), va_P E.1 vwCl (cW E a size on kinds marks nb reached dist lastW par ord paths costs wanted tlen onlyF found steps plen rowW rowS tally) H → va_S (nx_A a 24 s.heap.size) s.heap H locs → lv_has ls 4 [(0, .ref (a 2)), (1, .int x1), (2, .int x2), (3, .int x3)] → ∀ (kR : ∀ (H : Heap) (locs : List Loc) (ls : Array Slot), va_P E.1 vwCl (cW E a size on z marks nb reached dist lastW par ord paths costs wanted tlen onlyF found steps plen rowW rowS tally) H → va_S (nx_A a 24 s.heap.size) s.heap H locs → lv_has ls 4 [(0, .ref (a 2))] → W p l e (nx_rm 0 0) s m args below meth c H locs 0 0 Q (F0 m 20 ls [])), W p l e (nx_rm 0 0) s m args below meth c H locs 0 0 Q (F0 m 5 ls []) := by
   intro x1 x3 n
   induction n with
   | zero => intro x2 kinds z h; exact nomatch (show none = some z from h)
   | succ n ih =>
    intro x2 kinds z h H locs ls hP hS hl kR
    have h : f_J7_fill_53178_r2_b5 x1 x3 (f_J7_fill_53178_r2_l5 x1 x3 n) x2 kinds = some z := h
    unfold f_J7_fill_53178_r2_b5 at h
    refine lv_iload_n hx hb dJ7_fill_53178_5 rfl (lv_at hl 2 rfl) ?_
    refine lv_iload_n hx hb dJ7_fill_53178_6 rfl (lv_at hl 3 rfl) ?_
    refine lv_icmp_ge (tgt := 20) hx hb dJ7_fill_53178_7 (by decide) (fun hc => ?_) (fun hc => ?_)
    · have h := nx_it h hc
      obtain rfl := Option.some.inj h
      exact kR H locs ls hP hS (lv_sub hl [0] rfl)
    · have h := nx_if h hc
      refine lv_aload_n hx hb dJ7_fill_53178_10 rfl (lv_at hl 0 rfl) ?_
      refine lv_iload_n hx hb dJ7_fill_53178_11 rfl (lv_at hl 2 rfl) ?_
      refine lv_iload_n hx hb dJ7_fill_53178_12 rfl (lv_at hl 1 rfl) ?_
      obtain ⟨hv_1, h⟩ := nx_cb h
      refine nx_st X hI cW_ad hP hS 2 rfl hv_1 dJ7_fill_53178_13 (fun H locs hP hS => ?_)
      have hP : va_P E.1 vwCl (cW E a size on (upd kinds x2.toNatClampNeg x1) marks nb reached dist lastW par ord paths costs wanted tlen onlyF found steps plen rowW rowS tally) H := hP
      refine lv_iinc (v := (x2 + 1)) (lv' := [(2, .int (x2 + 1)), (0, .ref (a 2)), (1, .int x1), (3, .int x3)]) hx hb dJ7_fill_53178_14 hl (k := 2) rfl rfl (by decide) rfl (fun ls hl => ?_)
      refine lv_goto (tgt := 5) hx hb dJ7_fill_53178_17 (by decide) ?_
      exact ih _ _ z h H locs ls hP hS (lv_sub hl [1, 2, 0, 3] rfl) kR
  unfold f_J7_fill_53178_r2 at h
  suffices hw : ∀ (H : Heap) (locs : List Loc), va_P E.1 vwCl (cW E a size on kinds marks nb reached dist lastW par ord paths costs wanted tlen onlyF found steps plen rowW rowS tally) H → va_S (nx_A a 24 s.heap.size) s.heap H locs → W p l e (nx_rm 0 0) s m args below meth c H locs 0 0 Q (F0 m 0 ls []) from hw _ _ hP va_S.rf
  intro H locs hP hS
  refine lv_iconst (v := 0) hx hb dJ7_fill_53178_0 (by decide) ?_
  refine lv_istore_n (lv' := [(2, .int 0), (0, .ref (a 2)), (1, .int x1)]) hx hb dJ7_fill_53178_1 rfl hl (by decide) rfl (fun ls hl => ?_)
  refine lv_aload_n hx hb dJ7_fill_53178_2 rfl (lv_at hl 1 rfl) ?_
  refine nx_al (v := 25) X hP 2 rfl rfl dJ7_fill_53178_3 ?_
  refine lv_istore_n (lv' := [(3, .int 25), (2, .int 0), (0, .ref (a 2)), (1, .int x1)]) hx hb dJ7_fill_53178_4 rfl hl (by decide) rfl (fun ls hl => ?_)
  obtain ⟨z_2, hz_3, h⟩ := nx_bd h
  refine L5 _ _ N _ _ _ hz_3 H locs ls hP hS (lv_sub hl [2, 3, 1, 0] rfl) (fun H locs ls hP hS hl => ?_)
  exact kr 20 ls z_2 H locs dJ7_fill_53178_20 (Option.some.inj h) hP hS
def f_J7_fill_53178_r3_b5 (x1 : Int32) (x3 : Int32) (rec : (Int32 × (Nat → Int32)) → Option ((Nat → Int32))) (x2 : Int32) (marks : Nat → Int32) : Option ((Nat → Int32)) :=
  if x3 ≤ x2 then (some marks) else ((nx_ck 25 x2).bind fun _ => rec ((x2 + 1), (upd marks x2.toNatClampNeg x1)))
def f_J7_fill_53178_r3_l5 (x1 : Int32) (x3 : Int32) : Nat → (Int32 × (Nat → Int32)) → Option ((Nat → Int32)) := nx_lp (fun rec z => f_J7_fill_53178_r3_b5 x1 x3 rec z.1 z.2)
def f_J7_fill_53178_r3 (N : Nat) (x1 : Int32) (marks : Nat → Int32) : Option ((Nat → Int32)) :=
  (f_J7_fill_53178_r3_l5 x1 25 N (0, marks)).bind fun z_2 => some z_2
set_option maxHeartbeats 4000000 in
set_option maxRecDepth 100000 in
theorem c_J7_fill_53178_r3 (l : Launch) (N : Nat) (E : nx_E) (sz : Nat) (a : Nat → Nat) (size : Int32) (on : Int32) (kinds : Nat → Int32) (marks : Nat → Int32) (nb : Nat → Int32) (reached : Int32) (dist : Nat → Int32) (lastW : Nat → Int32) (par : Nat → Int32) (ord : Nat → Int32) (paths : Nat → Int64) (costs : Nat → Int32) (wanted : Int32) (tlen : Int32) (onlyF : Int32) (found : Int32) (steps : Nat → Int32) (plen : Int32) (rowW : Nat → Int32) (rowS : Nat → Int32) (tally : Nat → Int32) (x1 : Int32) (hI : nx_inj a 24) (o : (Nat → Int32)) (h : f_J7_fill_53178_r3 N x1 marks = some o) : Met l yJ7_fill_53178 (.code yJ7_fill_53178 cJ7_fill_53178 4 none :: nx_T) (nx_rm 0 0) (va_Pc [.ref (a 3), .int x1] (nx_P E (nx_A a 24 sz) sz (cW E a size on kinds marks nb reached dist lastW par ord paths costs wanted tlen onlyF found steps plen rowW rowS tally))) (va_Qv (fun u => u = o) (fun u t => va_P E.1 vwCl (cW E a size on kinds u nb reached dist lastW par ord paths costs wanted tlen onlyF found steps plen rowW rowS tally) t.heap) (nx_A a 24 sz)) 0 0 (nx_A a 24 sz) := by
  refine nx_enV (fun u => u = o) (fun (u : (Nat → Int32)) => (cW E a size on kinds u nb reached dist lastW par ord paths costs wanted tlen onlyF found steps plen rowW rowS tally)) (by decide) (Nat.le_of_ble_eq_true rfl) ?_
  intro p e s m below meth c Q X kr hsz hP ls hl
  subst hsz
  generalize hargs : (List.toArray [.ref (a 3), .int x1] : Array Value) = args at X kr ⊢
  clear hargs
  obtain ⟨⟨hx, hb, hml, hown, hts⟩, hK, hSt, hNz⟩ := id X
  have hS : va_S (nx_A a 24 s.heap.size) s.heap s.heap [] := va_S.rf
  have hl : lv_has ls 4 [(0, .ref (a 3)), (1, .int x1)] := hl
  have L5 : ∀ (x1 : Int32) (x3 : Int32) (n : Nat) (x2 : Int32) (marks : Nat → Int32) (z : ((Nat → Int32))), f_J7_fill_53178_r3_l5 x1 x3 n (x2, marks) = some z → ∀ (H : Heap) (locs : List Loc) (ls : Array Slot), va_P E.1 vwCl (cW E a size on kinds marks nb reached dist lastW par ord paths costs wanted tlen onlyF found steps plen rowW rowS tally) H → va_S (nx_A a 24 s.heap.size) s.heap H locs → lv_has ls 4 [(0, .ref (a 3)), (1, .int x1), (2, .int x2), (3, .int x3)] → ∀ (kR : ∀ (H : Heap) (locs : List Loc) (ls : Array Slot), va_P E.1 vwCl (cW E a size on kinds z nb reached dist lastW par ord paths costs wanted tlen onlyF found steps plen rowW rowS tally) H → va_S (nx_A a 24 s.heap.size) s.heap H locs → lv_has ls 4 [(0, .ref (a 3))] → W p l e (nx_rm 0 0) s m args below meth c H locs 0 0 Q (F0 m 20 ls [])), W p l e (nx_rm 0 0) s m args below meth c H locs 0 0 Q (F0 m 5 ls []) := by
   intro x1 x3 n
   induction n with
   | zero => intro x2 marks z h; exact nomatch (show none = some z from h)
   | succ n ih =>
    intro x2 marks z h H locs ls hP hS hl kR
    have h : f_J7_fill_53178_r3_b5 x1 x3 (f_J7_fill_53178_r3_l5 x1 x3 n) x2 marks = some z := h
    unfold f_J7_fill_53178_r3_b5 at h
    refine lv_iload_n hx hb dJ7_fill_53178_5 rfl (lv_at hl 2 rfl) ?_
    refine lv_iload_n hx hb dJ7_fill_53178_6 rfl (lv_at hl 3 rfl) ?_
    refine lv_icmp_ge (tgt := 20) hx hb dJ7_fill_53178_7 (by decide) (fun hc => ?_) (fun hc => ?_)
    · have h := nx_it h hc
      obtain rfl := Option.some.inj h
      exact kR H locs ls hP hS (lv_sub hl [0] rfl)
    · have h := nx_if h hc
      refine lv_aload_n hx hb dJ7_fill_53178_10 rfl (lv_at hl 0 rfl) ?_
      refine lv_iload_n hx hb dJ7_fill_53178_11 rfl (lv_at hl 2 rfl) ?_
      refine lv_iload_n hx hb dJ7_fill_53178_12 rfl (lv_at hl 1 rfl) ?_
      obtain ⟨hv_1, h⟩ := nx_cb h
      refine nx_st X hI cW_ad hP hS 3 rfl hv_1 dJ7_fill_53178_13 (fun H locs hP hS => ?_)
      have hP : va_P E.1 vwCl (cW E a size on kinds (upd marks x2.toNatClampNeg x1) nb reached dist lastW par ord paths costs wanted tlen onlyF found steps plen rowW rowS tally) H := hP
      refine lv_iinc (v := (x2 + 1)) (lv' := [(2, .int (x2 + 1)), (0, .ref (a 3)), (1, .int x1), (3, .int x3)]) hx hb dJ7_fill_53178_14 hl (k := 2) rfl rfl (by decide) rfl (fun ls hl => ?_)
      refine lv_goto (tgt := 5) hx hb dJ7_fill_53178_17 (by decide) ?_
      exact ih _ _ z h H locs ls hP hS (lv_sub hl [1, 2, 0, 3] rfl) kR
  unfold f_J7_fill_53178_r3 at h
  suffices hw : ∀ (H : Heap) (locs : List Loc), va_P E.1 vwCl (cW E a size on kinds marks nb reached dist lastW par ord paths costs wanted tlen onlyF found steps plen rowW rowS tally) H → va_S (nx_A a 24 s.heap.size) s.heap H locs → W p l e (nx_rm 0 0) s m args below meth c H locs 0 0 Q (F0 m 0 ls []) from hw _ _ hP va_S.rf
  intro H locs hP hS
  refine lv_iconst (v := 0) hx hb dJ7_fill_53178_0 (by decide) ?_
  refine lv_istore_n (lv' := [(2, .int 0), (0, .ref (a 3)), (1, .int x1)]) hx hb dJ7_fill_53178_1 rfl hl (by decide) rfl (fun ls hl => ?_)
  refine lv_aload_n hx hb dJ7_fill_53178_2 rfl (lv_at hl 1 rfl) ?_
  refine nx_al (v := 25) X hP 3 rfl rfl dJ7_fill_53178_3 ?_
  refine lv_istore_n (lv' := [(3, .int 25), (2, .int 0), (0, .ref (a 3)), (1, .int x1)]) hx hb dJ7_fill_53178_4 rfl hl (by decide) rfl (fun ls hl => ?_)
  obtain ⟨z_2, hz_3, h⟩ := nx_bd h
  refine L5 _ _ N _ _ _ hz_3 H locs ls hP hS (lv_sub hl [2, 3, 1, 0] rfl) (fun H locs ls hP hS hl => ?_)
  exact kr 20 ls z_2 H locs dJ7_fill_53178_20 (Option.some.inj h) hP hS
def f_X2_lay_j164 (rec : (Int32 × (Nat → Int32)) → Option ((Nat → Int32))) (x1 : Int32) (x2 : Int32) (x3 : Int32) (x4 : Int32) (s0 : Int32) (s1 : Int32) (nb : Nat → Int32) : Option ((Nat → Int32)) :=
  (nx_ck 100 s1).bind fun _ => rec ((x4 + 1), (upd nb s1.toNatClampNeg s0))
def f_X2_lay_j141 (rec : (Int32 × (Nat → Int32)) → Option ((Nat → Int32))) (x1 : Int32) (x2 : Int32) (x3 : Int32) (x4 : Int32) (x5 : Int32) (s0 : Int32) (s1 : Int32) (nb : Nat → Int32) : Option ((Nat → Int32)) :=
  (nx_ck 100 s1).bind fun _ => if x3 ≤ 0 then (f_X2_lay_j164 rec x1 x2 x3 x4 (-1) ((x5 * 4) + 3) (upd nb s1.toNatClampNeg s0)) else (f_X2_lay_j164 rec x1 x2 x3 x4 (x5 - x1) ((x5 * 4) + 3) (upd nb s1.toNatClampNeg s0))
def f_X2_lay_j117 (rec : (Int32 × (Nat → Int32)) → Option ((Nat → Int32))) (x1 : Int32) (x2 : Int32) (x3 : Int32) (x4 : Int32) (x5 : Int32) (s0 : Int32) (s1 : Int32) (nb : Nat → Int32) : Option ((Nat → Int32)) :=
  (nx_ck 100 s1).bind fun _ => if x4 ≤ 0 then (f_X2_lay_j141 rec x1 x2 x3 x4 x5 (-1) ((x5 * 4) + 2) (upd nb s1.toNatClampNeg s0)) else (f_X2_lay_j141 rec x1 x2 x3 x4 x5 (x5 - 1) ((x5 * 4) + 2) (upd nb s1.toNatClampNeg s0))
def f_X2_lay_j91 (rec : (Int32 × (Nat → Int32)) → Option ((Nat → Int32))) (x1 : Int32) (x2 : Int32) (x3 : Int32) (x4 : Int32) (x5 : Int32) (s0 : Int32) (s1 : Int32) (nb : Nat → Int32) : Option ((Nat → Int32)) :=
  (nx_ck 100 s1).bind fun _ => if x2 ≤ (x3 + 1) then (f_X2_lay_j117 rec x1 x2 x3 x4 x5 (-1) ((x5 * 4) + 1) (upd nb s1.toNatClampNeg s0)) else (f_X2_lay_j117 rec x1 x2 x3 x4 x5 (x5 + x1) ((x5 * 4) + 1) (upd nb s1.toNatClampNeg s0))
def f_X2_lay_b53 (x1 : Int32) (x2 : Int32) (x3 : Int32) (rec : (Int32 × (Nat → Int32)) → Option ((Nat → Int32))) (x4 : Int32) (nb : Nat → Int32) : Option ((Nat → Int32)) :=
  if x1 ≤ x4 then (some nb) else (if x1 ≤ (x4 + 1) then (f_X2_lay_j91 rec x1 x2 x3 x4 ((x3 * x1) + x4) (-1) (((x3 * x1) + x4) * 4) nb) else (f_X2_lay_j91 rec x1 x2 x3 x4 ((x3 * x1) + x4) (((x3 * x1) + x4) + 1) (((x3 * x1) + x4) * 4) nb))
def f_X2_lay_l53 (x1 : Int32) (x2 : Int32) (x3 : Int32) : Nat → (Int32 × (Nat → Int32)) → Option ((Nat → Int32)) := nx_lp (fun rec z => f_X2_lay_b53 x1 x2 x3 rec z.1 z.2)
def f_X2_lay_b45 (N : Nat) (x1 : Int32) (x2 : Int32) (rec : (Int32 × (Nat → Int32)) → Option ((Nat → Int32))) (x3 : Int32) (nb : Nat → Int32) : Option ((Nat → Int32)) :=
  if x2 ≤ x3 then (some nb) else ((f_X2_lay_l53 x1 x2 x3 N (0, nb)).bind fun z_5 => rec ((x3 + 1), z_5))
def f_X2_lay_l45 (N : Nat) (x1 : Int32) (x2 : Int32) : Nat → (Int32 × (Nat → Int32)) → Option ((Nat → Int32)) := nx_lp (fun rec z => f_X2_lay_b45 N x1 x2 rec z.1 z.2)
def f_X2_lay (N : Nat) (x1 : Int32) (x2 : Int32) (size : Int32) (on : Int32) (kinds : Nat → Int32) (marks : Nat → Int32) (nb : Nat → Int32) : Option (Int32 × Int32 × (Nat → Int32) × (Nat → Int32) × (Nat → Int32)) :=
  (f_X10_isSide x1).bind fun r_8 => if r_8 = 0 then (some (size, on, kinds, marks, nb)) else ((f_X10_isSide x2).bind fun r_10 => if r_10 = 0 then (some (size, on, kinds, marks, nb)) else ((f_J7_fill_53178_r2 N 0 kinds).bind fun k_12 => (f_J7_fill_53178_r3 N 0 marks).bind fun k_14 => (f_X2_lay_l45 N x1 x2 N (0, nb)).bind fun z_15 => some ((x1 * x2), 0, k_12, k_14, z_15)))
set_option maxHeartbeats 4000000 in
set_option maxRecDepth 100000 in
theorem c_X2_lay (l : Launch) (N : Nat) (E : nx_E) (sz : Nat) (a : Nat → Nat) (size : Int32) (on : Int32) (kinds : Nat → Int32) (marks : Nat → Int32) (nb : Nat → Int32) (reached : Int32) (dist : Nat → Int32) (lastW : Nat → Int32) (par : Nat → Int32) (ord : Nat → Int32) (paths : Nat → Int64) (costs : Nat → Int32) (wanted : Int32) (tlen : Int32) (onlyF : Int32) (found : Int32) (steps : Nat → Int32) (plen : Int32) (rowW : Nat → Int32) (rowS : Nat → Int32) (tally : Nat → Int32) (x1 : Int32) (x2 : Int32) (hI : nx_inj a 24) (o : Int32 × Int32 × (Nat → Int32) × (Nat → Int32) × (Nat → Int32)) (h : f_X2_lay N x1 x2 size on kinds marks nb = some o) : Met l yX2_lay (.code yX2_lay cX2_lay 6 none :: nx_T) (nx_rm 1 23) (va_Pc [.ref (a 1), .int x1, .int x2] (nx_P E (nx_A a 24 sz) sz (cW E a size on kinds marks nb reached dist lastW par ord paths costs wanted tlen onlyF found steps plen rowW rowS tally))) (va_Qv (fun u => u = o) (fun u t => va_P E.1 vwCl (cW E a (u.1) (u.2.1) (u.2.2.1) (u.2.2.2.1) (u.2.2.2.2) reached dist lastW par ord paths costs wanted tlen onlyF found steps plen rowW rowS tally) t.heap) (nx_A a 24 sz)) 0 0 (nx_A a 24 sz) := by
  refine nx_enV (fun u => u = o) (fun (u : Int32 × Int32 × (Nat → Int32) × (Nat → Int32) × (Nat → Int32)) => (cW E a (u.1) (u.2.1) (u.2.2.1) (u.2.2.2.1) (u.2.2.2.2) reached dist lastW par ord paths costs wanted tlen onlyF found steps plen rowW rowS tally)) (by decide) (Nat.le_of_ble_eq_true rfl) ?_
  intro p e s m below meth c Q X kr hsz hP ls hl
  subst hsz
  generalize hargs : (List.toArray [.ref (a 1), .int x1, .int x2] : Array Value) = args at X kr ⊢
  clear hargs
  obtain ⟨⟨hx, hb, hml, hown, hts⟩, hK, hSt, hNz⟩ := id X
  have hS : va_S (nx_A a 24 s.heap.size) s.heap s.heap [] := va_S.rf
  have hl : lv_has ls 6 [(0, .ref (a 1)), (1, .int x1), (2, .int x2)] := hl
  have L53 : ∀ (x1 : Int32) (x2 : Int32) (x3 : Int32) (size : Int32) (on : Int32) (kinds : Nat → Int32) (marks : Nat → Int32) (n : Nat) (x4 : Int32) (nb : Nat → Int32) (z : ((Nat → Int32))), f_X2_lay_l53 x1 x2 x3 n (x4, nb) = some z → ∀ (H : Heap) (locs : List Loc) (ls : Array Slot), va_P E.1 vwCl (cW E a size on kinds marks nb reached dist lastW par ord paths costs wanted tlen onlyF found steps plen rowW rowS tally) H → va_S (nx_A a 24 s.heap.size) s.heap H locs → lv_has ls 6 [(0, .ref (a 1)), (1, .int x1), (2, .int x2), (3, .int x3), (4, .int x4)] → ∀ (kR : ∀ (H : Heap) (locs : List Loc) (ls : Array Slot), va_P E.1 vwCl (cW E a size on kinds marks z reached dist lastW par ord paths costs wanted tlen onlyF found steps plen rowW rowS tally) H → va_S (nx_A a 24 s.heap.size) s.heap H locs → lv_has ls 6 [(0, .ref (a 1)), (1, .int x1), (2, .int x2), (3, .int x3)] → W p l e (nx_rm 1 23) s m args below meth c H locs 0 0 Q (F0 m 171 ls [])), W p l e (nx_rm 1 23) s m args below meth c H locs 0 0 Q (F0 m 53 ls []) := by
   intro x1 x2 x3 size on kinds marks n
   induction n with
   | zero => intro x4 nb z h; exact nomatch (show none = some z from h)
   | succ n ih =>
    intro x4 nb z h H locs ls hP hS hl kR
    have h : f_X2_lay_b53 x1 x2 x3 (f_X2_lay_l53 x1 x2 x3 n) x4 nb = some z := h
    have J164 : ∀ (x4 : Int32) (s0 : Int32) (s1 : Int32) (nb : Nat → Int32), f_X2_lay_j164 (f_X2_lay_l53 x1 x2 x3 n) x1 x2 x3 x4 s0 s1 nb = some z → ∀ (H : Heap) (locs : List Loc) (ls : Array Slot), va_P E.1 vwCl (cW E a size on kinds marks nb reached dist lastW par ord paths costs wanted tlen onlyF found steps plen rowW rowS tally) H → va_S (nx_A a 24 s.heap.size) s.heap H locs → lv_has ls 6 [(0, .ref (a 1)), (1, .int x1), (2, .int x2), (3, .int x3), (4, .int x4)] → W p l e (nx_rm 1 23) s m args below meth c H locs 0 0 Q (F0 m 164 ls [.int s0, .int s1, .ref (a 4)]) := by
      intro x4 s0 s1 nb h H locs ls hP hS hl
      unfold f_X2_lay_j164 at h
      obtain ⟨hv_1, h⟩ := nx_cb h
      refine nx_st X hI cW_ad hP hS 4 rfl hv_1 dX2_lay_164 (fun H locs hP hS => ?_)
      have hP : va_P E.1 vwCl (cW E a size on kinds marks (upd nb s1.toNatClampNeg s0) reached dist lastW par ord paths costs wanted tlen onlyF found steps plen rowW rowS tally) H := hP
      refine lv_iinc (v := (x4 + 1)) (lv' := [(4, .int (x4 + 1)), (0, .ref (a 1)), (1, .int x1), (2, .int x2), (3, .int x3)]) hx hb dX2_lay_165 hl (k := 4) rfl rfl (by decide) rfl (fun ls hl => ?_)
      refine lv_goto (tgt := 53) hx hb dX2_lay_168 (by decide) ?_
      exact ih _ _ z h H locs ls hP hS (lv_sub hl [1, 2, 3, 4, 0] rfl) kR
    have J141 : ∀ (x4 : Int32) (x5 : Int32) (s0 : Int32) (s1 : Int32) (nb : Nat → Int32), f_X2_lay_j141 (f_X2_lay_l53 x1 x2 x3 n) x1 x2 x3 x4 x5 s0 s1 nb = some z → ∀ (H : Heap) (locs : List Loc) (ls : Array Slot), va_P E.1 vwCl (cW E a size on kinds marks nb reached dist lastW par ord paths costs wanted tlen onlyF found steps plen rowW rowS tally) H → va_S (nx_A a 24 s.heap.size) s.heap H locs → lv_has ls 6 [(0, .ref (a 1)), (1, .int x1), (2, .int x2), (3, .int x3), (4, .int x4), (5, .int x5)] → W p l e (nx_rm 1 23) s m args below meth c H locs 0 0 Q (F0 m 141 ls [.int s0, .int s1, .ref (a 4)]) := by
      intro x4 x5 s0 s1 nb h H locs ls hP hS hl
      unfold f_X2_lay_j141 at h
      obtain ⟨hv_2, h⟩ := nx_cb h
      refine nx_st X hI cW_ad hP hS 4 rfl hv_2 dX2_lay_141 (fun H locs hP hS => ?_)
      have hP : va_P E.1 vwCl (cW E a size on kinds marks (upd nb s1.toNatClampNeg s0) reached dist lastW par ord paths costs wanted tlen onlyF found steps plen rowW rowS tally) H := hP
      refine lv_aload_n hx hb dX2_lay_142 rfl (lv_at hl 0 rfl) ?_
      refine nx_gf X hP uw_X2 (ci := 2) rfl 1 rfl 2 (by decide) wf_RX2_18 rfl dX2_lay_143 ?_
      refine lv_iload hx hb dX2_lay_146 (lv_at hl 5 rfl) ?_
      refine lv_iconst (v := 4) hx hb dX2_lay_148 (by decide) ?_
      refine lv_imul hx hb dX2_lay_149 ?_
      refine lv_iconst (v := 3) hx hb dX2_lay_150 (by decide) ?_
      refine lv_iadd hx hb dX2_lay_151 ?_
      refine lv_iload_n hx hb dX2_lay_152 rfl (lv_at hl 3 rfl) ?_
      refine lv_if_le (tgt := 163) hx hb dX2_lay_153 (by decide) (fun hc => ?_) (fun hc => ?_)
      · have h := nx_it h hc
        refine lv_iconst (v := (-1)) hx hb dX2_lay_163 (by decide) ?_
        exact J164 _ _ _ _ h H locs ls hP hS (lv_sub hl [0, 1, 2, 3, 4] rfl)
      · have h := nx_if h hc
        refine lv_iload hx hb dX2_lay_156 (lv_at hl 5 rfl) ?_
        refine lv_iload_n hx hb dX2_lay_158 rfl (lv_at hl 1 rfl) ?_
        refine lv_isub hx hb dX2_lay_159 ?_
        refine lv_goto (tgt := 164) hx hb dX2_lay_160 (by decide) ?_
        exact J164 _ _ _ _ h H locs ls hP hS (lv_sub hl [0, 1, 2, 3, 4] rfl)
    have J117 : ∀ (x4 : Int32) (x5 : Int32) (s0 : Int32) (s1 : Int32) (nb : Nat → Int32), f_X2_lay_j117 (f_X2_lay_l53 x1 x2 x3 n) x1 x2 x3 x4 x5 s0 s1 nb = some z → ∀ (H : Heap) (locs : List Loc) (ls : Array Slot), va_P E.1 vwCl (cW E a size on kinds marks nb reached dist lastW par ord paths costs wanted tlen onlyF found steps plen rowW rowS tally) H → va_S (nx_A a 24 s.heap.size) s.heap H locs → lv_has ls 6 [(0, .ref (a 1)), (1, .int x1), (2, .int x2), (3, .int x3), (4, .int x4), (5, .int x5)] → W p l e (nx_rm 1 23) s m args below meth c H locs 0 0 Q (F0 m 117 ls [.int s0, .int s1, .ref (a 4)]) := by
      intro x4 x5 s0 s1 nb h H locs ls hP hS hl
      unfold f_X2_lay_j117 at h
      obtain ⟨hv_3, h⟩ := nx_cb h
      refine nx_st X hI cW_ad hP hS 4 rfl hv_3 dX2_lay_117 (fun H locs hP hS => ?_)
      have hP : va_P E.1 vwCl (cW E a size on kinds marks (upd nb s1.toNatClampNeg s0) reached dist lastW par ord paths costs wanted tlen onlyF found steps plen rowW rowS tally) H := hP
      refine lv_aload_n hx hb dX2_lay_118 rfl (lv_at hl 0 rfl) ?_
      refine nx_gf X hP uw_X2 (ci := 2) rfl 1 rfl 2 (by decide) wf_RX2_18 rfl dX2_lay_119 ?_
      refine lv_iload hx hb dX2_lay_122 (lv_at hl 5 rfl) ?_
      refine lv_iconst (v := 4) hx hb dX2_lay_124 (by decide) ?_
      refine lv_imul hx hb dX2_lay_125 ?_
      refine lv_iconst (v := 2) hx hb dX2_lay_126 (by decide) ?_
      refine lv_iadd hx hb dX2_lay_127 ?_
      refine lv_iload hx hb dX2_lay_128 (lv_at hl 4 rfl) ?_
      refine lv_if_le (tgt := 140) hx hb dX2_lay_130 (by decide) (fun hc => ?_) (fun hc => ?_)
      · have h := nx_it h hc
        refine lv_iconst (v := (-1)) hx hb dX2_lay_140 (by decide) ?_
        exact J141 _ _ _ _ _ h H locs ls hP hS (lv_sub hl [0, 1, 2, 3, 4, 5] rfl)
      · have h := nx_if h hc
        refine lv_iload hx hb dX2_lay_133 (lv_at hl 5 rfl) ?_
        refine lv_iconst (v := 1) hx hb dX2_lay_135 (by decide) ?_
        refine lv_isub hx hb dX2_lay_136 ?_
        refine lv_goto (tgt := 141) hx hb dX2_lay_137 (by decide) ?_
        exact J141 _ _ _ _ _ h H locs ls hP hS (lv_sub hl [0, 1, 2, 3, 4, 5] rfl)
    have J91 : ∀ (x4 : Int32) (x5 : Int32) (s0 : Int32) (s1 : Int32) (nb : Nat → Int32), f_X2_lay_j91 (f_X2_lay_l53 x1 x2 x3 n) x1 x2 x3 x4 x5 s0 s1 nb = some z → ∀ (H : Heap) (locs : List Loc) (ls : Array Slot), va_P E.1 vwCl (cW E a size on kinds marks nb reached dist lastW par ord paths costs wanted tlen onlyF found steps plen rowW rowS tally) H → va_S (nx_A a 24 s.heap.size) s.heap H locs → lv_has ls 6 [(0, .ref (a 1)), (1, .int x1), (2, .int x2), (3, .int x3), (4, .int x4), (5, .int x5)] → W p l e (nx_rm 1 23) s m args below meth c H locs 0 0 Q (F0 m 91 ls [.int s0, .int s1, .ref (a 4)]) := by
      intro x4 x5 s0 s1 nb h H locs ls hP hS hl
      unfold f_X2_lay_j91 at h
      obtain ⟨hv_4, h⟩ := nx_cb h
      refine nx_st X hI cW_ad hP hS 4 rfl hv_4 dX2_lay_91 (fun H locs hP hS => ?_)
      have hP : va_P E.1 vwCl (cW E a size on kinds marks (upd nb s1.toNatClampNeg s0) reached dist lastW par ord paths costs wanted tlen onlyF found steps plen rowW rowS tally) H := hP
      refine lv_aload_n hx hb dX2_lay_92 rfl (lv_at hl 0 rfl) ?_
      refine nx_gf X hP uw_X2 (ci := 2) rfl 1 rfl 2 (by decide) wf_RX2_18 rfl dX2_lay_93 ?_
      refine lv_iload hx hb dX2_lay_96 (lv_at hl 5 rfl) ?_
      refine lv_iconst (v := 4) hx hb dX2_lay_98 (by decide) ?_
      refine lv_imul hx hb dX2_lay_99 ?_
      refine lv_iconst (v := 1) hx hb dX2_lay_100 (by decide) ?_
      refine lv_iadd hx hb dX2_lay_101 ?_
      refine lv_iload_n hx hb dX2_lay_102 rfl (lv_at hl 3 rfl) ?_
      refine lv_iconst (v := 1) hx hb dX2_lay_103 (by decide) ?_
      refine lv_iadd hx hb dX2_lay_104 ?_
      refine lv_iload_n hx hb dX2_lay_105 rfl (lv_at hl 2 rfl) ?_
      refine lv_icmp_ge (tgt := 116) hx hb dX2_lay_106 (by decide) (fun hc => ?_) (fun hc => ?_)
      · have h := nx_it h hc
        refine lv_iconst (v := (-1)) hx hb dX2_lay_116 (by decide) ?_
        exact J117 _ _ _ _ _ h H locs ls hP hS (lv_sub hl [0, 1, 2, 3, 4, 5] rfl)
      · have h := nx_if h hc
        refine lv_iload hx hb dX2_lay_109 (lv_at hl 5 rfl) ?_
        refine lv_iload_n hx hb dX2_lay_111 rfl (lv_at hl 1 rfl) ?_
        refine lv_iadd hx hb dX2_lay_112 ?_
        refine lv_goto (tgt := 117) hx hb dX2_lay_113 (by decide) ?_
        exact J117 _ _ _ _ _ h H locs ls hP hS (lv_sub hl [0, 1, 2, 3, 4, 5] rfl)
    unfold f_X2_lay_b53 at h
    refine lv_iload hx hb dX2_lay_53 (lv_at hl 4 rfl) ?_
    refine lv_iload_n hx hb dX2_lay_55 rfl (lv_at hl 1 rfl) ?_
    refine lv_icmp_ge (tgt := 171) hx hb dX2_lay_56 (by decide) (fun hc => ?_) (fun hc => ?_)
    · have h := nx_it h hc
      obtain rfl := Option.some.inj h
      exact kR H locs ls hP hS (lv_sub hl [0, 1, 2, 3] rfl)
    · have h := nx_if h hc
      refine lv_iload_n hx hb dX2_lay_59 rfl (lv_at hl 3 rfl) ?_
      refine lv_iload_n hx hb dX2_lay_60 rfl (lv_at hl 1 rfl) ?_
      refine lv_imul hx hb dX2_lay_61 ?_
      refine lv_iload hx hb dX2_lay_62 (lv_at hl 4 rfl) ?_
      refine lv_iadd hx hb dX2_lay_64 ?_
      refine lv_istore (lv' := [(5, .int ((x3 * x1) + x4)), (0, .ref (a 1)), (1, .int x1), (2, .int x2), (3, .int x3), (4, .int x4)]) hx hb dX2_lay_65 hl (by decide) rfl (fun ls hl => ?_)
      refine lv_aload_n hx hb dX2_lay_67 rfl (lv_at hl 1 rfl) ?_
      refine nx_gf X hP uw_X2 (ci := 2) rfl 1 rfl 2 (by decide) wf_RX2_18 rfl dX2_lay_68 ?_
      refine lv_iload hx hb dX2_lay_71 (lv_at hl 0 rfl) ?_
      refine lv_iconst (v := 4) hx hb dX2_lay_73 (by decide) ?_
      refine lv_imul hx hb dX2_lay_74 ?_
      refine lv_iload hx hb dX2_lay_75 (lv_at hl 5 rfl) ?_
      refine lv_iconst (v := 1) hx hb dX2_lay_77 (by decide) ?_
      refine lv_iadd hx hb dX2_lay_78 ?_
      refine lv_iload_n hx hb dX2_lay_79 rfl (lv_at hl 2 rfl) ?_
      refine lv_icmp_ge (tgt := 90) hx hb dX2_lay_80 (by decide) (fun hc => ?_) (fun hc => ?_)
      · have h := nx_it h hc
        refine lv_iconst (v := (-1)) hx hb dX2_lay_90 (by decide) ?_
        exact J91 _ _ _ _ _ h H locs ls hP hS (lv_sub hl [1, 2, 3, 4, 5, 0] rfl)
      · have h := nx_if h hc
        refine lv_iload hx hb dX2_lay_83 (lv_at hl 0 rfl) ?_
        refine lv_iconst (v := 1) hx hb dX2_lay_85 (by decide) ?_
        refine lv_iadd hx hb dX2_lay_86 ?_
        refine lv_goto (tgt := 91) hx hb dX2_lay_87 (by decide) ?_
        exact J91 _ _ _ _ _ h H locs ls hP hS (lv_sub hl [1, 2, 3, 4, 5, 0] rfl)
  have L45 : ∀ (x1 : Int32) (x2 : Int32) (size : Int32) (on : Int32) (kinds : Nat → Int32) (marks : Nat → Int32) (n : Nat) (x3 : Int32) (nb : Nat → Int32) (z : ((Nat → Int32))), f_X2_lay_l45 N x1 x2 n (x3, nb) = some z → ∀ (H : Heap) (locs : List Loc) (ls : Array Slot), va_P E.1 vwCl (cW E a size on kinds marks nb reached dist lastW par ord paths costs wanted tlen onlyF found steps plen rowW rowS tally) H → va_S (nx_A a 24 s.heap.size) s.heap H locs → lv_has ls 6 [(0, .ref (a 1)), (1, .int x1), (2, .int x2), (3, .int x3)] → ∀ (kR : ∀ (H : Heap) (locs : List Loc) (ls : Array Slot), va_P E.1 vwCl (cW E a size on kinds marks z reached dist lastW par ord paths costs wanted tlen onlyF found steps plen rowW rowS tally) H → va_S (nx_A a 24 s.heap.size) s.heap H locs → lv_has ls 6 [(0, .ref (a 1))] → W p l e (nx_rm 1 23) s m args below meth c H locs 0 0 Q (F0 m 177 ls [])), W p l e (nx_rm 1 23) s m args below meth c H locs 0 0 Q (F0 m 45 ls []) := by
   intro x1 x2 size on kinds marks n
   induction n with
   | zero => intro x3 nb z h; exact nomatch (show none = some z from h)
   | succ n ih =>
    intro x3 nb z h H locs ls hP hS hl kR
    have h : f_X2_lay_b45 N x1 x2 (f_X2_lay_l45 N x1 x2 n) x3 nb = some z := h
    unfold f_X2_lay_b45 at h
    refine lv_iload_n hx hb dX2_lay_45 rfl (lv_at hl 3 rfl) ?_
    refine lv_iload_n hx hb dX2_lay_46 rfl (lv_at hl 2 rfl) ?_
    refine lv_icmp_ge (tgt := 177) hx hb dX2_lay_47 (by decide) (fun hc => ?_) (fun hc => ?_)
    · have h := nx_it h hc
      obtain rfl := Option.some.inj h
      exact kR H locs ls hP hS (lv_sub hl [0] rfl)
    · have h := nx_if h hc
      refine lv_iconst (v := 0) hx hb dX2_lay_50 (by decide) ?_
      refine lv_istore (lv' := [(4, .int 0), (0, .ref (a 1)), (1, .int x1), (2, .int x2), (3, .int x3)]) hx hb dX2_lay_51 hl (by decide) rfl (fun ls hl => ?_)
      obtain ⟨z_5, hz_6, h⟩ := nx_bd h
      refine L53 _ _ _ _ _ _ _ N _ _ _ hz_6 H locs ls hP hS (lv_sub hl [1, 2, 3, 4, 0] rfl) (fun H locs ls hP hS hl => ?_)
      refine lv_iinc (v := (x3 + 1)) (lv' := [(3, .int (x3 + 1)), (0, .ref (a 1)), (1, .int x1), (2, .int x2)]) hx hb dX2_lay_171 hl (k := 3) rfl rfl (by decide) rfl (fun ls hl => ?_)
      refine lv_goto (tgt := 45) hx hb dX2_lay_174 (by decide) ?_
      exact ih _ _ z h H locs ls hP hS (lv_sub hl [1, 2, 3, 0] rfl) kR
  unfold f_X2_lay at h
  suffices hw : ∀ (H : Heap) (locs : List Loc), va_P E.1 vwCl (cW E a size on kinds marks nb reached dist lastW par ord paths costs wanted tlen onlyF found steps plen rowW rowS tally) H → va_S (nx_A a 24 s.heap.size) s.heap H locs → W p l e (nx_rm 1 23) s m args below meth c H locs 0 0 Q (F0 m 0 ls []) from hw _ _ hP va_S.rf
  intro H locs hP hS
  refine lv_iload_n hx hb dX2_lay_0 rfl (lv_at hl 1 rfl) ?_
  obtain ⟨r_8, hc_7, h⟩ := nx_bd h
  refine nx_ki (nx_runN (As := [.int x1]) (rest := []) X hS hP (c_X10_isSide l E H.size _ x1 _ hc_7) nx_FA qN_RX2_25 ⟨rfl, rfl⟩ ⟨Nat.le_of_ble_eq_true rfl, Nat.le_of_ble_eq_true rfl⟩ ⟨Nat.zero_le _, Nat.zero_le _⟩ rfl rfl hl.1 (Nat.le_of_ble_eq_true rfl) dX2_lay_1) hS nx_FA (fun H locs hP hS => ?_)
  refine lv_if_eq (tgt := 14) hx hb dX2_lay_4 (by decide) (fun hc => ?_) (fun hc => ?_)
  · have h := nx_it h hc
    exact kr 14 ls (size, on, kinds, marks, nb) H locs dX2_lay_14 (Option.some.inj h) hP hS
  · have h := nx_if h hc
    refine lv_iload_n hx hb dX2_lay_7 rfl (lv_at hl 2 rfl) ?_
    obtain ⟨r_10, hc_9, h⟩ := nx_bd h
    refine nx_ki (nx_runN (As := [.int x2]) (rest := []) X hS hP (c_X10_isSide l E H.size _ x2 _ hc_9) nx_FA qN_RX2_25 ⟨rfl, rfl⟩ ⟨Nat.le_of_ble_eq_true rfl, Nat.le_of_ble_eq_true rfl⟩ ⟨Nat.zero_le _, Nat.zero_le _⟩ rfl rfl hl.1 (Nat.le_of_ble_eq_true rfl) dX2_lay_8) hS nx_FA (fun H locs hP hS => ?_)
    refine lv_if_ne (tgt := 15) hx hb dX2_lay_11 (by decide) (fun hc => ?_) (fun hc => ?_)
    · have h := nx_if h hc
      refine lv_aload_n hx hb dX2_lay_15 rfl (lv_at hl 0 rfl) ?_
      refine lv_iload_n hx hb dX2_lay_16 rfl (lv_at hl 1 rfl) ?_
      refine lv_iload_n hx hb dX2_lay_17 rfl (lv_at hl 2 rfl) ?_
      refine lv_imul hx hb dX2_lay_18 ?_
      refine nx_pf (ty := .int) (v := .int (x1 * x2)) X hI cW_ad hP hS uw_X2 tyX2 tyX2_ok nmX2 (ci := 2) rfl 1 rfl 3 (by decide) wf_RX2_29 rfl (by decide +kernel) rfl rfl (Nat.le_of_ble_eq_true rfl) dX2_lay_19 (fun H locs hP hS => ?_)
      have hP : va_P E.1 vwCl (cW E a (x1 * x2) on kinds marks nb reached dist lastW par ord paths costs wanted tlen onlyF found steps plen rowW rowS tally) H := hP
      refine lv_aload_n hx hb dX2_lay_22 rfl (lv_at hl 0 rfl) ?_
      refine lv_iconst (v := 0) hx hb dX2_lay_23 (by decide) ?_
      refine nx_pf (ty := .int) (v := .int 0) X hI cW_ad hP hS uw_X2 tyX2 tyX2_ok nmX2 (ci := 2) rfl 1 rfl 4 (by decide) wf_RX2_33 rfl (by decide +kernel) rfl rfl (Nat.le_of_ble_eq_true rfl) dX2_lay_24 (fun H locs hP hS => ?_)
      have hP : va_P E.1 vwCl (cW E a (x1 * x2) 0 kinds marks nb reached dist lastW par ord paths costs wanted tlen onlyF found steps plen rowW rowS tally) H := hP
      refine lv_aload_n hx hb dX2_lay_27 rfl (lv_at hl 0 rfl) ?_
      refine nx_gf X hP uw_X2 (ci := 2) rfl 1 rfl 0 (by decide) wf_RX2_9 rfl dX2_lay_28 ?_
      refine lv_iconst (v := 0) hx hb dX2_lay_31 (by decide) ?_
      obtain ⟨k_12, hc_11, h⟩ := nx_bd h
      refine nx_kv (nx_runS (As := [.ref (a 2), .int 0]) (rest := []) X hS hP (c_J7_fill_53178_r2 l N E H.size a (x1 * x2) 0 kinds marks nb reached dist lastW par ord paths costs wanted tlen onlyF found steps plen rowW rowS tally 0 hI _ hc_11) (nx_Am hS.1) qS_RX2_36 ⟨rfl, rfl⟩ ⟨Nat.le_of_ble_eq_true rfl, Nat.le_of_ble_eq_true rfl⟩ ⟨Nat.zero_le _, Nat.zero_le _⟩ rfl rfl hl.1 (Nat.le_of_ble_eq_true rfl) dX2_lay_32) hS (nx_Am hS.1) (fun H locs hP hS => ?_)
      have hP : va_P E.1 vwCl (cW E a (x1 * x2) 0 k_12 marks nb reached dist lastW par ord paths costs wanted tlen onlyF found steps plen rowW rowS tally) H := hP
      refine lv_aload_n hx hb dX2_lay_35 rfl (lv_at hl 0 rfl) ?_
      refine nx_gf X hP uw_X2 (ci := 2) rfl 1 rfl 1 (by decide) wf_RX2_15 rfl dX2_lay_36 ?_
      refine lv_iconst (v := 0) hx hb dX2_lay_39 (by decide) ?_
      obtain ⟨k_14, hc_13, h⟩ := nx_bd h
      refine nx_kv (nx_runS (As := [.ref (a 3), .int 0]) (rest := []) X hS hP (c_J7_fill_53178_r3 l N E H.size a (x1 * x2) 0 k_12 marks nb reached dist lastW par ord paths costs wanted tlen onlyF found steps plen rowW rowS tally 0 hI _ hc_13) (nx_Am hS.1) qS_RX2_36 ⟨rfl, rfl⟩ ⟨Nat.le_of_ble_eq_true rfl, Nat.le_of_ble_eq_true rfl⟩ ⟨Nat.zero_le _, Nat.zero_le _⟩ rfl rfl hl.1 (Nat.le_of_ble_eq_true rfl) dX2_lay_40) hS (nx_Am hS.1) (fun H locs hP hS => ?_)
      have hP : va_P E.1 vwCl (cW E a (x1 * x2) 0 k_12 k_14 nb reached dist lastW par ord paths costs wanted tlen onlyF found steps plen rowW rowS tally) H := hP
      refine lv_iconst (v := 0) hx hb dX2_lay_43 (by decide) ?_
      refine lv_istore_n (lv' := [(3, .int 0), (0, .ref (a 1)), (1, .int x1), (2, .int x2)]) hx hb dX2_lay_44 rfl hl (by decide) rfl (fun ls hl => ?_)
      obtain ⟨z_15, hz_16, h⟩ := nx_bd h
      refine L45 _ _ _ _ _ _ N _ _ _ hz_16 H locs ls hP hS (lv_sub hl [1, 2, 3, 0] rfl) (fun H locs ls hP hS hl => ?_)
      exact kr 177 ls ((x1 * x2), 0, k_12, k_14, z_15) H locs dX2_lay_177 (Option.some.inj h) hP hS
    · have h := nx_it h hc
      exact kr 14 ls (size, on, kinds, marks, nb) H locs dX2_lay_14 (Option.some.inj h) hP hS
def f_X2_size  (size : Int32) : Option (Int32) :=
  some size
set_option maxHeartbeats 4000000 in
set_option maxRecDepth 100000 in
theorem c_X2_size (l : Launch) (E : nx_E) (sz : Nat) (a : Nat → Nat) (size : Int32) (on : Int32) (kinds : Nat → Int32) (marks : Nat → Int32) (nb : Nat → Int32) (reached : Int32) (dist : Nat → Int32) (lastW : Nat → Int32) (par : Nat → Int32) (ord : Nat → Int32) (paths : Nat → Int64) (costs : Nat → Int32) (wanted : Int32) (tlen : Int32) (onlyF : Int32) (found : Int32) (steps : Nat → Int32) (plen : Int32) (rowW : Nat → Int32) (rowS : Nat → Int32) (tally : Nat → Int32)  (o : Int32) (h : f_X2_size size = some o) : Met l yX2_size (.code yX2_size cX2_size 1 (some .int) :: nx_T) (nx_rm 0 0) (va_Pc [.ref (a 1)] (nx_P E (nx_F) sz (cW E a size on kinds marks nb reached dist lastW par ord paths costs wanted tlen onlyF found steps plen rowW rowS tally))) (va_Qi (fun v (_ : Unit) => v = o) (fun _ t => va_P E.1 vwCl (cW E a size on kinds marks nb reached dist lastW par ord paths costs wanted tlen onlyF found steps plen rowW rowS tally) t.heap) (nx_F)) 0 0 (nx_F) := by
  refine nx_enI (fun v (_ : Unit) => v = o) (fun (_ : Unit) => (cW E a size on kinds marks nb reached dist lastW par ord paths costs wanted tlen onlyF found steps plen rowW rowS tally)) (by decide) (Nat.le_of_ble_eq_true rfl) ?_
  intro p e s m below meth c Q X kr hsz hP ls hl
  subst hsz
  generalize hargs : (List.toArray [.ref (a 1)] : Array Value) = args at X kr ⊢
  clear hargs
  obtain ⟨⟨hx, hb, hml, hown, hts⟩, hK, hSt, hNz⟩ := id X
  have hS : va_S (nx_F) s.heap s.heap [] := va_S.rf
  have hl : lv_has ls 1 [(0, .ref (a 1))] := hl
  unfold f_X2_size at h
  suffices hw : ∀ (H : Heap) (locs : List Loc), va_P E.1 vwCl (cW E a size on kinds marks nb reached dist lastW par ord paths costs wanted tlen onlyF found steps plen rowW rowS tally) H → va_S (nx_F) s.heap H locs → W p l e (nx_rm 0 0) s m args below meth c H locs 0 0 Q (F0 m 0 ls []) from hw _ _ hP va_S.rf
  intro H locs hP hS
  refine lv_aload_n hx hb dX2_size_0 rfl (lv_at hl 0 rfl) ?_
  refine nx_gf X hP uw_X2 (ci := 2) rfl 1 rfl 3 (by decide) wf_RX2_29 rfl dX2_size_1 ?_
  exact kr 4 ls size () H locs dX2_size_4 (Option.some.inj h) hP hS
def f_X2_has (x1 : Int32) (size : Int32) : Option (Int32) :=
  if x1 < 0 then (some 0) else (if size ≤ x1 then (some 0) else (some 1))
set_option maxHeartbeats 4000000 in
set_option maxRecDepth 100000 in
theorem c_X2_has (l : Launch) (E : nx_E) (sz : Nat) (a : Nat → Nat) (size : Int32) (on : Int32) (kinds : Nat → Int32) (marks : Nat → Int32) (nb : Nat → Int32) (reached : Int32) (dist : Nat → Int32) (lastW : Nat → Int32) (par : Nat → Int32) (ord : Nat → Int32) (paths : Nat → Int64) (costs : Nat → Int32) (wanted : Int32) (tlen : Int32) (onlyF : Int32) (found : Int32) (steps : Nat → Int32) (plen : Int32) (rowW : Nat → Int32) (rowS : Nat → Int32) (tally : Nat → Int32) (x1 : Int32) (o : Int32) (h : f_X2_has x1 size = some o) : Met l yX2_has (.code yX2_has cX2_has 2 (some .boolean) :: nx_T) (nx_rm 0 0) (va_Pc [.ref (a 1), .int x1] (nx_P E (nx_F) sz (cW E a size on kinds marks nb reached dist lastW par ord paths costs wanted tlen onlyF found steps plen rowW rowS tally))) (va_Qi (fun v (_ : Unit) => v = o) (fun _ t => va_P E.1 vwCl (cW E a size on kinds marks nb reached dist lastW par ord paths costs wanted tlen onlyF found steps plen rowW rowS tally) t.heap) (nx_F)) 0 0 (nx_F) := by
  refine nx_enZ (fun v (_ : Unit) => v = o) (fun (_ : Unit) => (cW E a size on kinds marks nb reached dist lastW par ord paths costs wanted tlen onlyF found steps plen rowW rowS tally)) (by decide) (Nat.le_of_ble_eq_true rfl) ?_
  intro p e s m below meth c Q X kr hsz hP ls hl
  subst hsz
  generalize hargs : (List.toArray [.ref (a 1), .int x1] : Array Value) = args at X kr ⊢
  clear hargs
  obtain ⟨⟨hx, hb, hml, hown, hts⟩, hK, hSt, hNz⟩ := id X
  have hS : va_S (nx_F) s.heap s.heap [] := va_S.rf
  have hl : lv_has ls 2 [(0, .ref (a 1)), (1, .int x1)] := hl
  unfold f_X2_has at h
  suffices hw : ∀ (H : Heap) (locs : List Loc), va_P E.1 vwCl (cW E a size on kinds marks nb reached dist lastW par ord paths costs wanted tlen onlyF found steps plen rowW rowS tally) H → va_S (nx_F) s.heap H locs → W p l e (nx_rm 0 0) s m args below meth c H locs 0 0 Q (F0 m 0 ls []) from hw _ _ hP va_S.rf
  intro H locs hP hS
  refine lv_iload_n hx hb dX2_has_0 rfl (lv_at hl 1 rfl) ?_
  refine lv_if_lt (tgt := 16) hx hb dX2_has_1 (by decide) (fun hc => ?_) (fun hc => ?_)
  · have h := nx_it h hc
    refine lv_iconst (v := 0) hx hb dX2_has_16 (by decide) ?_
    exact kr 17 ls 0 () H locs dX2_has_17 (Or.inl rfl) (Option.some.inj h) hP hS
  · have h := nx_if h hc
    refine lv_iload_n hx hb dX2_has_4 rfl (lv_at hl 1 rfl) ?_
    refine lv_aload_n hx hb dX2_has_5 rfl (lv_at hl 0 rfl) ?_
    refine nx_gf X hP uw_X2 (ci := 2) rfl 1 rfl 3 (by decide) wf_RX2_29 rfl dX2_has_6 ?_
    refine lv_icmp_ge (tgt := 16) hx hb dX2_has_9 (by decide) (fun hc => ?_) (fun hc => ?_)
    · have h := nx_it h hc
      refine lv_iconst (v := 0) hx hb dX2_has_16 (by decide) ?_
      exact kr 17 ls 0 () H locs dX2_has_17 (Or.inl rfl) (Option.some.inj h) hP hS
    · have h := nx_if h hc
      refine lv_iconst (v := 1) hx hb dX2_has_12 (by decide) ?_
      refine lv_goto (tgt := 17) hx hb dX2_has_13 (by decide) ?_
      exact kr 17 ls 1 () H locs dX2_has_17 (Or.inr rfl) (Option.some.inj h) hP hS
def f_X2_beside_j26 (x1 : Int32) (x2 : Int32) (s0 : Int32) (nb : Nat → Int32) : Option (Int32) :=
  if s0 = 0 then (some (-1)) else ((nx_rd nb 100 ((x1 * 4) + x2)).bind fun _ => some (nb ((x1 * 4) + x2).toNatClampNeg))
def f_X2_beside (x1 : Int32) (x2 : Int32) (size : Int32) (nb : Nat → Int32) : Option (Int32) :=
  if x1 < 0 then (f_X2_beside_j26 x1 x2 0 nb) else (if size ≤ x1 then (f_X2_beside_j26 x1 x2 0 nb) else (if x2 < 0 then (f_X2_beside_j26 x1 x2 0 nb) else (if 4 ≤ x2 then (f_X2_beside_j26 x1 x2 0 nb) else (f_X2_beside_j26 x1 x2 1 nb))))
set_option maxHeartbeats 4000000 in
set_option maxRecDepth 100000 in
theorem c_X2_beside (l : Launch) (E : nx_E) (sz : Nat) (a : Nat → Nat) (size : Int32) (on : Int32) (kinds : Nat → Int32) (marks : Nat → Int32) (nb : Nat → Int32) (reached : Int32) (dist : Nat → Int32) (lastW : Nat → Int32) (par : Nat → Int32) (ord : Nat → Int32) (paths : Nat → Int64) (costs : Nat → Int32) (wanted : Int32) (tlen : Int32) (onlyF : Int32) (found : Int32) (steps : Nat → Int32) (plen : Int32) (rowW : Nat → Int32) (rowS : Nat → Int32) (tally : Nat → Int32) (x1 : Int32) (x2 : Int32) (o : Int32) (h : f_X2_beside x1 x2 size nb = some o) : Met l yX2_beside (.code yX2_beside cX2_beside 4 (some .int) :: nx_T) (nx_rm 0 0) (va_Pc [.ref (a 1), .int x1, .int x2] (nx_P E (nx_F) sz (cW E a size on kinds marks nb reached dist lastW par ord paths costs wanted tlen onlyF found steps plen rowW rowS tally))) (va_Qi (fun v (_ : Unit) => v = o) (fun _ t => va_P E.1 vwCl (cW E a size on kinds marks nb reached dist lastW par ord paths costs wanted tlen onlyF found steps plen rowW rowS tally) t.heap) (nx_F)) 0 0 (nx_F) := by
  refine nx_enI (fun v (_ : Unit) => v = o) (fun (_ : Unit) => (cW E a size on kinds marks nb reached dist lastW par ord paths costs wanted tlen onlyF found steps plen rowW rowS tally)) (by decide) (Nat.le_of_ble_eq_true rfl) ?_
  intro p e s m below meth c Q X kr hsz hP ls hl
  subst hsz
  generalize hargs : (List.toArray [.ref (a 1), .int x1, .int x2] : Array Value) = args at X kr ⊢
  clear hargs
  obtain ⟨⟨hx, hb, hml, hown, hts⟩, hK, hSt, hNz⟩ := id X
  have hS : va_S (nx_F) s.heap s.heap [] := va_S.rf
  have hl : lv_has ls 4 [(0, .ref (a 1)), (1, .int x1), (2, .int x2)] := hl
  have J26 : ∀ (x1 : Int32) (x2 : Int32) (s0 : Int32), f_X2_beside_j26 x1 x2 s0 nb = some o → ∀ (H : Heap) (locs : List Loc) (ls : Array Slot), va_P E.1 vwCl (cW E a size on kinds marks nb reached dist lastW par ord paths costs wanted tlen onlyF found steps plen rowW rowS tally) H → va_S (nx_F) s.heap H locs → lv_has ls 4 [(0, .ref (a 1)), (1, .int x1), (2, .int x2)] → W p l e (nx_rm 0 0) s m args below meth c H locs 0 0 Q (F0 m 26 ls [.int s0]) := by
    intro x1 x2 s0 h H locs ls hP hS hl
    unfold f_X2_beside_j26 at h
    refine lv_istore_n (lv' := [(3, .int s0), (0, .ref (a 1)), (1, .int x1), (2, .int x2)]) hx hb dX2_beside_26 rfl hl (by decide) rfl (fun ls hl => ?_)
    refine lv_iload_n hx hb dX2_beside_27 rfl (lv_at hl 0 rfl) ?_
    refine lv_if_eq (tgt := 44) hx hb dX2_beside_28 (by decide) (fun hc => ?_) (fun hc => ?_)
    · have h := nx_it h hc
      refine lv_iconst (v := (-1)) hx hb dX2_beside_44 (by decide) ?_
      exact kr 45 ls (-1) () H locs dX2_beside_45 (Option.some.inj h) hP hS
    · have h := nx_if h hc
      refine lv_aload_n hx hb dX2_beside_31 rfl (lv_at hl 1 rfl) ?_
      refine nx_gf X hP uw_X2 (ci := 2) rfl 1 rfl 2 (by decide) wf_RX2_18 rfl dX2_beside_32 ?_
      refine lv_iload_n hx hb dX2_beside_35 rfl (lv_at hl 2 rfl) ?_
      refine lv_iconst (v := 4) hx hb dX2_beside_36 (by decide) ?_
      refine lv_imul hx hb dX2_beside_37 ?_
      refine lv_iload_n hx hb dX2_beside_38 rfl (lv_at hl 3 rfl) ?_
      refine lv_iadd hx hb dX2_beside_39 ?_
      obtain ⟨hv_1, h⟩ := nx_rb h
      refine nx_ld X hP 4 rfl hv_1 dX2_beside_40 ?_
      refine lv_goto (tgt := 45) hx hb dX2_beside_41 (by decide) ?_
      exact kr 45 ls (nb ((x1 * 4) + x2).toNatClampNeg) () H locs dX2_beside_45 (Option.some.inj h) hP hS
  unfold f_X2_beside at h
  suffices hw : ∀ (H : Heap) (locs : List Loc), va_P E.1 vwCl (cW E a size on kinds marks nb reached dist lastW par ord paths costs wanted tlen onlyF found steps plen rowW rowS tally) H → va_S (nx_F) s.heap H locs → W p l e (nx_rm 0 0) s m args below meth c H locs 0 0 Q (F0 m 0 ls []) from hw _ _ hP va_S.rf
  intro H locs hP hS
  refine lv_iload_n hx hb dX2_beside_0 rfl (lv_at hl 1 rfl) ?_
  refine lv_if_lt (tgt := 25) hx hb dX2_beside_1 (by decide) (fun hc => ?_) (fun hc => ?_)
  · have h := nx_it h hc
    refine lv_iconst (v := 0) hx hb dX2_beside_25 (by decide) ?_
    exact J26 _ _ _ h H locs ls hP hS (lv_sub hl [0, 1, 2] rfl)
  · have h := nx_if h hc
    refine lv_iload_n hx hb dX2_beside_4 rfl (lv_at hl 1 rfl) ?_
    refine lv_aload_n hx hb dX2_beside_5 rfl (lv_at hl 0 rfl) ?_
    refine nx_gf X hP uw_X2 (ci := 2) rfl 1 rfl 3 (by decide) wf_RX2_29 rfl dX2_beside_6 ?_
    refine lv_icmp_ge (tgt := 25) hx hb dX2_beside_9 (by decide) (fun hc => ?_) (fun hc => ?_)
    · have h := nx_it h hc
      refine lv_iconst (v := 0) hx hb dX2_beside_25 (by decide) ?_
      exact J26 _ _ _ h H locs ls hP hS (lv_sub hl [0, 1, 2] rfl)
    · have h := nx_if h hc
      refine lv_iload_n hx hb dX2_beside_12 rfl (lv_at hl 2 rfl) ?_
      refine lv_if_lt (tgt := 25) hx hb dX2_beside_13 (by decide) (fun hc => ?_) (fun hc => ?_)
      · have h := nx_it h hc
        refine lv_iconst (v := 0) hx hb dX2_beside_25 (by decide) ?_
        exact J26 _ _ _ h H locs ls hP hS (lv_sub hl [0, 1, 2] rfl)
      · have h := nx_if h hc
        refine lv_iload_n hx hb dX2_beside_16 rfl (lv_at hl 2 rfl) ?_
        refine lv_iconst (v := 4) hx hb dX2_beside_17 (by decide) ?_
        refine lv_icmp_ge (tgt := 25) hx hb dX2_beside_18 (by decide) (fun hc => ?_) (fun hc => ?_)
        · have h := nx_it h hc
          refine lv_iconst (v := 0) hx hb dX2_beside_25 (by decide) ?_
          exact J26 _ _ _ h H locs ls hP hS (lv_sub hl [0, 1, 2] rfl)
        · have h := nx_if h hc
          refine lv_iconst (v := 1) hx hb dX2_beside_21 (by decide) ?_
          refine lv_goto (tgt := 26) hx hb dX2_beside_22 (by decide) ?_
          exact J26 _ _ _ h H locs ls hP hS (lv_sub hl [0, 1, 2] rfl)
def f_X2_kindOf (x1 : Int32) (size : Int32) (kinds : Nat → Int32) : Option (Int32) :=
  if x1 < 0 then (some 1) else (if size ≤ x1 then (some 1) else ((nx_rd kinds 25 x1).bind fun _ => some (kinds x1.toNatClampNeg)))
set_option maxHeartbeats 4000000 in
set_option maxRecDepth 100000 in
theorem c_X2_kindOf (l : Launch) (E : nx_E) (sz : Nat) (a : Nat → Nat) (size : Int32) (on : Int32) (kinds : Nat → Int32) (marks : Nat → Int32) (nb : Nat → Int32) (reached : Int32) (dist : Nat → Int32) (lastW : Nat → Int32) (par : Nat → Int32) (ord : Nat → Int32) (paths : Nat → Int64) (costs : Nat → Int32) (wanted : Int32) (tlen : Int32) (onlyF : Int32) (found : Int32) (steps : Nat → Int32) (plen : Int32) (rowW : Nat → Int32) (rowS : Nat → Int32) (tally : Nat → Int32) (x1 : Int32) (o : Int32) (h : f_X2_kindOf x1 size kinds = some o) : Met l yX2_kindOf (.code yX2_kindOf cX2_kindOf 2 (some .int) :: nx_T) (nx_rm 0 0) (va_Pc [.ref (a 1), .int x1] (nx_P E (nx_F) sz (cW E a size on kinds marks nb reached dist lastW par ord paths costs wanted tlen onlyF found steps plen rowW rowS tally))) (va_Qi (fun v (_ : Unit) => v = o) (fun _ t => va_P E.1 vwCl (cW E a size on kinds marks nb reached dist lastW par ord paths costs wanted tlen onlyF found steps plen rowW rowS tally) t.heap) (nx_F)) 0 0 (nx_F) := by
  refine nx_enI (fun v (_ : Unit) => v = o) (fun (_ : Unit) => (cW E a size on kinds marks nb reached dist lastW par ord paths costs wanted tlen onlyF found steps plen rowW rowS tally)) (by decide) (Nat.le_of_ble_eq_true rfl) ?_
  intro p e s m below meth c Q X kr hsz hP ls hl
  subst hsz
  generalize hargs : (List.toArray [.ref (a 1), .int x1] : Array Value) = args at X kr ⊢
  clear hargs
  obtain ⟨⟨hx, hb, hml, hown, hts⟩, hK, hSt, hNz⟩ := id X
  have hS : va_S (nx_F) s.heap s.heap [] := va_S.rf
  have hl : lv_has ls 2 [(0, .ref (a 1)), (1, .int x1)] := hl
  unfold f_X2_kindOf at h
  suffices hw : ∀ (H : Heap) (locs : List Loc), va_P E.1 vwCl (cW E a size on kinds marks nb reached dist lastW par ord paths costs wanted tlen onlyF found steps plen rowW rowS tally) H → va_S (nx_F) s.heap H locs → W p l e (nx_rm 0 0) s m args below meth c H locs 0 0 Q (F0 m 0 ls []) from hw _ _ hP va_S.rf
  intro H locs hP hS
  refine lv_iload_n hx hb dX2_kindOf_0 rfl (lv_at hl 1 rfl) ?_
  refine lv_if_lt (tgt := 21) hx hb dX2_kindOf_1 (by decide) (fun hc => ?_) (fun hc => ?_)
  · have h := nx_it h hc
    refine lv_iconst (v := 1) hx hb dX2_kindOf_21 (by decide) ?_
    exact kr 22 ls 1 () H locs dX2_kindOf_22 (Option.some.inj h) hP hS
  · have h := nx_if h hc
    refine lv_iload_n hx hb dX2_kindOf_4 rfl (lv_at hl 1 rfl) ?_
    refine lv_aload_n hx hb dX2_kindOf_5 rfl (lv_at hl 0 rfl) ?_
    refine nx_gf X hP uw_X2 (ci := 2) rfl 1 rfl 3 (by decide) wf_RX2_29 rfl dX2_kindOf_6 ?_
    refine lv_icmp_ge (tgt := 21) hx hb dX2_kindOf_9 (by decide) (fun hc => ?_) (fun hc => ?_)
    · have h := nx_it h hc
      refine lv_iconst (v := 1) hx hb dX2_kindOf_21 (by decide) ?_
      exact kr 22 ls 1 () H locs dX2_kindOf_22 (Option.some.inj h) hP hS
    · have h := nx_if h hc
      refine lv_aload_n hx hb dX2_kindOf_12 rfl (lv_at hl 0 rfl) ?_
      refine nx_gf X hP uw_X2 (ci := 2) rfl 1 rfl 0 (by decide) wf_RX2_9 rfl dX2_kindOf_13 ?_
      refine lv_iload_n hx hb dX2_kindOf_16 rfl (lv_at hl 1 rfl) ?_
      obtain ⟨hv_1, h⟩ := nx_rb h
      refine nx_ld X hP 2 rfl hv_1 dX2_kindOf_17 ?_
      refine lv_goto (tgt := 22) hx hb dX2_kindOf_18 (by decide) ?_
      exact kr 22 ls (kinds x1.toNatClampNeg) () H locs dX2_kindOf_22 (Option.some.inj h) hP hS
