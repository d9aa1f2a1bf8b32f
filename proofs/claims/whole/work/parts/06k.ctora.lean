def f_J7_fill_53178_r1_bw_b5 (x1 : Int32) (x3 : Int32) (rec : (Int32 × (Nat → Int32)) → Option ((Nat → Int32))) (x2 : Int32) (kinds : Nat → Int32) : Option ((Nat → Int32)) :=
  if x3 ≤ x2 then (some kinds) else ((nx_ck 25 x2).bind fun _ => rec ((x2 + 1), (upd kinds x2.toNatClampNeg x1)))
def f_J7_fill_53178_r1_bw_l5 (x1 : Int32) (x3 : Int32) : Nat → (Int32 × (Nat → Int32)) → Option ((Nat → Int32)) := nx_lp (fun rec z => f_J7_fill_53178_r1_bw_b5 x1 x3 rec z.1 z.2)
def f_J7_fill_53178_r1_bw (N : Nat) (x1 : Int32) (kinds : Nat → Int32) : Option ((Nat → Int32)) :=
  (f_J7_fill_53178_r1_bw_l5 x1 25 N (0, kinds)).bind fun z_2 => some z_2
set_option maxHeartbeats 4000000 in
set_option maxRecDepth 100000 in
theorem c_J7_fill_53178_r1_bw (l : Launch) (N : Nat) (E : nx_E) (sz : Nat) (a : Nat → Nat) (size : Int32) (on : Int32) (kinds : Nat → Int32) (marks : Nat → Int32) (nb : Nat → Int32) (x1 : Int32) (hI : nx_inj a 4) (o : (Nat → Int32)) (h : f_J7_fill_53178_r1_bw N x1 kinds = some o) : Met l yJ7_fill_53178 (.code yJ7_fill_53178 cJ7_fill_53178 4 none :: nx_T) (nx_rm 0 0) (va_Pc [.ref (a 1), .int x1] (nx_P E (nx_A a 4 sz) sz (bW E a size on kinds marks nb))) (va_Qv (fun u => u = o) (fun u t => va_P E.1 vwCl (bW E a size on u marks nb) t.heap) (nx_A a 4 sz)) 0 0 (nx_A a 4 sz) := by
  refine nx_enV (fun u => u = o) (fun (u : (Nat → Int32)) => (bW E a size on u marks nb)) (by decide) (Nat.le_of_ble_eq_true rfl) ?_
  intro p e s m below meth c Q X kr hsz hP ls hl
  subst hsz
  generalize hargs : (List.toArray [.ref (a 1), .int x1] : Array Value) = args at X kr ⊢
  clear hargs
  obtain ⟨⟨hx, hb, hml, hown, hts⟩, hK, hSt, hNz⟩ := id X
  have hS : va_S (nx_A a 4 s.heap.size) s.heap s.heap [] := va_S.rf
  have hl : lv_has ls 4 [(0, .ref (a 1)), (1, .int x1)] := hl
  have L5 : ∀ (x1 : Int32) (x3 : Int32) (n : Nat) (x2 : Int32) (kinds : Nat → Int32) (z : ((Nat → Int32))), f_J7_fill_53178_r1_bw_l5 x1 x3 n (x2, kinds) = some z → ∀ (H : Heap) (locs : List Loc) (ls : Array Slot), va_P E.1 vwCl (bW E a size on kinds marks nb) H → va_S (nx_A a 4 s.heap.size) s.heap H locs → lv_has ls 4 [(0, .ref (a 1)), (1, .int x1), (2, .int x2), (3, .int x3)] → ∀ (kR : ∀ (H : Heap) (locs : List Loc) (ls : Array Slot), va_P E.1 vwCl (bW E a size on z marks nb) H → va_S (nx_A a 4 s.heap.size) s.heap H locs → lv_has ls 4 [(0, .ref (a 1))] → W p l e (nx_rm 0 0) s m args below meth c H locs 0 0 Q (F0 m 20 ls [])), W p l e (nx_rm 0 0) s m args below meth c H locs 0 0 Q (F0 m 5 ls []) := by
   intro x1 x3 n
   induction n with
   | zero => intro x2 kinds z h; exact nomatch (show none = some z from h)
   | succ n ih =>
    intro x2 kinds z h H locs ls hP hS hl kR
    have h : f_J7_fill_53178_r1_bw_b5 x1 x3 (f_J7_fill_53178_r1_bw_l5 x1 x3 n) x2 kinds = some z := h
    unfold f_J7_fill_53178_r1_bw_b5 at h
    refine lv_iload_n hx hb dJ7_fill_53178_5 rfl (lv_at hl 2 rfl) ?_
    refine lv_iload_n hx hb dJ7_fill_53178_6 rfl (lv_at hl 3 rfl) ?_
    refine lv_icmp_ge (tgt := 20) hx hb dJ7_fill_53178_7 (by decide) (fun hc => ?_) (fun hc => ?_)
    · have h := nx_it h hc
      obtain rfl := Option.some.inj h
      exact kR H locs ls hP hS (lv_sub hl [0] rfl)
    · have h := nx_if h hc
      refine lv_aload_n hx hb dJ7_fill_53178_10 rfl (lv_at hl 0 rfl) ?_
      refine lv_iload_n hx hb dJ7_fill_53178_11 rfl (lv_at hl 2 rfl) ?_
      refine lv_iload_n hx hb dJ7_fill_53178_12 rfl (lv_at hl 1 rfl) ?_
      obtain ⟨hv_1, h⟩ := nx_cb h
      refine nx_st X hI bW_ad hP hS 1 rfl hv_1 dJ7_fill_53178_13 (fun H locs hP hS => ?_)
      have hP : va_P E.1 vwCl (bW E a size on (upd kinds x2.toNatClampNeg x1) marks nb) H := hP
      refine lv_iinc (v := (x2 + 1)) (lv' := [(2, .int (x2 + 1)), (0, .ref (a 1)), (1, .int x1), (3, .int x3)]) hx hb dJ7_fill_53178_14 hl (k := 2) rfl rfl (by decide) rfl (fun ls hl => ?_)
      refine lv_goto (tgt := 5) hx hb dJ7_fill_53178_17 (by decide) ?_
      exact ih _ _ z h H locs ls hP hS (lv_sub hl [1, 2, 0, 3] rfl) kR
  unfold f_J7_fill_53178_r1_bw at h
  suffices hw : ∀ (H : Heap) (locs : List Loc), va_P E.1 vwCl (bW E a size on kinds marks nb) H → va_S (nx_A a 4 s.heap.size) s.heap H locs → W p l e (nx_rm 0 0) s m args below meth c H locs 0 0 Q (F0 m 0 ls []) from hw _ _ hP va_S.rf
  intro H locs hP hS
  refine lv_iconst (v := 0) hx hb dJ7_fill_53178_0 (by decide) ?_
  refine lv_istore_n (lv' := [(2, .int 0), (0, .ref (a 1)), (1, .int x1)]) hx hb dJ7_fill_53178_1 rfl hl (by decide) rfl (fun ls hl => ?_)
  refine lv_aload_n hx hb dJ7_fill_53178_2 rfl (lv_at hl 1 rfl) ?_
  refine nx_al (v := 25) X hP 1 rfl rfl dJ7_fill_53178_3 ?_
  refine lv_istore_n (lv' := [(3, .int 25), (2, .int 0), (0, .ref (a 1)), (1, .int x1)]) hx hb dJ7_fill_53178_4 rfl hl (by decide) rfl (fun ls hl => ?_)
  obtain ⟨z_2, hz_3, h⟩ := nx_bd h
  refine L5 _ _ N _ _ _ hz_3 H locs ls hP hS (lv_sub hl [2, 3, 1, 0] rfl) (fun H locs ls hP hS hl => ?_)
  exact kr 20 ls z_2 H locs dJ7_fill_53178_20 (Option.some.inj h) hP hS
def f_J7_fill_53178_r2_bw_b5 (x1 : Int32) (x3 : Int32) (rec : (Int32 × (Nat → Int32)) → Option ((Nat → Int32))) (x2 : Int32) (marks : Nat → Int32) : Option ((Nat → Int32)) :=
  if x3 ≤ x2 then (some marks) else ((nx_ck 25 x2).bind fun _ => rec ((x2 + 1), (upd marks x2.toNatClampNeg x1)))
def f_J7_fill_53178_r2_bw_l5 (x1 : Int32) (x3 : Int32) : Nat → (Int32 × (Nat → Int32)) → Option ((Nat → Int32)) := nx_lp (fun rec z => f_J7_fill_53178_r2_bw_b5 x1 x3 rec z.1 z.2)
def f_J7_fill_53178_r2_bw (N : Nat) (x1 : Int32) (marks : Nat → Int32) : Option ((Nat → Int32)) :=
  (f_J7_fill_53178_r2_bw_l5 x1 25 N (0, marks)).bind fun z_2 => some z_2
set_option maxHeartbeats 4000000 in
set_option maxRecDepth 100000 in
theorem c_J7_fill_53178_r2_bw (l : Launch) (N : Nat) (E : nx_E) (sz : Nat) (a : Nat → Nat) (size : Int32) (on : Int32) (kinds : Nat → Int32) (marks : Nat → Int32) (nb : Nat → Int32) (x1 : Int32) (hI : nx_inj a 4) (o : (Nat → Int32)) (h : f_J7_fill_53178_r2_bw N x1 marks = some o) : Met l yJ7_fill_53178 (.code yJ7_fill_53178 cJ7_fill_53178 4 none :: nx_T) (nx_rm 0 0) (va_Pc [.ref (a 2), .int x1] (nx_P E (nx_A a 4 sz) sz (bW E a size on kinds marks nb))) (va_Qv (fun u => u = o) (fun u t => va_P E.1 vwCl (bW E a size on kinds u nb) t.heap) (nx_A a 4 sz)) 0 0 (nx_A a 4 sz) := by
  refine nx_enV (fun u => u = o) (fun (u : (Nat → Int32)) => (bW E a size on kinds u nb)) (by decide) (Nat.le_of_ble_eq_true rfl) ?_
  intro p e s m below meth c Q X kr hsz hP ls hl
  subst hsz
  generalize hargs : (List.toArray [.ref (a 2), .int x1] : Array Value) = args at X kr ⊢
  clear hargs
  obtain ⟨⟨hx, hb, hml, hown, hts⟩, hK, hSt, hNz⟩ := id X
  have hS : va_S (nx_A a 4 s.heap.size) s.heap s.heap [] := va_S.rf
  have hl : lv_has ls 4 [(0, .ref (a 2)), (1, .int x1)] := hl
  have L5 : ∀ (x1 : Int32) (x3 : Int32) (n : Nat) (x2 : Int32) (marks : Nat → Int32) (z : ((Nat → Int32))), f_J7_fill_53178_r2_bw_l5 x1 x3 n (x2, marks) = some z → ∀ (H : Heap) (locs : List Loc) (ls : Array Slot), va_P E.1 vwCl (bW E a size on kinds marks nb) H → va_S (nx_A a 4 s.heap.size) s.heap H locs → lv_has ls 4 [(0, .ref (a 2)), (1, .int x1), (2, .int x2), (3, .int x3)] → ∀ (kR : ∀ (H : Heap) (locs : List Loc) (ls : Array Slot), va_P E.1 vwCl (bW E a size on kinds z nb) H → va_S (nx_A a 4 s.heap.size) s.heap H locs → lv_has ls 4 [(0, .ref (a 2))] → W p l e (nx_rm 0 0) s m args below meth c H locs 0 0 Q (F0 m 20 ls [])), W p l e (nx_rm 0 0) s m args below meth c H locs 0 0 Q (F0 m 5 ls []) := by
   intro x1 x3 n
   induction n with
   | zero => intro x2 marks z h; exact nomatch (show none = some z from h)
   | succ n ih =>
    intro x2 marks z h H locs ls hP hS hl kR
    have h : f_J7_fill_53178_r2_bw_b5 x1 x3 (f_J7_fill_53178_r2_bw_l5 x1 x3 n) x2 marks = some z := h
    unfold f_J7_fill_53178_r2_bw_b5 at h
    refine lv_iload_n hx hb dJ7_fill_53178_5 rfl (lv_at hl 2 rfl) ?_
    refine lv_iload_n hx hb dJ7_fill_53178_6 rfl (lv_at hl 3 rfl) ?_
    refine lv_icmp_ge (tgt := 20) hx hb dJ7_fill_53178_7 (by decide) (fun hc => ?_) (fun hc => ?_)
    · have h := nx_it h hc
      obtain rfl := Option.some.inj h
      exact kR H locs ls hP hS (lv_sub hl [0] rfl)
    · have h := nx_if h hc
      refine lv_aload_n hx hb dJ7_fill_53178_10 rfl (lv_at hl 0 rfl) ?_
      refine lv_iload_n hx hb dJ7_fill_53178_11 rfl (lv_at hl 2 rfl) ?_
      refine lv_iload_n hx hb dJ7_fill_53178_12 rfl (lv_at hl 1 rfl) ?_
      obtain ⟨hv_1, h⟩ := nx_cb h
      refine nx_st X hI bW_ad hP hS 2 rfl hv_1 dJ7_fill_53178_13 (fun H locs hP hS => ?_)
      have hP : va_P E.1 vwCl (bW E a size on kinds (upd marks x2.toNatClampNeg x1) nb) H := hP
      refine lv_iinc (v := (x2 + 1)) (lv' := [(2, .int (x2 + 1)), (0, .ref (a 2)), (1, .int x1), (3, .int x3)]) hx hb dJ7_fill_53178_14 hl (k := 2) rfl rfl (by decide) rfl (fun ls hl => ?_)
      refine lv_goto (tgt := 5) hx hb dJ7_fill_53178_17 (by decide) ?_
      exact ih _ _ z h H locs ls hP hS (lv_sub hl [1, 2, 0, 3] rfl) kR
  unfold f_J7_fill_53178_r2_bw at h
  suffices hw : ∀ (H : Heap) (locs : List Loc), va_P E.1 vwCl (bW E a size on kinds marks nb) H → va_S (nx_A a 4 s.heap.size) s.heap H locs → W p l e (nx_rm 0 0) s m args below meth c H locs 0 0 Q (F0 m 0 ls []) from hw _ _ hP va_S.rf
  intro H locs hP hS
  refine lv_iconst (v := 0) hx hb dJ7_fill_53178_0 (by decide) ?_
  refine lv_istore_n (lv' := [(2, .int 0), (0, .ref (a 2)), (1, .int x1)]) hx hb dJ7_fill_53178_1 rfl hl (by decide) rfl (fun ls hl => ?_)
  refine lv_aload_n hx hb dJ7_fill_53178_2 rfl (lv_at hl 1 rfl) ?_
  refine nx_al (v := 25) X hP 2 rfl rfl dJ7_fill_53178_3 ?_
  refine lv_istore_n (lv' := [(3, .int 25), (2, .int 0), (0, .ref (a 2)), (1, .int x1)]) hx hb dJ7_fill_53178_4 rfl hl (by decide) rfl (fun ls hl => ?_)
  obtain ⟨z_2, hz_3, h⟩ := nx_bd h
  refine L5 _ _ N _ _ _ hz_3 H locs ls hP hS (lv_sub hl [2, 3, 1, 0] rfl) (fun H locs ls hP hS hl => ?_)
  exact kr 20 ls z_2 H locs dJ7_fill_53178_20 (Option.some.inj h) hP hS
def f_X2_lay_bw_j164 (rec : (Int32 × (Nat → Int32)) → Option ((Nat → Int32))) (x1 : Int32) (x2 : Int32) (x3 : Int32) (x4 : Int32) (s0 : Int32) (s1 : Int32) (nb : Nat → Int32) : Option ((Nat → Int32)) :=
  (nx_ck 100 s1).bind fun _ => rec ((x4 + 1), (upd nb s1.toNatClampNeg s0))
def f_X2_lay_bw_j141 (rec : (Int32 × (Nat → Int32)) → Option ((Nat → Int32))) (x1 : Int32) (x2 : Int32) (x3 : Int32) (x4 : Int32) (x5 : Int32) (s0 : Int32) (s1 : Int32) (nb : Nat → Int32) : Option ((Nat → Int32)) :=
  (nx_ck 100 s1).bind fun _ => if x3 ≤ 0 then (f_X2_lay_bw_j164 rec x1 x2 x3 x4 (-1) ((x5 * 4) + 3) (upd nb s1.toNatClampNeg s0)) else (f_X2_lay_bw_j164 rec x1 x2 x3 x4 (x5 - x1) ((x5 * 4) + 3) (upd nb s1.toNatClampNeg s0))
def f_X2_lay_bw_j117 (rec : (Int32 × (Nat → Int32)) → Option ((Nat → Int32))) (x1 : Int32) (x2 : Int32) (x3 : Int32) (x4 : Int32) (x5 : Int32) (s0 : Int32) (s1 : Int32) (nb : Nat → Int32) : Option ((Nat → Int32)) :=
  (nx_ck 100 s1).bind fun _ => if x4 ≤ 0 then (f_X2_lay_bw_j141 rec x1 x2 x3 x4 x5 (-1) ((x5 * 4) + 2) (upd nb s1.toNatClampNeg s0)) else (f_X2_lay_bw_j141 rec x1 x2 x3 x4 x5 (x5 - 1) ((x5 * 4) + 2) (upd nb s1.toNatClampNeg s0))
def f_X2_lay_bw_j91 (rec : (Int32 × (Nat → Int32)) → Option ((Nat → Int32))) (x1 : Int32) (x2 : Int32) (x3 : Int32) (x4 : Int32) (x5 : Int32) (s0 : Int32) (s1 : Int32) (nb : Nat → Int32) : Option ((Nat → Int32)) :=
  (nx_ck 100 s1).bind fun _ => if x2 ≤ (x3 + 1) then (f_X2_lay_bw_j117 rec x1 x2 x3 x4 x5 (-1) ((x5 * 4) + 1) (upd nb s1.toNatClampNeg s0)) else (f_X2_lay_bw_j117 rec x1 x2 x3 x4 x5 (x5 + x1) ((x5 * 4) + 1) (upd nb s1.toNatClampNeg s0))
def f_X2_lay_bw_b53 (x1 : Int32) (x2 : Int32) (x3 : Int32) (rec : (Int32 × (Nat → Int32)) → Option ((Nat → Int32))) (x4 : Int32) (nb : Nat → Int32) : Option ((Nat → Int32)) :=
  if x1 ≤ x4 then (some nb) else (if x1 ≤ (x4 + 1) then (f_X2_lay_bw_j91 rec x1 x2 x3 x4 ((x3 * x1) + x4) (-1) (((x3 * x1) + x4) * 4) nb) else (f_X2_lay_bw_j91 rec x1 x2 x3 x4 ((x3 * x1) + x4) (((x3 * x1) + x4) + 1) (((x3 * x1) + x4) * 4) nb))
def f_X2_lay_bw_l53 (x1 : Int32) (x2 : Int32) (x3 : Int32) : Nat → (Int32 × (Nat → Int32)) → Option ((Nat → Int32)) := nx_lp (fun rec z => f_X2_lay_bw_b53 x1 x2 x3 rec z.1 z.2)
def f_X2_lay_bw_b45 (N : Nat) (x1 : Int32) (x2 : Int32) (rec : (Int32 × (Nat → Int32)) → Option ((Nat → Int32))) (x3 : Int32) (nb : Nat → Int32) : Option ((Nat → Int32)) :=
  if x2 ≤ x3 then (some nb) else ((f_X2_lay_bw_l53 x1 x2 x3 N (0, nb)).bind fun z_5 => rec ((x3 + 1), z_5))
def f_X2_lay_bw_l45 (N : Nat) (x1 : Int32) (x2 : Int32) : Nat → (Int32 × (Nat → Int32)) → Option ((Nat → Int32)) := nx_lp (fun rec z => f_X2_lay_bw_b45 N x1 x2 rec z.1 z.2)
def f_X2_lay_bw (N : Nat) (x1 : Int32) (x2 : Int32) (size : Int32) (on : Int32) (kinds : Nat → Int32) (marks : Nat → Int32) (nb : Nat → Int32) : Option (Int32 × Int32 × (Nat → Int32) × (Nat → Int32) × (Nat → Int32)) :=
  (f_X10_isSide x1).bind fun r_8 => if r_8 = 0 then (some (size, on, kinds, marks, nb)) else ((f_X10_isSide x2).bind fun r_10 => if r_10 = 0 then (some (size, on, kinds, marks, nb)) else ((f_J7_fill_53178_r1_bw N 0 kinds).bind fun k_12 => (f_J7_fill_53178_r2_bw N 0 marks).bind fun k_14 => (f_X2_lay_bw_l45 N x1 x2 N (0, nb)).bind fun z_15 => some ((x1 * x2), 0, k_12, k_14, z_15)))
set_option maxHeartbeats 4000000 in
set_option maxRecDepth 100000 in
theorem c_X2_lay_bw (l : Launch) (N : Nat) (E : nx_E) (sz : Nat) (a : Nat → Nat) (size : Int32) (on : Int32) (kinds : Nat → Int32) (marks : Nat → Int32) (nb : Nat → Int32) (x1 : Int32) (x2 : Int32) (hI : nx_inj a 4) (o : Int32 × Int32 × (Nat → Int32) × (Nat → Int32) × (Nat → Int32)) (h : f_X2_lay_bw N x1 x2 size on kinds marks nb = some o) : Met l yX2_lay (.code yX2_lay cX2_lay 6 none :: nx_T) (nx_rm 1 23) (va_Pc [.ref (a 0), .int x1, .int x2] (nx_P E (nx_A a 4 sz) sz (bW E a size on kinds marks nb))) (va_Qv (fun u => u = o) (fun u t => va_P E.1 vwCl (bW E a (u.1) (u.2.1) (u.2.2.1) (u.2.2.2.1) (u.2.2.2.2)) t.heap) (nx_A a 4 sz)) 0 0 (nx_A a 4 sz) := by
  refine nx_enV (fun u => u = o) (fun (u : Int32 × Int32 × (Nat → Int32) × (Nat → Int32) × (Nat → Int32)) => (bW E a (u.1) (u.2.1) (u.2.2.1) (u.2.2.2.1) (u.2.2.2.2))) (by decide) (Nat.le_of_ble_eq_true rfl) ?_
  intro p e s m below meth c Q X kr hsz hP ls hl
  subst hsz
  generalize hargs : (List.toArray [.ref (a 0), .int x1, .int x2] : Array Value) = args at X kr ⊢
  clear hargs
  obtain ⟨⟨hx, hb, hml, hown, hts⟩, hK, hSt, hNz⟩ := id X
  have hS : va_S (nx_A a 4 s.heap.size) s.heap s.heap [] := va_S.rf
  have hl : lv_has ls 6 [(0, .ref (a 0)), (1, .int x1), (2, .int x2)] := hl
  have L53 : ∀ (x1 : Int32) (x2 : Int32) (x3 : Int32) (size : Int32) (on : Int32) (kinds : Nat → Int32) (marks : Nat → Int32) (n : Nat) (x4 : Int32) (nb : Nat → Int32) (z : ((Nat → Int32))), f_X2_lay_bw_l53 x1 x2 x3 n (x4, nb) = some z → ∀ (H : Heap) (locs : List Loc) (ls : Array Slot), va_P E.1 vwCl (bW E a size on kinds marks nb) H → va_S (nx_A a 4 s.heap.size) s.heap H locs → lv_has ls 6 [(0, .ref (a 0)), (1, .int x1), (2, .int x2), (3, .int x3), (4, .int x4)] → ∀ (kR : ∀ (H : Heap) (locs : List Loc) (ls : Array Slot), va_P E.1 vwCl (bW E a size on kinds marks z) H → va_S (nx_A a 4 s.heap.size) s.heap H locs → lv_has ls 6 [(0, .ref (a 0)), (1, .int x1), (2, .int x2), (3, .int x3)] → W p l e (nx_rm 1 23) s m args below meth c H locs 0 0 Q (F0 m 171 ls [])), W p l e (nx_rm 1 23) s m args below meth c H locs 0 0 Q (F0 m 53 ls []) := by
   intro x1 x2 x3 size on kinds marks n
   induction n with
   | zero => intro x4 nb z h; exact nomatch (show none = some z from h)
   | succ n ih =>
    intro x4 nb z h H locs ls hP hS hl kR
    have h : f_X2_lay_bw_b53 x1 x2 x3 (f_X2_lay_bw_l53 x1 x2 x3 n) x4 nb = some z := h
    have J164 : ∀ (x4 : Int32) (s0 : Int32) (s1 : Int32) (nb : Nat → Int32), f_X2_lay_bw_j164 (f_X2_lay_bw_l53 x1 x2 x3 n) x1 x2 x3 x4 s0 s1 nb = some z → ∀ (H : Heap) (locs : List Loc) (ls : Array Slot), va_P E.1 vwCl (bW E a size on kinds marks nb) H → va_S (nx_A a 4 s.heap.size) s.heap H locs → lv_has ls 6 [(0, .ref (a 0)), (1, .int x1), (2, .int x2), (3, .int x3), (4, .int x4)] → W p l e (nx_rm 1 23) s m args below meth c H locs 0 0 Q (F0 m 164 ls [.int s0, .int s1, .ref (a 3)]) := by
      intro x4 s0 s1 nb h H locs ls hP hS hl
      unfold f_X2_lay_bw_j164 at h
      obtain ⟨hv_1, h⟩ := nx_cb h
      refine nx_st X hI bW_ad hP hS 3 rfl hv_1 dX2_lay_164 (fun H locs hP hS => ?_)
      have hP : va_P E.1 vwCl (bW E a size on kinds marks (upd nb s1.toNatClampNeg s0)) H := hP
      refine lv_iinc (v := (x4 + 1)) (lv' := [(4, .int (x4 + 1)), (0, .ref (a 0)), (1, .int x1), (2, .int x2), (3, .int x3)]) hx hb dX2_lay_165 hl (k := 4) rfl rfl (by decide) rfl (fun ls hl => ?_)
      refine lv_goto (tgt := 53) hx hb dX2_lay_168 (by decide) ?_
      exact ih _ _ z h H locs ls hP hS (lv_sub hl [1, 2, 3, 4, 0] rfl) kR
    have J141 : ∀ (x4 : Int32) (x5 : Int32) (s0 : Int32) (s1 : Int32) (nb : Nat → Int32), f_X2_lay_bw_j141 (f_X2_lay_bw_l53 x1 x2 x3 n) x1 x2 x3 x4 x5 s0 s1 nb = some z → ∀ (H : Heap) (locs : List Loc) (ls : Array Slot), va_P E.1 vwCl (bW E a size on kinds marks nb) H → va_S (nx_A a 4 s.heap.size) s.heap H locs → lv_has ls 6 [(0, .ref (a 0)), (1, .int x1), (2, .int x2), (3, .int x3), (4, .int x4), (5, .int x5)] → W p l e (nx_rm 1 23) s m args below meth c H locs 0 0 Q (F0 m 141 ls [.int s0, .int s1, .ref (a 3)]) := by
      intro x4 x5 s0 s1 nb h H locs ls hP hS hl
      unfold f_X2_lay_bw_j141 at h
      obtain ⟨hv_2, h⟩ := nx_cb h
      refine nx_st X hI bW_ad hP hS 3 rfl hv_2 dX2_lay_141 (fun H locs hP hS => ?_)
      have hP : va_P E.1 vwCl (bW E a size on kinds marks (upd nb s1.toNatClampNeg s0)) H := hP
      refine lv_aload_n hx hb dX2_lay_142 rfl (lv_at hl 0 rfl) ?_
      refine nx_gf X hP uw_X2 (ci := 2) rfl 0 rfl 2 (by decide) wf_RX2_18 rfl dX2_lay_143 ?_
      refine lv_iload hx hb dX2_lay_146 (lv_at hl 5 rfl) ?_
      refine lv_iconst (v := 4) hx hb dX2_lay_148 (by decide) ?_
      refine lv_imul hx hb dX2_lay_149 ?_
      refine lv_iconst (v := 3) hx hb dX2_lay_150 (by decide) ?_
      refine lv_iadd hx hb dX2_lay_151 ?_
      refine lv_iload_n hx hb dX2_lay_152 rfl (lv_at hl 3 rfl) ?_
      refine lv_if_le (tgt := 163) hx hb dX2_lay_153 (by decide) (fun hc => ?_) (fun hc => ?_)
      · have h := nx_it h hc
        refine lv_iconst (v := (-1)) hx hb dX2_lay_163 (by decide) ?_
        exact J164 _ _ _ _ h H locs ls hP hS (lv_sub hl [0, 1, 2, 3, 4] rfl)
      · have h := nx_if h hc
        refine lv_iload hx hb dX2_lay_156 (lv_at hl 5 rfl) ?_
        refine lv_iload_n hx hb dX2_lay_158 rfl (lv_at hl 1 rfl) ?_
        refine lv_isub hx hb dX2_lay_159 ?_
        refine lv_goto (tgt := 164) hx hb dX2_lay_160 (by decide) ?_
        exact J164 _ _ _ _ h H locs ls hP hS (lv_sub hl [0, 1, 2, 3, 4] rfl)
    have J117 : ∀ (x4 : Int32) (x5 : Int32) (s0 : Int32) (s1 : Int32) (nb : Nat → Int32), f_X2_lay_bw_j117 (f_X2_lay_bw_l53 x1 x2 x3 n) x1 x2 x3 x4 x5 s0 s1 nb = some z → ∀ (H : Heap) (locs : List Loc) (ls : Array Slot), va_P E.1 vwCl (bW E a size on kinds marks nb) H → va_S (nx_A a 4 s.heap.size) s.heap H locs → lv_has ls 6 [(0, .ref (a 0)), (1, .int x1), (2, .int x2), (3, .int x3), (4, .int x4), (5, .int x5)] → W p l e (nx_rm 1 23) s m args below meth c H locs 0 0 Q (F0 m 117 ls [.int s0, .int s1, .ref (a 3)]) := by
      intro x4 x5 s0 s1 nb h H locs ls hP hS hl
      unfold f_X2_lay_bw_j117 at h
      obtain ⟨hv_3, h⟩ := nx_cb h
      refine nx_st X hI bW_ad hP hS 3 rfl hv_3 dX2_lay_117 (fun H locs hP hS => ?_)
      have hP : va_P E.1 vwCl (bW E a size on kinds marks (upd nb s1.toNatClampNeg s0)) H := hP
      refine lv_aload_n hx hb dX2_lay_118 rfl (lv_at hl 0 rfl) ?_
      refine nx_gf X hP uw_X2 (ci := 2) rfl 0 rfl 2 (by decide) wf_RX2_18 rfl dX2_lay_119 ?_
      refine lv_iload hx hb dX2_lay_122 (lv_at hl 5 rfl) ?_
      refine lv_iconst (v := 4) hx hb dX2_lay_124 (by decide) ?_
      refine lv_imul hx hb dX2_lay_125 ?_
      refine lv_iconst (v := 2) hx hb dX2_lay_126 (by decide) ?_
      refine lv_iadd hx hb dX2_lay_127 ?_
      refine lv_iload hx hb dX2_lay_128 (lv_at hl 4 rfl) ?_
      refine lv_if_le (tgt := 140) hx hb dX2_lay_130 (by decide) (fun hc => ?_) (fun hc => ?_)
      · have h := nx_it h hc
        refine lv_iconst (v := (-1)) hx hb dX2_lay_140 (by decide) ?_
        exact J141 _ _ _ _ _ h H locs ls hP hS (lv_sub hl [0, 1, 2, 3, 4, 5] rfl)
      · have h := nx_if h hc
        refine lv_iload hx hb dX2_lay_133 (lv_at hl 5 rfl) ?_
        refine lv_iconst (v := 1) hx hb dX2_lay_135 (by decide) ?_
        refine lv_isub hx hb dX2_lay_136 ?_
        refine lv_goto (tgt := 141) hx hb dX2_lay_137 (by decide) ?_
        exact J141 _ _ _ _ _ h H locs ls hP hS (lv_sub hl [0, 1, 2, 3, 4, 5] rfl)
    have J91 : ∀ (x4 : Int32) (x5 : Int32) (s0 : Int32) (s1 : Int32) (nb : Nat → Int32), f_X2_lay_bw_j91 (f_X2_lay_bw_l53 x1 x2 x3 n) x1 x2 x3 x4 x5 s0 s1 nb = some z → ∀ (H : Heap) (locs : List Loc) (ls : Array Slot), va_P E.1 vwCl (bW E a size on kinds marks nb) H → va_S (nx_A a 4 s.heap.size) s.heap H locs → lv_has ls 6 [(0, .ref (a 0)), (1, .int x1), (2, .int x2), (3, .int x3), (4, .int x4), (5, .int x5)] → W p l e (nx_rm 1 23) s m args below meth c H locs 0 0 Q (F0 m 91 ls [.int s0, .int s1, .ref (a 3)]) := by
      intro x4 x5 s0 s1 nb h H locs ls hP hS hl
      unfold f_X2_lay_bw_j91 at h
      obtain ⟨hv_4, h⟩ := nx_cb h
      refine nx_st X hI bW_ad hP hS 3 rfl hv_4 dX2_lay_91 (fun H locs hP hS => ?_)
      have hP : va_P E.1 vwCl (bW E a size on kinds marks (upd nb s1.toNatClampNeg s0)) H := hP
      refine lv_aload_n hx hb dX2_lay_92 rfl (lv_at hl 0 rfl) ?_
      refine nx_gf X hP uw_X2 (ci := 2) rfl 0 rfl 2 (by decide) wf_RX2_18 rfl dX2_lay_93 ?_
      refine lv_iload hx hb dX2_lay_96 (lv_at hl 5 rfl) ?_
      refine lv_iconst (v := 4) hx hb dX2_lay_98 (by decide) ?_
      refine lv_imul hx hb dX2_lay_99 ?_
      refine lv_iconst (v := 1) hx hb dX2_lay_100 (by decide) ?_
      refine lv_iadd hx hb dX2_lay_101 ?_
      refine lv_iload_n hx hb dX2_lay_102 rfl (lv_at hl 3 rfl) ?_
      refine lv_iconst (v := 1) hx hb dX2_lay_103 (by decide) ?_
      refine lv_iadd hx hb dX2_lay_104 ?_
      refine lv_iload_n hx hb dX2_lay_105 rfl (lv_at hl 2 rfl) ?_
      refine lv_icmp_ge (tgt := 116) hx hb dX2_lay_106 (by decide) (fun hc => ?_) (fun hc => ?_)
      · have h := nx_it h hc
        refine lv_iconst (v := (-1)) hx hb dX2_lay_116 (by decide) ?_
        exact J117 _ _ _ _ _ h H locs ls hP hS (lv_sub hl [0, 1, 2, 3, 4, 5] rfl)
      · have h := nx_if h hc
        refine lv_iload hx hb dX2_lay_109 (lv_at hl 5 rfl) ?_
        refine lv_iload_n hx hb dX2_lay_111 rfl (lv_at hl 1 rfl) ?_
        refine lv_iadd hx hb dX2_lay_112 ?_
        refine lv_goto (tgt := 117) hx hb dX2_lay_113 (by decide) ?_
        exact J117 _ _ _ _ _ h H locs ls hP hS (lv_sub hl [0, 1, 2, 3, 4, 5] rfl)
    unfold f_X2_lay_bw_b53 at h
    refine lv_iload hx hb dX2_lay_53 (lv_at hl 4 rfl) ?_
    refine lv_iload_n hx hb dX2_lay_55 rfl (lv_at hl 1 rfl) ?_
    refine lv_icmp_ge (tgt := 171) hx hb dX2_lay_56 (by decide) (fun hc => ?_) (fun hc => ?_)
    · have h := nx_it h hc
      obtain rfl := Option.some.inj h
      exact kR H locs ls hP hS (lv_sub hl [0, 1, 2, 3] rfl)
    · have h := nx_if h hc
      refine lv_iload_n hx hb dX2_lay_59 rfl (lv_at hl 3 rfl) ?_
      refine lv_iload_n hx hb dX2_lay_60 rfl (lv_at hl 1 rfl) ?_
      refine lv_imul hx hb dX2_lay_61 ?_
      refine lv_iload hx hb dX2_lay_62 (lv_at hl 4 rfl) ?_
      refine lv_iadd hx hb dX2_lay_64 ?_
      refine lv_istore (lv' := [(5, .int ((x3 * x1) + x4)), (0, .ref (a 0)), (1, .int x1), (2, .int x2), (3, .int x3), (4, .int x4)]) hx hb dX2_lay_65 hl (by decide) rfl (fun ls hl => ?_)
      refine lv_aload_n hx hb dX2_lay_67 rfl (lv_at hl 1 rfl) ?_
      refine nx_gf X hP uw_X2 (ci := 2) rfl 0 rfl 2 (by decide) wf_RX2_18 rfl dX2_lay_68 ?_
      refine lv_iload hx hb dX2_lay_71 (lv_at hl 0 rfl) ?_
      refine lv_iconst (v := 4) hx hb dX2_lay_73 (by decide) ?_
      refine lv_imul hx hb dX2_lay_74 ?_
      refine lv_iload hx hb dX2_lay_75 (lv_at hl 5 rfl) ?_
      refine lv_iconst (v := 1) hx hb dX2_lay_77 (by decide) ?_
      refine lv_iadd hx hb dX2_lay_78 ?_
      refine lv_iload_n hx hb dX2_lay_79 rfl (lv_at hl 2 rfl) ?_
      refine lv_icmp_ge (tgt := 90) hx hb dX2_lay_80 (by decide) (fun hc => ?_) (fun hc => ?_)
      · have h := nx_it h hc
        refine lv_iconst (v := (-1)) hx hb dX2_lay_90 (by decide) ?_
        exact J91 _ _ _ _ _ h H locs ls hP hS (lv_sub hl [1, 2, 3, 4, 5, 0] rfl)
      · have h := nx_if h hc
        refine lv_iload hx hb dX2_lay_83 (lv_at hl 0 rfl) ?_
        refine lv_iconst (v := 1) hx hb dX2_lay_85 (by decide) ?_
        refine lv_iadd hx hb dX2_lay_86 ?_
        refine lv_goto (tgt := 91) hx hb dX2_lay_87 (by decide) ?_
        exact J91 _ _ _ _ _ h H locs ls hP hS (lv_sub hl [1, 2, 3, 4, 5, 0] rfl)
  have L45 : ∀ (x1 : Int32) (x2 : Int32) (size : Int32) (on : Int32) (kinds : Nat → Int32) (marks : Nat → Int32) (n : Nat) (x3 : Int32) (nb : Nat → Int32) (z : ((Nat → Int32))), f_X2_lay_bw_l45 N x1 x2 n (x3, nb) = some z → ∀ (H : Heap) (locs : List Loc) (ls : Array Slot), va_P E.1 vwCl (bW E a size on kinds marks nb) H → va_S (nx_A a 4 s.heap.size) s.heap H locs → lv_has ls 6 [(0, .ref (a 0)), (1, .int x1), (2, .int x2), (3, .int x3)] → ∀ (kR : ∀ (H : Heap) (locs : List Loc) (ls : Array Slot), va_P E.1 vwCl (bW E a size on kinds marks z) H → va_S (nx_A a 4 s.heap.size) s.heap H locs → lv_has ls 6 [(0, .ref (a 0))] → W p l e (nx_rm 1 23) s m args below meth c H locs 0 0 Q (F0 m 177 ls [])), W p l e (nx_rm 1 23) s m args below meth c H locs 0 0 Q (F0 m 45 ls []) := by
   intro x1 x2 size on kinds marks n
   induction n with
   | zero => intro x3 nb z h; exact nomatch (show none = some z from h)
   | succ n ih =>
    intro x3 nb z h H locs ls hP hS hl kR
    have h : f_X2_lay_bw_b45 N x1 x2 (f_X2_lay_bw_l45 N x1 x2 n) x3 nb = some z := h
    unfold f_X2_lay_bw_b45 at h
    refine lv_iload_n hx hb dX2_lay_45 rfl (lv_at hl 3 rfl) ?_
    refine lv_iload_n hx hb dX2_lay_46 rfl (lv_at hl 2 rfl) ?_
    refine lv_icmp_ge (tgt := 177) hx hb dX2_lay_47 (by decide) (fun hc => ?_) (fun hc => ?_)
    · have h := nx_it h hc
      obtain rfl := Option.some.inj h
      exact kR H locs ls hP hS (lv_sub hl [0] rfl)
    · have h := nx_if h hc
      refine lv_iconst (v := 0) hx hb dX2_lay_50 (by decide) ?_
      refine lv_istore (lv' := [(4, .int 0), (0, .ref (a 0)), (1, .int x1), (2, .int x2), (3, .int x3)]) hx hb dX2_lay_51 hl (by decide) rfl (fun ls hl => ?_)
      obtain ⟨z_5, hz_6, h⟩ := nx_bd h
      refine L53 _ _ _ _ _ _ _ N _ _ _ hz_6 H locs ls hP hS (lv_sub hl [1, 2, 3, 4, 0] rfl) (fun H locs ls hP hS hl => ?_)
      refine lv_iinc (v := (x3 + 1)) (lv' := [(3, .int (x3 + 1)), (0, .ref (a 0)), (1, .int x1), (2, .int x2)]) hx hb dX2_lay_171 hl (k := 3) rfl rfl (by decide) rfl (fun ls hl => ?_)
      refine lv_goto (tgt := 45) hx hb dX2_lay_174 (by decide) ?_
      exact ih _ _ z h H locs ls hP hS (lv_sub hl [1, 2, 3, 0] rfl) kR
  unfold f_X2_lay_bw at h
  suffices hw : ∀ (H : Heap) (locs : List Loc), va_P E.1 vwCl (bW E a size on kinds marks nb) H → va_S (nx_A a 4 s.heap.size) s.heap H locs → W p l e (nx_rm 1 23) s m args below meth c H locs 0 0 Q (F0 m 0 ls []) from hw _ _ hP va_S.rf
  intro H locs hP hS
  refine lv_iload_n hx hb dX2_lay_0 rfl (lv_at hl 1 rfl) ?_
  obtain ⟨r_8, hc_7, h⟩ := nx_bd h
  refine nx_ki (nx_runN (As := [.int x1]) (rest := []) X hS hP (c_X10_isSide l E H.size _ x1 _ hc_7) nx_FA qN_RX2_25 ⟨rfl, rfl⟩ ⟨Nat.le_of_ble_eq_true rfl, Nat.le_of_ble_eq_true rfl⟩ ⟨Nat.zero_le _, Nat.zero_le _⟩ rfl rfl hl.1 (Nat.le_of_ble_eq_true rfl) dX2_lay_1) hS nx_FA (fun H locs hP hS => ?_)
  refine lv_if_eq (tgt := 14) hx hb dX2_lay_4 (by decide) (fun hc => ?_) (fun hc => ?_)
  · have h := nx_it h hc
    exact kr 14 ls (size, on, kinds, marks, nb) H locs dX2_lay_14 (Option.some.inj h) hP hS
  · have h := nx_if h hc
    refine lv_iload_n hx hb dX2_lay_7 rfl (lv_at hl 2 rfl) ?_
    obtain ⟨r_10, hc_9, h⟩ := nx_bd h
    refine nx_ki (nx_runN (As := [.int x2]) (rest := []) X hS hP (c_X10_isSide l E H.size _ x2 _ hc_9) nx_FA qN_RX2_25 ⟨rfl, rfl⟩ ⟨Nat.le_of_ble_eq_true rfl, Nat.le_of_ble_eq_true rfl⟩ ⟨Nat.zero_le _, Nat.zero_le _⟩ rfl rfl hl.1 (Nat.le_of_ble_eq_true rfl) dX2_lay_8) hS nx_FA (fun H locs hP hS => ?_)
    refine lv_if_ne (tgt := 15) hx hb dX2_lay_11 (by decide) (fun hc => ?_) (fun hc => ?_)
    · have h := nx_if h hc
      refine lv_aload_n hx hb dX2_lay_15 rfl (lv_at hl 0 rfl) ?_
      refine lv_iload_n hx hb dX2_lay_16 rfl (lv_at hl 1 rfl) ?_
      refine lv_iload_n hx hb dX2_lay_17 rfl (lv_at hl 2 rfl) ?_
      refine lv_imul hx hb dX2_lay_18 ?_
      refine nx_pf (ty := .int) (v := .int (x1 * x2)) X hI bW_ad hP hS uw_X2 tyX2 tyX2_ok nmX2 (ci := 2) rfl 0 rfl 3 (by decide) wf_RX2_29 rfl (by decide +kernel) rfl rfl (Nat.le_of_ble_eq_true rfl) dX2_lay_19 (fun H locs hP hS => ?_)
      have hP : va_P E.1 vwCl (bW E a (x1 * x2) on kinds marks nb) H := hP
      refine lv_aload_n hx hb dX2_lay_22 rfl (lv_at hl 0 rfl) ?_
      refine lv_iconst (v := 0) hx hb dX2_lay_23 (by decide) ?_
      refine nx_pf (ty := .int) (v := .int 0) X hI bW_ad hP hS uw_X2 tyX2 tyX2_ok nmX2 (ci := 2) rfl 0 rfl 4 (by decide) wf_RX2_33 rfl (by decide +kernel) rfl rfl (Nat.le_of_ble_eq_true rfl) dX2_lay_24 (fun H locs hP hS => ?_)
      have hP : va_P E.1 vwCl (bW E a (x1 * x2) 0 kinds marks nb) H := hP
      refine lv_aload_n hx hb dX2_lay_27 rfl (lv_at hl 0 rfl) ?_
      refine nx_gf X hP uw_X2 (ci := 2) rfl 0 rfl 0 (by decide) wf_RX2_9 rfl dX2_lay_28 ?_
      refine lv_iconst (v := 0) hx hb dX2_lay_31 (by decide) ?_
      obtain ⟨k_12, hc_11, h⟩ := nx_bd h
      refine nx_kv (nx_runS (As := [.ref (a 1), .int 0]) (rest := []) X hS hP (c_J7_fill_53178_r1_bw l N E H.size a (x1 * x2) 0 kinds marks nb 0 hI _ hc_11) (nx_Am hS.1) qS_RX2_36 ⟨rfl, rfl⟩ ⟨Nat.le_of_ble_eq_true rfl, Nat.le_of_ble_eq_true rfl⟩ ⟨Nat.zero_le _, Nat.zero_le _⟩ rfl rfl hl.1 (Nat.le_of_ble_eq_true rfl) dX2_lay_32) hS (nx_Am hS.1) (fun H locs hP hS => ?_)
      have hP : va_P E.1 vwCl (bW E a (x1 * x2) 0 k_12 marks nb) H := hP
      refine lv_aload_n hx hb dX2_lay_35 rfl (lv_at hl 0 rfl) ?_
      refine nx_gf X hP uw_X2 (ci := 2) rfl 0 rfl 1 (by decide) wf_RX2_15 rfl dX2_lay_36 ?_
      refine lv_iconst (v := 0) hx hb dX2_lay_39 (by decide) ?_
      obtain ⟨k_14, hc_13, h⟩ := nx_bd h
      refine nx_kv (nx_runS (As := [.ref (a 2), .int 0]) (rest := []) X hS hP (c_J7_fill_53178_r2_bw l N E H.size a (x1 * x2) 0 k_12 marks nb 0 hI _ hc_13) (nx_Am hS.1) qS_RX2_36 ⟨rfl, rfl⟩ ⟨Nat.le_of_ble_eq_true rfl, Nat.le_of_ble_eq_true rfl⟩ ⟨Nat.zero_le _, Nat.zero_le _⟩ rfl rfl hl.1 (Nat.le_of_ble_eq_true rfl) dX2_lay_40) hS (nx_Am hS.1) (fun H locs hP hS => ?_)
      have hP : va_P E.1 vwCl (bW E a (x1 * x2) 0 k_12 k_14 nb) H := hP
      refine lv_iconst (v := 0) hx hb dX2_lay_43 (by decide) ?_
      refine lv_istore_n (lv' := [(3, .int 0), (0, .ref (a 0)), (1, .int x1), (2, .int x2)]) hx hb dX2_lay_44 rfl hl (by decide) rfl (fun ls hl => ?_)
      obtain ⟨z_15, hz_16, h⟩ := nx_bd h
      refine L45 _ _ _ _ _ _ N _ _ _ hz_16 H locs ls hP hS (lv_sub hl [1, 2, 3, 0] rfl) (fun H locs ls hP hS hl => ?_)
      exact kr 177 ls ((x1 * x2), 0, k_12, k_14, z_15) H locs dX2_lay_177 (Option.some.inj h) hP hS
    · have h := nx_it h hc
      exact kr 14 ls (size, on, kinds, marks, nb) H locs dX2_lay_14 (Option.some.inj h) hP hS
def f_X11_init_tail_b156 (rec : (Int32 × (Nat → Int32) × (Nat → Int32)) → Option ((Nat → Int32) × (Nat → Int32))) (x1 : Int32) (top : Nat → Int32) (east : Nat → Int32) : Option ((Nat → Int32) × (Nat → Int32)) :=
  if 24 ≤ x1 then (some (top, east)) else ((nx_ck 24 x1).bind fun _ => (nx_ck 24 x1).bind fun _ => rec ((x1 + 1), (upd top x1.toNatClampNeg ((x1 / 4) + 1)), (upd east x1.toNatClampNeg (-9))))
def f_X11_init_tail_l156 : Nat → (Int32 × (Nat → Int32) × (Nat → Int32)) → Option ((Nat → Int32) × (Nat → Int32)) := nx_lp (fun rec z => f_X11_init_tail_b156 rec z.1 z.2.1 z.2.2)
def f_X11_init_tail_b199 (x1 : Int32) (rec : (Int32 × Int32 × (Nat → Int32)) → Option ((Nat → Int32))) (x2 : Int32) (x3 : Int32) (east : Nat → Int32) : Option ((Nat → Int32)) :=
  if 7 ≤ x3 then (some east) else (if x3 = x1 then (rec (x2, (x3 + 1), east)) else (if x3 = (7 - x1) then (rec (x2, (x3 + 1), east)) else ((nx_ck 24 (((4 * x1) - 4) + x2)).bind fun _ => rec ((x2 + 1), (x3 + 1), (upd east (((4 * x1) - 4) + x2).toNatClampNeg x3)))))
def f_X11_init_tail_l199 (x1 : Int32) : Nat → (Int32 × Int32 × (Nat → Int32)) → Option ((Nat → Int32)) := nx_lp (fun rec z => f_X11_init_tail_b199 x1 rec z.1 z.2.1 z.2.2)
def f_X11_init_tail_b189 (N : Nat) (rec : (Int32 × (Nat → Int32)) → Option ((Nat → Int32))) (x1 : Int32) (east : Nat → Int32) : Option ((Nat → Int32)) :=
  if 7 ≤ x1 then (some east) else ((f_X11_init_tail_l199 x1 N (0, 1, east)).bind fun z_4 => rec ((x1 + 1), z_4))
def f_X11_init_tail_l189 (N : Nat) : Nat → (Int32 × (Nat → Int32)) → Option ((Nat → Int32)) := nx_lp (fun rec z => f_X11_init_tail_b189 N rec z.1 z.2)
def f_X11_init_tail (N : Nat)  (top : Nat → Int32) (east : Nat → Int32) (south : Nat → Int32) (rolled : Nat → Int32) : Option ((Nat → Int32) × (Nat → Int32) × (Nat → Int32) × (Nat → Int32)) :=
  (f_X11_init_tail_l156 N (0, top, east)).bind fun z_6 => (f_X11_init_tail_l189 N N (1, z_6.2)).bind fun z_8 => (f_X11_laySouths N z_6.1 z_8 south rolled).bind fun t_13 => some (z_6.1, z_8, t_13.1, t_13.2)
set_option maxHeartbeats 4000000 in
set_option maxRecDepth 100000 in
theorem t_X11_init_tail {p : Program} {l : Launch} {e : Env} {s : State} {m : MethodId} {args : Array Value} {below : List Frame} {meth : Method} {c : Code} {Q : State → Prop} (N : Nat) (E : nx_E) (a : Nat → Nat) (wide : Int32) (tall : Int32) (groups : Int32) (tours : Int32) (tourLength : Int32) (rowMany : Int32) (cameBy : Int32) (top : Nat → Int32) (east : Nat → Int32) (south : Nat → Int32) (rolled : Nat → Int32) (off : Nat → Int32) (kind : Nat → Int32) (mark : Nat → Int32) (rolls : Nat → Int32) (many : Nat → Int64) (onward : Nat → Int32) (at_ : Nat → Int32) (goes : Nat → Int32) (firstTour : Nat → Int32) (rowWay : Nat → Int32) (rowSeen : Nat → Int32) (prints : Nat → Int32) (homeward : Nat → Int32) (hI : nx_inj a 18) (o : (Nat → Int32) × (Nat → Int32) × (Nat → Int32) × (Nat → Int32)) (h : f_X11_init_tail N top east south rolled = some o) (X : nx_C E (nx_A a 18 s.heap.size) p s m c cX11_init 4 RX11 args) (kr : ∀ (pc : Nat) (ls : Array Slot) (u : (Nat → Int32) × (Nat → Int32) × (Nat → Int32) × (Nat → Int32)) (H : Heap) (locs : List Loc), decode cX11_init pc = .ok (.return_, 1) → u = o → va_P E.1 vwCl (mW E a wide tall groups tours tourLength rowMany cameBy (u.1) (u.2.1) (u.2.2.1) (u.2.2.2) off kind mark rolls many onward at_ goes firstTour rowWay rowSeen prints homeward) H → va_S (nx_A a 18 s.heap.size) s.heap H locs → W p l e (nx_rmc 2 49 17 2739) s m args below meth c H locs 17 2739 Q (F0 m pc ls [])) (H : Heap) (locs : List Loc) (ls : Array Slot) (hP : va_P E.1 vwCl (mW E a wide tall groups tours tourLength rowMany cameBy top east south rolled off kind mark rolls many onward at_ goes firstTour rowWay rowSeen prints homeward) H) (hS : va_S (nx_A a 18 s.heap.size) s.heap H locs) (hl : lv_has ls 4 [(0, .ref (a 0))]) : W p l e (nx_rmc 2 49 17 2739) s m args below meth c H locs 17 2739 Q (F0 m 154 ls []) := by
  obtain ⟨⟨hx, hb, hml, hown, hts⟩, hK, hSt, hNz⟩ := id X
  have L156 : ∀ (south : Nat → Int32) (rolled : Nat → Int32) (n : Nat) (x1 : Int32) (top : Nat → Int32) (east : Nat → Int32) (z : ((Nat → Int32) × (Nat → Int32))), f_X11_init_tail_l156 n (x1, top, east) = some z → ∀ (H : Heap) (locs : List Loc) (ls : Array Slot), va_P E.1 vwCl (mW E a wide tall groups tours tourLength rowMany cameBy top east south rolled off kind mark rolls many onward at_ goes firstTour rowWay rowSeen prints homeward) H → va_S (nx_A a 18 s.heap.size) s.heap H locs → lv_has ls 4 [(0, .ref (a 0)), (1, .int x1)] → ∀ (kR : ∀ (H : Heap) (locs : List Loc) (ls : Array Slot), va_P E.1 vwCl (mW E a wide tall groups tours tourLength rowMany cameBy (z.1) (z.2) south rolled off kind mark rolls many onward at_ goes firstTour rowWay rowSeen prints homeward) H → va_S (nx_A a 18 s.heap.size) s.heap H locs → lv_has ls 4 [(0, .ref (a 0))] → W p l e (nx_rmc 2 49 17 2739) s m args below meth c H locs 17 2739 Q (F0 m 187 ls [])), W p l e (nx_rmc 2 49 17 2739) s m args below meth c H locs 17 2739 Q (F0 m 156 ls []) := by
   intro south rolled n
   induction n with
   | zero => intro x1 top east z h; exact nomatch (show none = some z from h)
   | succ n ih =>
    intro x1 top east z h H locs ls hP hS hl kR
    have h : f_X11_init_tail_b156 (f_X11_init_tail_l156 n) x1 top east = some z := h
    unfold f_X11_init_tail_b156 at h
    refine lv_iload_n hx hb dX11_init_156 rfl (lv_at hl 1 rfl) ?_
    refine lv_bipush (v := 24) hx hb dX11_init_157 (by decide) ?_
    refine lv_icmp_ge (tgt := 187) hx hb dX11_init_159 (by decide) (fun hc => ?_) (fun hc => ?_)
    · have h := nx_it h hc
      obtain rfl := Option.some.inj h
      exact kR H locs ls hP hS (lv_sub hl [0] rfl)
    · have h := nx_if h hc
      refine lv_aload_n hx hb dX11_init_162 rfl (lv_at hl 0 rfl) ?_
      refine nx_gf X hP uw_X11 (ci := 10) rfl 0 rfl 0 (by decide) wf_RX11_7 rfl dX11_init_163 ?_
      refine lv_iload_n hx hb dX11_init_166 rfl (lv_at hl 1 rfl) ?_
      refine lv_iload_n hx hb dX11_init_167 rfl (lv_at hl 1 rfl) ?_
      refine lv_iconst (v := 4) hx hb dX11_init_168 (by decide) ?_
      refine lv_idiv hx hb dX11_init_169 (by decide) ?_
      refine lv_iconst (v := 1) hx hb dX11_init_170 (by decide) ?_
      refine lv_iadd hx hb dX11_init_171 ?_
      obtain ⟨hv_1, h⟩ := nx_cb h
      refine nx_st X hI mW_ad hP hS 1 rfl hv_1 dX11_init_172 (fun H locs hP hS => ?_)
      have hP : va_P E.1 vwCl (mW E a wide tall groups tours tourLength rowMany cameBy (upd top x1.toNatClampNeg ((x1 / 4) + 1)) east south rolled off kind mark rolls many onward at_ goes firstTour rowWay rowSeen prints homeward) H := hP
      refine lv_aload_n hx hb dX11_init_173 rfl (lv_at hl 0 rfl) ?_
      refine nx_gf X hP uw_X11 (ci := 10) rfl 0 rfl 1 (by decide) wf_RX11_13 rfl dX11_init_174 ?_
      refine lv_iload_n hx hb dX11_init_177 rfl (lv_at hl 1 rfl) ?_
      refine lv_bipush (v := (-9)) hx hb dX11_init_178 (by decide) ?_
      obtain ⟨hv_2, h⟩ := nx_cb h
      refine nx_st X hI mW_ad hP hS 2 rfl hv_2 dX11_init_180 (fun H locs hP hS => ?_)
      have hP : va_P E.1 vwCl (mW E a wide tall groups tours tourLength rowMany cameBy (upd top x1.toNatClampNeg ((x1 / 4) + 1)) (upd east x1.toNatClampNeg (-9)) south rolled off kind mark rolls many onward at_ goes firstTour rowWay rowSeen prints homeward) H := hP
      refine lv_iinc (v := (x1 + 1)) (lv' := [(1, .int (x1 + 1)), (0, .ref (a 0))]) hx hb dX11_init_181 hl (k := 1) rfl rfl (by decide) rfl (fun ls hl => ?_)
      refine lv_goto (tgt := 156) hx hb dX11_init_184 (by decide) ?_
      exact ih _ _ _ z h H locs ls hP hS (lv_sub hl [1, 0] rfl) kR
  have L199 : ∀ (x1 : Int32) (top : Nat → Int32) (south : Nat → Int32) (rolled : Nat → Int32) (n : Nat) (x2 : Int32) (x3 : Int32) (east : Nat → Int32) (z : ((Nat → Int32))), f_X11_init_tail_l199 x1 n (x2, x3, east) = some z → ∀ (H : Heap) (locs : List Loc) (ls : Array Slot), va_P E.1 vwCl (mW E a wide tall groups tours tourLength rowMany cameBy top east south rolled off kind mark rolls many onward at_ goes firstTour rowWay rowSeen prints homeward) H → va_S (nx_A a 18 s.heap.size) s.heap H locs → lv_has ls 4 [(0, .ref (a 0)), (1, .int x1), (2, .int x2), (3, .int x3)] → ∀ (kR : ∀ (H : Heap) (locs : List Loc) (ls : Array Slot), va_P E.1 vwCl (mW E a wide tall groups tours tourLength rowMany cameBy top z south rolled off kind mark rolls many onward at_ goes firstTour rowWay rowSeen prints homeward) H → va_S (nx_A a 18 s.heap.size) s.heap H locs → lv_has ls 4 [(0, .ref (a 0)), (1, .int x1)] → W p l e (nx_rmc 2 49 17 2739) s m args below meth c H locs 17 2739 Q (F0 m 240 ls [])), W p l e (nx_rmc 2 49 17 2739) s m args below meth c H locs 17 2739 Q (F0 m 199 ls []) := by
   intro x1 top south rolled n
   induction n with
   | zero => intro x2 x3 east z h; exact nomatch (show none = some z from h)
   | succ n ih =>
    intro x2 x3 east z h H locs ls hP hS hl kR
    have h : f_X11_init_tail_b199 x1 (f_X11_init_tail_l199 x1 n) x2 x3 east = some z := h
    unfold f_X11_init_tail_b199 at h
    refine lv_iload_n hx hb dX11_init_199 rfl (lv_at hl 3 rfl) ?_
    refine lv_bipush (v := 7) hx hb dX11_init_200 (by decide) ?_
    refine lv_icmp_ge (tgt := 240) hx hb dX11_init_202 (by decide) (fun hc => ?_) (fun hc => ?_)
    · have h := nx_it h hc
      obtain rfl := Option.some.inj h
      exact kR H locs ls hP hS (lv_sub hl [0, 1] rfl)
    · have h := nx_if h hc
      refine lv_iload_n hx hb dX11_init_205 rfl (lv_at hl 3 rfl) ?_
      refine lv_iload_n hx hb dX11_init_206 rfl (lv_at hl 1 rfl) ?_
      refine lv_icmp_eq (tgt := 234) hx hb dX11_init_207 (by decide) (fun hc => ?_) (fun hc => ?_)
      · have h := nx_it h hc
        refine lv_iinc (v := (x3 + 1)) (lv' := [(3, .int (x3 + 1)), (0, .ref (a 0)), (1, .int x1), (2, .int x2)]) hx hb dX11_init_234 hl (k := 3) rfl rfl (by decide) rfl (fun ls hl => ?_)
        refine lv_goto (tgt := 199) hx hb dX11_init_237 (by decide) ?_
        exact ih _ _ _ z h H locs ls hP hS (lv_sub hl [1, 2, 3, 0] rfl) kR
      · have h := nx_if h hc
        refine lv_iload_n hx hb dX11_init_210 rfl (lv_at hl 3 rfl) ?_
        refine lv_bipush (v := 7) hx hb dX11_init_211 (by decide) ?_
        refine lv_iload_n hx hb dX11_init_213 rfl (lv_at hl 1 rfl) ?_
        refine lv_isub hx hb dX11_init_214 ?_
        refine lv_icmp_eq (tgt := 234) hx hb dX11_init_215 (by decide) (fun hc => ?_) (fun hc => ?_)
        · have h := nx_it h hc
          refine lv_iinc (v := (x3 + 1)) (lv' := [(3, .int (x3 + 1)), (0, .ref (a 0)), (1, .int x1), (2, .int x2)]) hx hb dX11_init_234 hl (k := 3) rfl rfl (by decide) rfl (fun ls hl => ?_)
          refine lv_goto (tgt := 199) hx hb dX11_init_237 (by decide) ?_
          exact ih _ _ _ z h H locs ls hP hS (lv_sub hl [1, 2, 3, 0] rfl) kR
        · have h := nx_if h hc
          refine lv_aload_n hx hb dX11_init_218 rfl (lv_at hl 0 rfl) ?_
          refine nx_gf X hP uw_X11 (ci := 10) rfl 0 rfl 1 (by decide) wf_RX11_13 rfl dX11_init_219 ?_
          refine lv_iconst (v := 4) hx hb dX11_init_222 (by decide) ?_
          refine lv_iload_n hx hb dX11_init_223 rfl (lv_at hl 1 rfl) ?_
          refine lv_imul hx hb dX11_init_224 ?_
          refine lv_iconst (v := 4) hx hb dX11_init_225 (by decide) ?_
          refine lv_isub hx hb dX11_init_226 ?_
          refine lv_iload_n hx hb dX11_init_227 rfl (lv_at hl 2 rfl) ?_
          refine lv_iadd hx hb dX11_init_228 ?_
          refine lv_iload_n hx hb dX11_init_229 rfl (lv_at hl 3 rfl) ?_
          obtain ⟨hv_3, h⟩ := nx_cb h
          refine nx_st X hI mW_ad hP hS 2 rfl hv_3 dX11_init_230 (fun H locs hP hS => ?_)
          have hP : va_P E.1 vwCl (mW E a wide tall groups tours tourLength rowMany cameBy top (upd east (((4 * x1) - 4) + x2).toNatClampNeg x3) south rolled off kind mark rolls many onward at_ goes firstTour rowWay rowSeen prints homeward) H := hP
          refine lv_iinc (v := (x2 + 1)) (lv' := [(2, .int (x2 + 1)), (0, .ref (a 0)), (1, .int x1), (3, .int x3)]) hx hb dX11_init_231 hl (k := 2) rfl rfl (by decide) rfl (fun ls hl => ?_)
          refine lv_iinc (v := (x3 + 1)) (lv' := [(3, .int (x3 + 1)), (2, .int (x2 + 1)), (0, .ref (a 0)), (1, .int x1)]) hx hb dX11_init_234 hl (k := 3) rfl rfl (by decide) rfl (fun ls hl => ?_)
          refine lv_goto (tgt := 199) hx hb dX11_init_237 (by decide) ?_
          exact ih _ _ _ z h H locs ls hP hS (lv_sub hl [2, 3, 1, 0] rfl) kR
  have L189 : ∀ (top : Nat → Int32) (south : Nat → Int32) (rolled : Nat → Int32) (n : Nat) (x1 : Int32) (east : Nat → Int32) (z : ((Nat → Int32))), f_X11_init_tail_l189 N n (x1, east) = some z → ∀ (H : Heap) (locs : List Loc) (ls : Array Slot), va_P E.1 vwCl (mW E a wide tall groups tours tourLength rowMany cameBy top east south rolled off kind mark rolls many onward at_ goes firstTour rowWay rowSeen prints homeward) H → va_S (nx_A a 18 s.heap.size) s.heap H locs → lv_has ls 4 [(0, .ref (a 0)), (1, .int x1)] → ∀ (kR : ∀ (H : Heap) (locs : List Loc) (ls : Array Slot), va_P E.1 vwCl (mW E a wide tall groups tours tourLength rowMany cameBy top z south rolled off kind mark rolls many onward at_ goes firstTour rowWay rowSeen prints homeward) H → va_S (nx_A a 18 s.heap.size) s.heap H locs → lv_has ls 4 [(0, .ref (a 0))] → W p l e (nx_rmc 2 49 17 2739) s m args below meth c H locs 17 2739 Q (F0 m 246 ls [])), W p l e (nx_rmc 2 49 17 2739) s m args below meth c H locs 17 2739 Q (F0 m 189 ls []) := by
   intro top south rolled n
   induction n with
   | zero => intro x1 east z h; exact nomatch (show none = some z from h)
   | succ n ih =>
    intro x1 east z h H locs ls hP hS hl kR
    have h : f_X11_init_tail_b189 N (f_X11_init_tail_l189 N n) x1 east = some z := h
    unfold f_X11_init_tail_b189 at h
    refine lv_iload_n hx hb dX11_init_189 rfl (lv_at hl 1 rfl) ?_
    refine lv_bipush (v := 7) hx hb dX11_init_190 (by decide) ?_
    refine lv_icmp_ge (tgt := 246) hx hb dX11_init_192 (by decide) (fun hc => ?_) (fun hc => ?_)
    · have h := nx_it h hc
      obtain rfl := Option.some.inj h
      exact kR H locs ls hP hS (lv_sub hl [0] rfl)
    · have h := nx_if h hc
      refine lv_iconst (v := 0) hx hb dX11_init_195 (by decide) ?_
      refine lv_istore_n (lv' := [(2, .int 0), (0, .ref (a 0)), (1, .int x1)]) hx hb dX11_init_196 rfl hl (by decide) rfl (fun ls hl => ?_)
      refine lv_iconst (v := 1) hx hb dX11_init_197 (by decide) ?_
      refine lv_istore_n (lv' := [(3, .int 1), (2, .int 0), (0, .ref (a 0)), (1, .int x1)]) hx hb dX11_init_198 rfl hl (by decide) rfl (fun ls hl => ?_)
      obtain ⟨z_4, hz_5, h⟩ := nx_bd h
      refine L199 _ _ _ _ N _ _ _ _ hz_5 H locs ls hP hS (lv_sub hl [2, 3, 1, 0] rfl) (fun H locs ls hP hS hl => ?_)
      refine lv_iinc (v := (x1 + 1)) (lv' := [(1, .int (x1 + 1)), (0, .ref (a 0))]) hx hb dX11_init_240 hl (k := 1) rfl rfl (by decide) rfl (fun ls hl => ?_)
      refine lv_goto (tgt := 189) hx hb dX11_init_243 (by decide) ?_
      exact ih _ _ z h H locs ls hP hS (lv_sub hl [1, 0] rfl) kR
  unfold f_X11_init_tail at h
  refine lv_iconst (v := 0) hx hb dX11_init_154 (by decide) ?_
  refine lv_istore_n (lv' := [(1, .int 0), (0, .ref (a 0))]) hx hb dX11_init_155 rfl hl (by decide) rfl (fun ls hl => ?_)
  obtain ⟨z_6, hz_7, h⟩ := nx_bd h
  refine L156 _ _ N _ _ _ _ hz_7 H locs ls hP hS (lv_sub hl [1, 0] rfl) (fun H locs ls hP hS hl => ?_)
  refine lv_iconst (v := 1) hx hb dX11_init_187 (by decide) ?_
  refine lv_istore_n (lv' := [(1, .int 1), (0, .ref (a 0))]) hx hb dX11_init_188 rfl hl (by decide) rfl (fun ls hl => ?_)
  obtain ⟨z_8, hz_9, h⟩ := nx_bd h
  refine L189 _ _ _ N _ _ _ hz_9 H locs ls hP hS (lv_sub hl [1, 0] rfl) (fun H locs ls hP hS hl => ?_)
  refine lv_aload_n hx hb dX11_init_246 rfl (lv_at hl 0 rfl) ?_
  obtain ⟨⟨k_11, k_12⟩, hc_10, h⟩ := nx_bd h
  refine nx_kv (nx_runV (As := []) (rest := []) X hS hP (c_X11_laySouths l N E H.size a wide tall groups tours tourLength rowMany cameBy z_6.1 z_8 south rolled off kind mark rolls many onward at_ goes firstTour rowWay rowSeen prints homeward hI _ hc_10) (nx_Am hS.1) qV_RX11_69 ⟨rfl, rfl⟩ ⟨Nat.le_of_ble_eq_true rfl, Nat.le_of_ble_eq_true rfl⟩ ⟨Nat.le_of_ble_eq_true rfl, Nat.le_of_ble_eq_true rfl⟩ 0 rfl rfl rfl rfl hl.1 (Nat.le_of_ble_eq_true rfl) dX11_init_247) hS (nx_Am hS.1) (fun H locs hP hS => ?_)
  have hP : va_P E.1 vwCl (mW E a wide tall groups tours tourLength rowMany cameBy (z_6.1) z_8 k_11 k_12 off kind mark rolls many onward at_ goes firstTour rowWay rowSeen prints homeward) H := hP
  exact kr 250 ls (z_6.1, z_8, k_11, k_12) H locs dX11_init_250 (Option.some.inj h) hP hS
