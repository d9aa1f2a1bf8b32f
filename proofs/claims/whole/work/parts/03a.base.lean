/-- the words that a method hands on -/
def nx_T : List Cond := lw_tbl.filter goodWord
theorem nx_in {w : Cond} (h : w ∈ lw_tbl) (hg : goodWord w = true) : w ∈ nx_T := List.mem_filter.mpr ⟨h, hg⟩
theorem nx_t1 {w : Cond} (i : Nat) (h : tables_1[i]? = some w) (hg : goodWord w = true) : w ∈ nx_T := nx_in (List.mem_append_right _ (List.mem_of_getElem? h)) hg
theorem nx_t2 {w : Cond} (i : Nat) (h : (k2_sels lw_privs)[i]? = some w) (hg : goodWord w = true) : w ∈ nx_T := nx_in (List.mem_append_left _ (List.mem_of_getElem? h)) hg
theorem nx_good {ws : List Cond} (h : ∀ w ∈ ws, w ∈ nx_T) : GoodIn nx_T ws := fun w hw => ⟨h w hw, good_of_word (List.mem_filter.mp (h w hw)).2⟩
theorem goodIn_q {big : List Cond} (ws : List Cond) (ps : List Nat) (hp : ws = ps.filterMap (fun i => big[i]?)) (h : ws.all goodWord = true) : GoodIn big ws := by
  intro w hw
  have h1 := List.all_eq_true.mp h w hw
  rw [hp] at hw
  obtain ⟨i, -, hi⟩ := List.mem_filterMap.mp hw
  exact ⟨List.mem_of_getElem? hi, good_of_word h1⟩
/-- what is fixed of the machine's tables: class numbers, array kinds, the two static rows -/
abbrev nx_E : Type := va_G × ClassId × ClassId × Nat × Nat
abbrev nx_ty (E : nx_E) : List (ClassId × FieldType) := [(E.2.1, .int), (E.2.2.1, .long)]
def nx_east : Nat → Int32 := fun j => ([2, 3, 4, 5, 1, 3, 4, 6, 1, 2, 5, 6, 1, 2, 5, 6, 1, 3, 4, 6, 2, 3, 4, 5] : List Int32).getD j 0
def nx_south : Nat → Int32 := fun j => ([4, 2, 5, 3, 3, 6, 1, 4, 5, 1, 6, 2, 2, 6, 1, 5, 4, 1, 6, 3, 3, 5, 2, 4] : List Int32).getD j 0
def nx_S (E : nx_E) (A : Nat → Prop) (U : State) (H : Heap) : Prop := va_Z RX3 "EAST" "[I" (.ref E.2.2.2.1) A U H ∧ va_Z RX3 "SOUTH" "[I" (.ref E.2.2.2.2) A U H ∧ va_T .int E.2.2.2.1 24 (fun j => .int (nx_east j)) A U H ∧ va_T .int E.2.2.2.2 24 (fun j => .int (nx_south j)) A U H
theorem nx_S.moved {E : nx_E} {A : Nat → Prop} {u U : State} {H : Heap} (hvm : u.vm.Alike U.vm) (h : nx_S E A u H) : nx_S E A U H := ⟨va_Z.moved hvm h.1, va_Z.moved hvm h.2.1, va_T.moved hvm h.2.2.1, va_T.moved hvm h.2.2.2⟩
theorem nx_S.kept {E : nx_E} {A : Nat → Prop} {U : State} {H H1 : Heap} (h : nx_S E A U H) (hq : ∀ a : Nat, a < H.size → ¬ A a → H1[a]? = H[a]?) : nx_S E A U H1 := ⟨va_Z.kept h.1 hq, va_Z.kept h.2.1 hq, va_T.kept h.2.2.1 hq, va_T.kept h.2.2.2 hq⟩
theorem nx_S.narrow {E : nx_E} {A B : Nat → Prop} {U : State} {H : Heap} (h : nx_S E A U H) (hAB : ∀ q, B q → A q) : nx_S E B U H := ⟨va_Z.narrow h.1 hAB, va_Z.narrow h.2.1 hAB, va_T.narrow h.2.2.1 hAB, va_T.narrow h.2.2.2 hAB⟩
def nx_L : List (String × Nat × MethodName) := [(RX10, 18, yX3_init), (RX10, 25, yX8_init), (RX0, 3, yX6_init), (RX1, 48, yX10_oneIf), (RX1, 71, yX10_noneIfNowhere), (RX2, 25, yX10_isSide), (RX2, 56, yX10_oneIf), (RX3, 15, yX10_isStance), (RX3, 3, yX6_init), (RX4, 3, yX6_init), (RX5, 33, yX10_noneIfNowhere), (RX5, 94, yX10_oneIf), (RX7, 41, yX10_oneIf), (RX9, 66, yX10_oneIf)]
abbrev nx_after : MethodName := ⟨"RollingThings$Mover", "after", "(II)I"⟩
def nx_Z (U : State) : Prop := (∀ q ∈ nx_L, va_Nw (.methodLinkNest q.1 q.2.1 q.2.2 "RollingThings") U) ∧ va_Nw (.declares nx_after) U
theorem nx_Z.warm {s U : State} (hW : s.WarmedH U.vm) (h : nx_Z s) : nx_Z U := ⟨fun q hq => va_Nw.warmM hW (h.1 q hq), va_Nw.warmD hW h.2⟩
theorem nx_Z.same {u U : State} (hv : u.vm = U.vm) (h : nx_Z u) : nx_Z U := ⟨fun q hq => va_Nw.same rfl hv (h.1 q hq), va_Nw.same rfl hv h.2⟩
/-- a method's start -/
def nx_P (E : nx_E) (A : Nat → Prop) (sz : Nat) (ws : va_W) (U : State) : Prop := U.heap.size = sz ∧ va_P E.1 vwCl ws U.heap ∧ va_K E.1 vwCl (nx_ty E) U ∧ nx_S E A U U.heap ∧ nx_Z U
abbrev nx_C (E : nx_E) (A : Nat → Prop) (p : Program) (s : State) (m : MethodId) (c : Code) (cc : ByteArray) (nL : Nat) (own : String) (args : Array Value) : Prop := CallFix p m c cc nL s args nx_T own ∧ va_K E.1 vwCl (nx_ty E) s ∧ nx_S E A s s.heap ∧ nx_Z s
def nx_F : Nat → Prop := fun _ => False
theorem nx_FA {A : Nat → Prop} : ∀ q, nx_F q → A q := fun _ h => h.elim
def nx_A (a : Nat → Nat) (n sz : Nat) : Nat → Prop := fun q => (∃ k, k < n ∧ q = a k) ∨ sz ≤ q
theorem nx_Am {a : Nat → Nat} {n x y : Nat} (h : x ≤ y) : ∀ q, nx_A a n y q → nx_A a n x q := fun _ z => z.elim Or.inl (fun z => Or.inr (Nat.le_trans h z))
def nx_inj (a : Nat → Nat) (n : Nat) : Prop := ∀ i j, i < n → j < n → a i = a j → i = j
/-- a world whose k-th cell lies at a k -/
def nx_ad (a : Nat → Nat) (n : Nat) (ws : va_W) : Prop := ws.map Prod.fst = (List.range n).map a
theorem nx_ad_at {a : Nat → Nat} {n : Nat} {ws : va_W} (h : nx_ad a n ws) {k : Nat} {q : Nat × va_E} (hk : ws[k]? = some q) : k < n ∧ q.1 = a k := by
  have h1 : (ws.map Prod.fst)[k]? = some q.1 := by rw [List.getElem?_map, hk]; rfl
  rw [h, List.getElem?_map] at h1
  cases h2 : (List.range n)[k]? with
  | none => rw [h2] at h1; cases h1
  | some j =>
    rw [h2] at h1
    obtain ⟨h3, h4⟩ := List.getElem?_eq_some_iff.mp h2
    rw [List.getElem_range] at h4
    rw [List.length_range] at h3
    subst h4
    exact ⟨h3, (Option.some.inj h1).symm⟩
theorem nx_D {a : Nat → Nat} {n sz : Nat} {ws : va_W} (hI : nx_inj a n) (h : nx_ad a n ws) : va_D (nx_A a n sz) ws :=
  ⟨fun i j x y hi hj hxy => hI i j (nx_ad_at h hi).1 (nx_ad_at h hj).1 (by rw [← (nx_ad_at h hi).2, ← (nx_ad_at h hj).2, hxy]), fun k q hk => Or.inl ⟨k, nx_ad_at h hk⟩⟩
theorem nx_blind {As : List Value} {E : nx_E} {A : Nat → Prop} {sz : Nat} {ws : va_W} : FrameBlind (va_Pc As (nx_P E A sz ws)) := fun a U g mk q => by
  obtain ⟨q0, q1, qP, qK, qS, qZ⟩ := q
  exact ⟨q0, q1, qP, va_K.moved (u := U) (U := U.calling g mk a) (Vm.Alike.refl U.vm) qK, nx_S.moved (u := U) (U := U.calling g mk a) (Vm.Alike.refl U.vm) qS, nx_Z.same (u := U) (U := U.calling g mk a) rfl qZ⟩
section NXA
variable {p : Program} {l : Launch} {e : Env} {R : Room} {s : State} {m : MethodId} {args : Array Value} {below : List Frame} {meth : Method} {c : Code} {H : Heap} {locs : List Loc} {Q : State → Prop}
variable {cl sl : Nat} {E : nx_E} {A A1 : Nat → Prop} {cc cy : ByteArray} {nL maxL n index : Nat} {own C : String} {y : MethodName} {ret : Option FieldType} {rm : Room} {ws : va_W} {Qc : Array Value → State → Outcome → State → Prop} {b : Nat} {As rest st0 : List Value} {pc : Nat} {ls : Array Slot}
theorem nx_pre (X : nx_C E A p s m c cc nL own args) (hS : va_S A s.heap H locs) (hP : va_P E.1 vwCl ws H) (hA : ∀ q, A1 q → A q) : ∀ U : State, U.heap = H → s.WarmedH U.vm → va_Pc As (nx_P E A1 H.size ws) As.toArray U := fun U hU hW =>
  ⟨rfl, by rw [hU], by rw [hU]; exact hP, va_K.moved hW.alike X.2.1, by rw [hU]; exact ((X.2.2.1.kept hS.2.1).moved hW.alike).narrow hA, X.2.2.2.warm hW⟩
abbrev nx_wV (own : String) (index : Nat) (C : String) (y : MethodName) (cy : ByteArray) (maxL : Nat) (ret : Option FieldType) (n : Nat) : Prop := GoodIn nx_T (wsV own index C y (.code y cy maxL ret :: nx_T)) ∧ (y.cls = C ∧ y.cls ≠ "java/lang/invoke/MethodHandle" ∧ y.cls ≠ "java/lang/invoke/VarHandle" ∧ (parseMethodDescriptor y.desc).map (fun d => d.parameters.length) = some n)
theorem nx_mkV (h1 : Cond.methodLink own index y ∈ nx_T) (h2 : Cond.instanceMethod y ∈ nx_T) (h3 : Cond.selects C y y ∈ nx_T) (h4 : Cond.initialized C ∈ nx_T) (h5 : Cond.code y cy maxL ret ∈ nx_T) (hd : y.cls = C ∧ y.cls ≠ "java/lang/invoke/MethodHandle" ∧ y.cls ≠ "java/lang/invoke/VarHandle" ∧ (parseMethodDescriptor y.desc).map (fun d => d.parameters.length) = some n) : nx_wV own index C y cy maxL ret n := by
  refine ⟨nx_good (fun w hw => ?_), hd⟩
  rcases List.mem_append.mp hw with h | h
  · simp only [List.mem_cons, List.not_mem_nil, or_false] at h
    rcases h with rfl | rfl | rfl | rfl <;> assumption
  · rcases List.mem_cons.mp h with rfl | h
    · exact h5
    · exact h
theorem nx_runV (X : nx_C E A p s m c cc nL own args) (hS : va_S A s.heap H locs) (hP : va_P E.1 vwCl ws H) (hM : Met l y (.code y cy maxL ret :: nx_T) rm (va_Pc (.ref b :: As) (nx_P E A1 H.size ws)) Qc 0 0 A1) (hA : ∀ q, A1 q → A q) (hw : nx_wV own index C y cy maxL ret n) (hrm : rm.cells = 0 ∧ rm.slots = 0) (hR : rm.frames + 1 ≤ R.frames ∧ 8 + (maxL + 11) + rm.locals ≤ R.locals) (hcs : cl ≤ R.cells ∧ sl ≤ R.slots) (q0 : Nat) {ci : Nat} {fs : List Value} {T : u_T} {N : Nat} (he : ws[q0]? = some (b, .inr (ci, fs))) (hc : vwCl[ci]? = some (C, T, N)) (hn : As.length = n) (hst : st0 = As.reverse ++ .ref b :: rest) (hsz : ls.size = nL) (hrest : (rest.map fun v => v.category).sum ≤ 8) (hdg : decode cc pc = .ok (.invokevirtual index, 3)) : va_Run p l e R s m args below meth c H locs cl sl 0 0 (F0 m pc ls st0) rest (Qc (Value.ref b :: As).toArray) A1 :=
  va_runV X.1 hM (cwV n X.1.2.2.2.2 hw.1 rfl hrm.1 hrm.2 hw.2 hR) ⟨nx_blind, va_recv X.2.1 hP hc he, nx_pre X hS hP hA⟩ rfl hn hsz hst (lv_room hrest) hdg hcs
abbrev nx_wS (own : String) (index : Nat) (y : MethodName) (cy : ByteArray) (maxL : Nat) (ret : Option FieldType) (n : Nat) : Prop := GoodIn nx_T (va_wsS own index y (.code y cy maxL ret :: nx_T)) ∧ (y.cls ≠ "java/lang/invoke/MethodHandle" ∧ y.cls ≠ "java/lang/invoke/VarHandle" ∧ (parseMethodDescriptor y.desc).map (fun d => d.parameters.length) = some n)
theorem nx_mkS (h1 : Cond.methodLink own index y ∈ nx_T) (h2 : Cond.static y ∈ nx_T) (h4 : Cond.initialized y.cls ∈ nx_T) (h5 : Cond.code y cy maxL ret ∈ nx_T) (hd : y.cls ≠ "java/lang/invoke/MethodHandle" ∧ y.cls ≠ "java/lang/invoke/VarHandle" ∧ (parseMethodDescriptor y.desc).map (fun d => d.parameters.length) = some n) : nx_wS own index y cy maxL ret n := by
  refine ⟨nx_good (fun w hw => ?_), hd⟩
  rcases List.mem_append.mp hw with h | h
  · simp only [List.mem_cons, List.not_mem_nil, or_false] at h
    rcases h with rfl | rfl | rfl <;> assumption
  · rcases List.mem_cons.mp h with rfl | h
    · exact h5
    · exact h
theorem nx_runS (X : nx_C E A p s m c cc nL own args) (hS : va_S A s.heap H locs) (hP : va_P E.1 vwCl ws H) (hM : Met l y (.code y cy maxL ret :: nx_T) rm (va_Pc As (nx_P E A1 H.size ws)) Qc 0 0 A1) (hA : ∀ q, A1 q → A q) (hw : nx_wS own index y cy maxL ret n) (hrm : rm.cells = 0 ∧ rm.slots = 0) (hR : rm.frames + 1 ≤ R.frames ∧ 8 + (maxL + 11) + rm.locals ≤ R.locals) (hcs : cl ≤ R.cells ∧ sl ≤ R.slots) (hn : As.length = n) (hst : st0 = As.reverse ++ rest) (hsz : ls.size = nL) (hrest : (rest.map fun v => v.category).sum ≤ 8) (hdg : decode cc pc = .ok (.invokestatic index, 3)) : va_Run p l e R s m args below meth c H locs cl sl 0 0 (F0 m pc ls st0) rest (Qc As.toArray) A1 :=
  va_runS X.1 hM (va_cwS n X.1.2.2.2.2 hw.1 rfl hrm.1 hrm.2 hw.2 hR) ⟨nx_blind, nx_pre X hS hP hA⟩ rfl hn hsz hst (lv_room hrest) hdg hcs
abbrev nx_wN (own : String) (index : Nat) (y : MethodName) (cy : ByteArray) (maxL : Nat) (ret : Option FieldType) (n : Nat) : Prop := (own, index, y) ∈ nx_L ∧ Cond.static y ∈ nx_T ∧ Cond.initialized y.cls ∈ nx_T ∧ Cond.code y cy maxL ret ∈ nx_T ∧ (y.cls ≠ "java/lang/invoke/MethodHandle" ∧ y.cls ≠ "java/lang/invoke/VarHandle" ∧ (parseMethodDescriptor y.desc).map (fun d => d.parameters.length) = some n)
theorem nx_self (h5 : Cond.code y cy maxL ret ∈ nx_T) : GoodIn nx_T (.code y cy maxL ret :: nx_T) := nx_good (fun w hw => (List.mem_cons.mp hw).elim (fun h => by rw [h]; exact h5) id)
theorem nx_runN (X : nx_C E A p s m c cc nL own args) (hS : va_S A s.heap H locs) (hP : va_P E.1 vwCl ws H) (hM : Met l y (.code y cy maxL ret :: nx_T) rm (va_Pc As (nx_P E A1 H.size ws)) Qc 0 0 A1) (hA : ∀ q, A1 q → A q) (hw : nx_wN own index y cy maxL ret n) (hrm : rm.cells = 0 ∧ rm.slots = 0) (hR : rm.frames + 1 ≤ R.frames ∧ 8 + (maxL + 11) + rm.locals ≤ R.locals) (hcs : cl ≤ R.cells ∧ sl ≤ R.slots) (hn : As.length = n) (hst : st0 = As.reverse ++ rest) (hsz : ls.size = nL) (hrest : (rest.map fun v => v.category).sum ≤ 8) (hdg : decode cc pc = .ok (.invokestatic index, 3)) : va_Run p l e R s m args below meth c H locs cl sl 0 0 (F0 m pc ls st0) rest (Qc As.toArray) A1 :=
  va_runSN X.1 hM ⟨va_cnB n X.1.2.2.2.2 (nx_self hw.2.2.2.1) rfl hrm.1 hrm.2 (X.2.2.2.1 (own, index, y) hw.1) (X.1.2.2.2.2 _ hw.2.2.1) hw.2.2.2.2 hR, X.1.2.2.2.2 _ hw.2.1, trivial⟩ ⟨nx_blind, nx_pre X hS hP hA⟩ rfl hn hsz hst (lv_room hrest) hdg hcs
abbrev nx_wU (own : String) (index : Nat) (C : String) (y : MethodName) (cy : ByteArray) (maxL : Nat) (ret : Option FieldType) (n : Nat) : Prop := GoodIn nx_T (va_wsU own index C "RollingThings$Mover" nx_after y (.code y cy maxL ret :: nx_T)) ∧ ("RollingThings$Mover" ≠ "java/lang/invoke/MethodHandle" ∧ "RollingThings$Mover" ≠ "java/lang/invoke/VarHandle" ∧ (parseMethodDescriptor nx_after.desc).map (fun d => d.parameters.length) = some n)
theorem nx_mkU (h1 : Cond.methodLink own index nx_after ∈ nx_T) (h6 : Cond.sameMethod "RollingThings$Mover" "RollingThings$Mover" "after" "(II)I" ∈ nx_T) (h3 : Cond.selects C nx_after y ∈ nx_T) (h2 : Cond.instanceMethod y ∈ nx_T) (h4 : Cond.initialized y.cls ∈ nx_T) (h5 : Cond.code y cy maxL ret ∈ nx_T) (hd : "RollingThings$Mover" ≠ "java/lang/invoke/MethodHandle" ∧ "RollingThings$Mover" ≠ "java/lang/invoke/VarHandle" ∧ (parseMethodDescriptor nx_after.desc).map (fun d => d.parameters.length) = some n) : nx_wU own index C y cy maxL ret n := by
  refine ⟨nx_good (fun w hw => ?_), hd⟩
  rcases List.mem_append.mp hw with h | h
  · simp only [List.mem_cons, List.not_mem_nil, or_false] at h
    rcases h with rfl | rfl | rfl | rfl | rfl <;> assumption
  · rcases List.mem_cons.mp h with rfl | h
    · exact h5
    · exact h
theorem nx_runU (X : nx_C E A p s m c cc nL own args) (hS : va_S A s.heap H locs) (hP : va_P E.1 vwCl ws H) (hM : Met l y (.code y cy maxL ret :: nx_T) rm (va_Pc (.ref b :: As) (nx_P E A1 H.size ws)) Qc 0 0 A1) (hA : ∀ q, A1 q → A q) (hw : nx_wU own index C y cy maxL ret n) (hrm : rm.cells = 0 ∧ rm.slots = 0) (hR : rm.frames + 1 ≤ R.frames ∧ 8 + (maxL + 11) + rm.locals ≤ R.locals) (hcs : cl ≤ R.cells ∧ sl ≤ R.slots) (q0 : Nat) {ci : Nat} {fs : List Value} {T : u_T} {N : Nat} (he : ws[q0]? = some (b, .inr (ci, fs))) (hc : vwCl[ci]? = some (C, T, N)) (hn : As.length = n) (hst : st0 = As.reverse ++ .ref b :: rest) (hsz : ls.size = nL) (hrest : (rest.map fun v => v.category).sum ≤ 8) (hdg : decode cc pc = .ok (.invokevirtual index, 3)) : va_Run p l e R s m args below meth c H locs cl sl 0 0 (F0 m pc ls st0) rest (Qc (Value.ref b :: As).toArray) A1 :=
  va_runU X.1 hM (va_cwA n X.1.2.2.2.2 hw.1 rfl hrm.1 hrm.2 X.2.2.2.2 hw.2 hR) ⟨nx_blind, va_recv X.2.1 hP hc he, nx_pre X hS hP hA⟩ rfl hn hsz hst (lv_room hrest) hdg hcs
variable {av : Array Value}
theorem nx_ki {r0 : Int32} (hr : va_Run p l e R s m args below meth c H locs cl sl 0 0 (F0 m pc ls st0) rest (va_Qi (fun v (_ : Unit) => v = r0) (fun _ t => va_P E.1 vwCl ws t.heap) A1 av) A1) (hS : va_S A s.heap H locs) (hA : ∀ q, A1 q → A q) (kk : ∀ (H1 : Heap) (locs1 : List Loc), va_P E.1 vwCl ws H1 → va_S A s.heap H1 locs1 → W p l e R s m args below meth c H1 locs1 cl sl Q (F0 m (pc + 3) ls (.int r0 :: rest))) : W p l e R s m args below meth c H locs cl sl Q (F0 m pc ls st0) :=
  va_calli hr hS (fun q _ h => hA q h) hA (fun r u t H1 locs1 ht hvm hp hB hz hk hS1 => by subst hp; rw [ht] at hB; exact kk H1 locs1 hB hS1)
theorem nx_kl {r0 : Int64} (hr : va_Run p l e R s m args below meth c H locs cl sl 0 0 (F0 m pc ls st0) rest (va_Ql (fun v (_ : Unit) => v = r0) (fun _ t => va_P E.1 vwCl ws t.heap) A1 av) A1) (hS : va_S A s.heap H locs) (hA : ∀ q, A1 q → A q) (kk : ∀ (H1 : Heap) (locs1 : List Loc), va_P E.1 vwCl ws H1 → va_S A s.heap H1 locs1 → W p l e R s m args below meth c H1 locs1 cl sl Q (F0 m (pc + 3) ls (.long r0 :: rest))) : W p l e R s m args below meth c H locs cl sl Q (F0 m pc ls st0) :=
  va_calll hr hS (fun q _ h => hA q h) hA (fun r u t H1 locs1 ht hvm hp hB hz hk hS1 => by subst hp; rw [ht] at hB; exact kk H1 locs1 hB hS1)
theorem nx_kwi {S : Type} {wf : S → va_W} {r0 : Int32} {k0 : S} (hr : va_Run p l e R s m args below meth c H locs cl sl 0 0 (F0 m pc ls st0) rest (va_Qi (fun v u => (v, u) = (r0, k0)) (fun u t => va_P E.1 vwCl (wf u) t.heap) A1 av) A1) (hS : va_S A s.heap H locs) (hA : ∀ q, A1 q → A q) (kk : ∀ (H1 : Heap) (locs1 : List Loc), va_P E.1 vwCl (wf k0) H1 → va_S A s.heap H1 locs1 → W p l e R s m args below meth c H1 locs1 cl sl Q (F0 m (pc + 3) ls (.int r0 :: rest))) : W p l e R s m args below meth c H locs cl sl Q (F0 m pc ls st0) :=
  va_calli hr hS (fun q _ h => hA q h) hA (fun r u t H1 locs1 ht hvm hp hB hz hk hS1 => by obtain ⟨rfl, rfl⟩ := Prod.mk.inj hp; rw [ht] at hB; exact kk H1 locs1 hB hS1)
theorem nx_kwl {S : Type} {wf : S → va_W} {r0 : Int64} {k0 : S} (hr : va_Run p l e R s m args below meth c H locs cl sl 0 0 (F0 m pc ls st0) rest (va_Ql (fun v u => (v, u) = (r0, k0)) (fun u t => va_P E.1 vwCl (wf u) t.heap) A1 av) A1) (hS : va_S A s.heap H locs) (hA : ∀ q, A1 q → A q) (kk : ∀ (H1 : Heap) (locs1 : List Loc), va_P E.1 vwCl (wf k0) H1 → va_S A s.heap H1 locs1 → W p l e R s m args below meth c H1 locs1 cl sl Q (F0 m (pc + 3) ls (.long r0 :: rest))) : W p l e R s m args below meth c H locs cl sl Q (F0 m pc ls st0) :=
  va_calll hr hS (fun q _ h => hA q h) hA (fun r u t H1 locs1 ht hvm hp hB hz hk hS1 => by obtain ⟨rfl, rfl⟩ := Prod.mk.inj hp; rw [ht] at hB; exact kk H1 locs1 hB hS1)
theorem nx_kv {S : Type} {wf : S → va_W} {k0 : S} (hr : va_Run p l e R s m args below meth c H locs cl sl 0 0 (F0 m pc ls st0) rest (va_Qv (fun u => u = k0) (fun u t => va_P E.1 vwCl (wf u) t.heap) A1 av) A1) (hS : va_S A s.heap H locs) (hA : ∀ q, A1 q → A q) (kk : ∀ (H1 : Heap) (locs1 : List Loc), va_P E.1 vwCl (wf k0) H1 → va_S A s.heap H1 locs1 → W p l e R s m args below meth c H1 locs1 cl sl Q (F0 m (pc + 3) ls rest)) : W p l e R s m args below meth c H locs cl sl Q (F0 m pc ls st0) :=
  va_callv hr hS (fun q _ h => hA q h) hA (fun u t H1 locs1 ht hvm hp hB hz hk hS1 => by subst hp; rw [ht] at hB; exact kk H1 locs1 hB hS1)
/-- fields and rows of a world -/
theorem nx_gf (X : nx_C E A p s m c cc nL own args) (hP : va_P E.1 vwCl ws H) {ci N : Nat} {T : u_T} (hin : ∀ w ∈ u_ws C T N, w ∈ nx_T) (hc : vwCl[ci]? = some (C, T, N)) (q0 : Nat) {fs : List Value} (he : ws[q0]? = some (b, .inr (ci, fs))) (k : Nat) (hk : k < N) (hl : Cond.fieldLink own index (T k).1 (T k).2.1 (T k).2.2.1 ∈ nx_T) {v : Value} (hv : fs[k]? = some v) (hdg : decode cc pc = .ok (.getfield index, 3)) (kk : W p l e R s m args below meth c H locs cl sl Q (F0 m (pc + 3) ls (v :: rest))) : W p l e R s m args below meth c H locs cl sl Q (F0 m pc ls (.ref b :: rest)) :=
  va_get X.1.1 X.1.2.1 X.1.2.2.2.2 hin X.1.2.2.2.1 X.2.1 hP q0 he hc k hk (X.1.2.2.2.2 _ hl) (fun _ h => h) hv hdg kk
theorem nx_pf {a : Nat → Nat} {na sz : Nat} (X : nx_C E (nx_A a na sz) p s m c cc nL own args) (hI : nx_inj a na) (had : nx_ad a na ws) (hP : va_P E.1 vwCl ws H) (hS : va_S (nx_A a na sz) s.heap H locs) {ci N : Nat} {T : u_T} (hin : ∀ w ∈ u_ws C T N, w ∈ nx_T) (ty0 : Nat → FieldType) (hty : ∀ k, k < N → parseFieldDescriptor (T k).2.2.1 = some (ty0 k)) (hnm : ∀ a, a < N → ∀ b, b < N → a ≠ b → (T a).2.1 ≠ (T b).2.1) (hc : vwCl[ci]? = some (C, T, N)) (q0 : Nat) {fs : List Value} (he : ws[q0]? = some (b, .inr (ci, fs))) (k : Nat) (hk : k < N) (hl : Cond.fieldLink own index (T k).1 (T k).2.1 (T k).2.2.1 ∈ nx_T) (hfin : (T k).2.2.2 = false) {v : Value} {ty : FieldType} (hd : parseFieldDescriptor (T k).2.2.1 = some ty) (hn : narrow ty v = v) (hfit : fits ty v = true) (hlen : k < fs.length) (hdg : decode cc pc = .ok (.putfield index, 3)) (kk : ∀ (H1 : Heap) (locs1 : List Loc), va_P E.1 vwCl (ws.set q0 (b, .inr (ci, fs.set k v))) H1 → va_S (nx_A a na sz) s.heap H1 locs1 → W p l e R s m args below meth c H1 locs1 cl sl Q (F0 m (pc + 3) ls rest)) : W p l e R s m args below meth c H locs cl sl Q (F0 m pc ls (v :: .ref b :: rest)) :=
  va_put X.1.1 X.1.2.1 X.1.2.2.2.2 hin ty0 hty hnm X.1.2.2.2.1 X.2.1 hP (nx_D hI had) hS q0 he hc k hk (X.1.2.2.2.2 _ hl) (fun _ h => h) hfin hd hn hfit hlen hdg (fun H1 locs1 hP _ hS => kk H1 locs1 hP hS)
theorem nx_ld (X : nx_C E A p s m c cc nL own args) (hP : va_P E.1 vwCl ws H) (q0 : Nat) {nn : Nat} {f : Nat → Int32} (he : ws[q0]? = some (b, .inl (E.2.1, nn, .inl f))) {i : Int32} (hin : vp_in i nn) (hdg : decode cc pc = .ok (.iaload, 1)) (kk : W p l e R s m args below meth c H locs cl sl Q (F0 m (pc + 1) ls (.int (f i.toNatClampNeg) :: rest))) : W p l e R s m args below meth c H locs cl sl Q (F0 m pc ls (.int i :: .ref b :: rest)) :=
  va_iald X.1.1 X.1.2.1 X.2.1 hP q0 0 he rfl hin hdg kk
theorem nx_ldl (X : nx_C E A p s m c cc nL own args) (hP : va_P E.1 vwCl ws H) (q0 : Nat) {nn : Nat} {f : Nat → Int64} (he : ws[q0]? = some (b, .inl (E.2.2.1, nn, .inr (.inl f)))) {i : Int32} (hin : vp_in i nn) (hdg : decode cc pc = .ok (.laload, 1)) (kk : W p l e R s m args below meth c H locs cl sl Q (F0 m (pc + 1) ls (.long (f i.toNatClampNeg) :: rest))) : W p l e R s m args below meth c H locs cl sl Q (F0 m pc ls (.int i :: .ref b :: rest)) :=
  va_lald X.1.1 X.1.2.1 X.2.1 hP q0 1 he rfl hin hdg kk
theorem nx_st {a : Nat → Nat} {na sz : Nat} (X : nx_C E (nx_A a na sz) p s m c cc nL own args) (hI : nx_inj a na) (had : nx_ad a na ws) (hP : va_P E.1 vwCl ws H) (hS : va_S (nx_A a na sz) s.heap H locs) (q0 : Nat) {nn : Nat} {f : Nat → Int32} (he : ws[q0]? = some (b, .inl (E.2.1, nn, .inl f))) {i x : Int32} (hin : vp_in i nn) (hdg : decode cc pc = .ok (.iastore, 1)) (kk : ∀ (H1 : Heap) (locs1 : List Loc), va_P E.1 vwCl (ws.set q0 (b, .inl (E.2.1, nn, .inl (upd f i.toNatClampNeg x)))) H1 → va_S (nx_A a na sz) s.heap H1 locs1 → W p l e R s m args below meth c H1 locs1 cl sl Q (F0 m (pc + 1) ls rest)) : W p l e R s m args below meth c H locs cl sl Q (F0 m pc ls (.int x :: .int i :: .ref b :: rest)) :=
  va_iast X.1.1 X.1.2.1 X.2.1 hP (nx_D hI had) hS q0 0 he rfl hin hdg (fun H1 locs1 hP _ hS => kk H1 locs1 hP hS)
theorem nx_stl {a : Nat → Nat} {na sz : Nat} (X : nx_C E (nx_A a na sz) p s m c cc nL own args) (hI : nx_inj a na) (had : nx_ad a na ws) (hP : va_P E.1 vwCl ws H) (hS : va_S (nx_A a na sz) s.heap H locs) (q0 : Nat) {nn : Nat} {f : Nat → Int64} (he : ws[q0]? = some (b, .inl (E.2.2.1, nn, .inr (.inl f)))) {i : Int32} {x : Int64} (hin : vp_in i nn) (hdg : decode cc pc = .ok (.lastore, 1)) (kk : ∀ (H1 : Heap) (locs1 : List Loc), va_P E.1 vwCl (ws.set q0 (b, .inl (E.2.2.1, nn, .inr (.inl (vp_updL f i.toNatClampNeg x))))) H1 → va_S (nx_A a na sz) s.heap H1 locs1 → W p l e R s m args below meth c H1 locs1 cl sl Q (F0 m (pc + 1) ls rest)) : W p l e R s m args below meth c H locs cl sl Q (F0 m pc ls (.long x :: .int i :: .ref b :: rest)) :=
  va_last X.1.1 X.1.2.1 X.2.1 hP (nx_D hI had) hS q0 1 he rfl hin hdg (fun H1 locs1 hP _ hS => kk H1 locs1 hP hS)
theorem nx_al (X : nx_C E A p s m c cc nL own args) (hP : va_P E.1 vwCl ws H) (q0 : Nat) {x : vp_A} (he : ws[q0]? = some (b, .inl (E.2.1, x))) {v : Int32} (hv : Int32.ofNat x.1 = v) (hdg : decode cc pc = .ok (.arraylength, 1)) (kk : W p l e R s m args below meth c H locs cl sl Q (F0 m (pc + 1) ls (.int v :: rest))) : W p l e R s m args below meth c H locs cl sl Q (F0 m pc ls (.ref b :: rest)) :=
  va_alen X.1.1 X.1.2.1 X.2.1 hP q0 0 he rfl hv hdg kk
end NXA
section NXE
variable {l : Launch} {y : MethodName} {cc : ByteArray} {maxL : Nat} {rm : Room} {As : List Value} {ws : va_W} {A : Nat → Prop} {E : nx_E} {sz : Nat}
theorem nx_ent {mc ms : Nat} {ret : Option FieldType} {Qc : Array Value → State → Outcome → State → Prop} (hy : plainName y.cls = true) (hlen : (lg_sl As).length ≤ maxL) (body : ∀ (p : Program) (e : Env) (s : State) (m : MethodId) (below : List Frame) (meth : Method) (c : Code), nx_C E A p s m c cc maxL y.cls As.toArray → meth.sig.returnType = ret → meth.locks = false → meth.name = y.name → s.heap.size = sz → va_P E.1 vwCl ws s.heap → ∀ ls : Array Slot, lv_has ls maxL (lv_args 0 As) → W p l e rm s m As.toArray below meth c s.heap [] 0 0 (MQ below Qc As.toArray s mc ms A) (F0 m 0 ls [])) : Met l y (.code y cc maxL ret :: nx_T) rm (va_Pc As (nx_P E A sz ws)) Qc mc ms A := by
  refine Met.ofW (cc := cc) (maxL := maxL) (ret := ret) hy rfl ?_
  intro p e s m args below meth c s₁ B hml hv
  obtain ⟨rfl, hsz, hP, hK, hSt, hNz⟩ := hv
  have hts := atoms_spec (ws := .code y cc maxL ret :: nx_T) B.pre
  have hown : s.vm.findClass y.cls = some m.cls := findClass_of_methodNamed B.named
  rw [lg_entry_eq]
  exact body p e s m below meth c ⟨⟨B.exec, B.bytes, hml, hown, fun w hw => hts w (List.mem_cons_of_mem _ hw)⟩, hK, hSt, hNz⟩ B.returns B.notSynchronized (name_of_methodNamed B.named B.method).1 hsz hP _ (lv_entry As hlen)
/-- a method that answers an int -/
theorem nx_enI {S : Type} (post : Int32 → S → Prop) (wf : S → va_W) (hy : plainName y.cls = true) (hlen : (lg_sl As).length ≤ maxL) (body : ∀ (p : Program) (e : Env) (s : State) (m : MethodId) (below : List Frame) (meth : Method) (c : Code) (Q : State → Prop), nx_C E A p s m c cc maxL y.cls As.toArray → (∀ (pc : Nat) (ls : Array Slot) (v : Int32) (u : S) (H : Heap) (locs : List Loc), decode cc pc = .ok (.ireturn, 1) → post v u → va_P E.1 vwCl (wf u) H → va_S A s.heap H locs → W p l e rm s m As.toArray below meth c H locs 0 0 Q (F0 m pc ls [.int v])) → s.heap.size = sz → va_P E.1 vwCl ws s.heap → ∀ ls : Array Slot, lv_has ls maxL (lv_args 0 As) → W p l e rm s m As.toArray below meth c s.heap [] 0 0 Q (F0 m 0 ls [])) : Met l y (.code y cc maxL (some .int) :: nx_T) rm (va_Pc As (nx_P E A sz ws)) (va_Qi post (fun u t => va_P E.1 vwCl (wf u) t.heap) A) 0 0 A :=
  nx_ent hy hlen (fun p e s m below meth c X hr hlk _ hsz hP ls hl => body p e s m below meth c _ X (fun pc ls v u H locs hd hp hP hS => W.iret X.1.1 X.1.2.1 hr (fun t ht hW => ⟨⟨v, u, rfl, hp, by show va_P _ _ _ t.heap; rw [ht]; exact hP⟩, hS.F ht⟩) hS.2.2 hd hlk) hsz hP ls hl)
theorem nx_nb {v : Int32} (h : v = 0 ∨ v = 1) : narrow .boolean (.int v) = .int v := by rcases h with rfl | rfl <;> rfl
theorem nx_fb {v : Int32} (h : v = 0 ∨ v = 1) : fits .boolean (.int v) = true := by rcases h with rfl | rfl <;> rfl
/-- a method that answers a boolean -/
theorem nx_enZ {S : Type} (post : Int32 → S → Prop) (wf : S → va_W) (hy : plainName y.cls = true) (hlen : (lg_sl As).length ≤ maxL) (body : ∀ (p : Program) (e : Env) (s : State) (m : MethodId) (below : List Frame) (meth : Method) (c : Code) (Q : State → Prop), nx_C E A p s m c cc maxL y.cls As.toArray → (∀ (pc : Nat) (ls : Array Slot) (v : Int32) (u : S) (H : Heap) (locs : List Loc), decode cc pc = .ok (.ireturn, 1) → (v = 0 ∨ v = 1) → post v u → va_P E.1 vwCl (wf u) H → va_S A s.heap H locs → W p l e rm s m As.toArray below meth c H locs 0 0 Q (F0 m pc ls [.int v])) → s.heap.size = sz → va_P E.1 vwCl ws s.heap → ∀ ls : Array Slot, lv_has ls maxL (lv_args 0 As) → W p l e rm s m As.toArray below meth c s.heap [] 0 0 Q (F0 m 0 ls [])) : Met l y (.code y cc maxL (some .boolean) :: nx_T) rm (va_Pc As (nx_P E A sz ws)) (va_Qi post (fun u t => va_P E.1 vwCl (wf u) t.heap) A) 0 0 A :=
  nx_ent hy hlen (fun p e s m below meth c X hr hlk _ hsz hP ls hl => body p e s m below meth c _ X (fun pc ls v u H locs hd hz hp hP hS => W.zret X.1.1 X.1.2.1 hr (nx_nb hz) (fun t ht hW => ⟨⟨v, u, rfl, hp, by show va_P _ _ _ t.heap; rw [ht]; exact hP⟩, hS.F ht⟩) hS.2.2 hd hlk) hsz hP ls hl)
theorem nx_enJ {S : Type} (post : Int64 → S → Prop) (wf : S → va_W) (hy : plainName y.cls = true) (hlen : (lg_sl As).length ≤ maxL) (body : ∀ (p : Program) (e : Env) (s : State) (m : MethodId) (below : List Frame) (meth : Method) (c : Code) (Q : State → Prop), nx_C E A p s m c cc maxL y.cls As.toArray → (∀ (pc : Nat) (ls : Array Slot) (v : Int64) (u : S) (H : Heap) (locs : List Loc), decode cc pc = .ok (.lreturn, 1) → post v u → va_P E.1 vwCl (wf u) H → va_S A s.heap H locs → W p l e rm s m As.toArray below meth c H locs 0 0 Q (F0 m pc ls [.long v])) → s.heap.size = sz → va_P E.1 vwCl ws s.heap → ∀ ls : Array Slot, lv_has ls maxL (lv_args 0 As) → W p l e rm s m As.toArray below meth c s.heap [] 0 0 Q (F0 m 0 ls [])) : Met l y (.code y cc maxL (some .long) :: nx_T) rm (va_Pc As (nx_P E A sz ws)) (va_Ql post (fun u t => va_P E.1 vwCl (wf u) t.heap) A) 0 0 A :=
  nx_ent hy hlen (fun p e s m below meth c X hr hlk _ hsz hP ls hl => body p e s m below meth c _ X (fun pc ls v u H locs hd hp hP hS => W.lret X.1.1 X.1.2.1 hr (fun t ht hW => ⟨⟨v, u, rfl, hp, by show va_P _ _ _ t.heap; rw [ht]; exact hP⟩, hS.F ht⟩) hS.2.2 hd hlk) hsz hP ls hl)
theorem nx_enV {S : Type} (post : S → Prop) (wf : S → va_W) (hy : plainName y.cls = true) (hlen : (lg_sl As).length ≤ maxL) (body : ∀ (p : Program) (e : Env) (s : State) (m : MethodId) (below : List Frame) (meth : Method) (c : Code) (Q : State → Prop), nx_C E A p s m c cc maxL y.cls As.toArray → (∀ (pc : Nat) (ls : Array Slot) (u : S) (H : Heap) (locs : List Loc), decode cc pc = .ok (.return_, 1) → post u → va_P E.1 vwCl (wf u) H → va_S A s.heap H locs → W p l e rm s m As.toArray below meth c H locs 0 0 Q (F0 m pc ls [])) → s.heap.size = sz → va_P E.1 vwCl ws s.heap → ∀ ls : Array Slot, lv_has ls maxL (lv_args 0 As) → W p l e rm s m As.toArray below meth c s.heap [] 0 0 Q (F0 m 0 ls [])) : Met l y (.code y cc maxL none :: nx_T) rm (va_Pc As (nx_P E A sz ws)) (va_Qv post (fun u t => va_P E.1 vwCl (wf u) t.heap) A) 0 0 A :=
  nx_ent hy hlen (fun p e s m below meth c X hr hlk _ hsz hP ls hl => body p e s m below meth c _ X (fun pc ls u H locs hd hp hP hS => W.vret X.1.1 X.1.2.1 hr (fun t ht hW => ⟨⟨u, rfl, hp, by show va_P _ _ _ t.heap; rw [ht]; exact hP⟩, hS.F ht⟩) hS.2.2 hd hlk) hsz hP ls hl)
end NXE
def nx_rm (f n : Nat) : Room := { frames := f, cells := 0, slots := 0, locals := n }
-- what the pure texts of the methods are made of
def nx_rd {α : Type} (f : Nat → α) (n : Nat) (i : Int32) : Option α := if i < 0 ∨ n ≤ i.toNatClampNeg then none else some (f i.toNatClampNeg)
def nx_ck (n : Nat) (i : Int32) : Option Unit := if i < 0 ∨ n ≤ i.toNatClampNeg then none else some ()
def nx_b (v : Int32) : Option Int32 := if v = 0 ∨ v = 1 then some v else none
def nx_lp {α β : Type} (b : (α → Option β) → α → Option β) : Nat → α → Option β
  | 0, _ => none
  | n + 1, x => b (nx_lp b n) x
theorem nx_bd {α β : Type} {x : Option α} {g : α → Option β} {o : β} (h : x.bind g = some o) : ∃ y, x = some y ∧ g y = some o := by
  cases x with
  | none => cases h
  | some y => exact ⟨y, rfl, h⟩
theorem nx_rb {α β : Type} {f : Nat → α} {n : Nat} {i : Int32} {g : α → Option β} {o : β} (h : (nx_rd f n i).bind g = some o) : vp_in i n ∧ g (f i.toNatClampNeg) = some o := by
  unfold nx_rd at h
  by_cases c : i < 0 ∨ n ≤ i.toNatClampNeg
  · rw [if_pos c] at h; cases h
  · rw [if_neg c] at h; exact ⟨c, h⟩
theorem nx_cb {β : Type} {n : Nat} {i : Int32} {g : Unit → Option β} {o : β} (h : (nx_ck n i).bind g = some o) : vp_in i n ∧ g () = some o := by
  unfold nx_ck at h
  by_cases c : i < 0 ∨ n ≤ i.toNatClampNeg
  · rw [if_pos c] at h; cases h
  · rw [if_neg c] at h; exact ⟨c, h⟩
theorem nx_bb {β : Type} {v : Int32} {g : Int32 → Option β} {o : β} (h : (nx_b v).bind g = some o) : (v = 0 ∨ v = 1) ∧ g v = some o := by
  unfold nx_b at h
  by_cases c : v = 0 ∨ v = 1
  · rw [if_pos c] at h; exact ⟨c, h⟩
  · rw [if_neg c] at h; cases h
theorem nx_it {α : Sort _} {c : Prop} [Decidable c] {x y o : α} (h : (if c then x else y) = o) (hc : c) : x = o := by rw [if_pos hc] at h; exact h
theorem nx_if {α : Sort _} {c : Prop} [Decidable c] {x y o : α} (h : (if c then x else y) = o) (hc : ¬ c) : y = o := by rw [if_neg hc] at h; exact h
theorem nx_nz {α : Type} {v : Int32} {x : Option α} {o : α} (h : (if v = 0 then none else x) = some o) : ¬ v = 0 ∧ x = some o := by
  by_cases c : v = 0
  · rw [if_pos c] at h; cases h
  · rw [if_neg c] at h; exact ⟨c, h⟩
theorem nx_sw3 {x : Int32} (h0 : ¬ x = 0) (h1 : ¬ x = 1) (h2 : ¬ x = 2) : x.toInt < 0 ∨ 2 < x.toInt := by
  have a0 := lv_neT (a := 0) h0 rfl
  have a1 := lv_neT (a := 1) h1 rfl
  have a2 := lv_neT (a := 2) h2 rfl
  omega
theorem nx_sw6 {x : Int32} (h0 : ¬ x = 0) (h1 : ¬ x = 1) (h2 : ¬ x = 2) (h3 : ¬ x = 3) (h4 : ¬ x = 4) (h5 : ¬ x = 5) : x.toInt < 0 ∨ 5 < x.toInt := by
  have a0 := lv_neT (a := 0) h0 rfl
  have a1 := lv_neT (a := 1) h1 rfl
  have a2 := lv_neT (a := 2) h2 rfl
  have a3 := lv_neT (a := 3) h3 rfl
  have a4 := lv_neT (a := 4) h4 rfl
  have a5 := lv_neT (a := 5) h5 rfl
  omega
