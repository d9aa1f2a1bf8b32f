/-! THE CLAIM OUT OF ONE WALK OF THE LAW'S BODY. Your part is whole_start (and what it stands on); all else here is the same for every law, but numbers. -/
def R_law : String := "RollingThingsLaw"
def lw_P (b : Addr) (xs : List Int32) (args : Array Value) (s : State) : Prop := args = #[.ref b] ∧ s.IntsAt b xs ∧ xs.length ≤ 3072 ∧ (Jvm.Cond.and given_1 narrow_1).before args s = true
def lw_Q (_ : Array Value) (s : State) (o : Outcome) (t : State) : Prop := o = .returned (some (.int 1)) ∧ Framed s o t [] 600000 7302250
def lw_Z (below : List Frame) (a : Array Value) (s : State) : State → Prop := fun t => ∃ o, t.status = .running ∧ Ended t below o ∧ lw_Q a s o t
/-- the law's own end, with 1 on the stack, nothing written that was there before, its room as the claim has it -/
theorem lw_ret {p : Program} {l : Launch} {e : Env} {s : State} {m : MethodId} {below : List Frame} {meth : Method} {c : Code} {b : Nat} (hx : p.tables.exec = Jvm.exec) (hb : c.code = code) (hr : meth.sig.returnType = ret) (hlocks : meth.locks = false) {pc : Nat} {H : Heap} {ls : Array Slot} (hdg : decode code pc = .ok (.ireturn, 1)) : W p l e room_1 s m #[Value.ref b] below meth c H [] 600000 7302250 (lw_Z below #[Value.ref b] s) (F0 m pc ls [.int 1]) := by
  intro T hT X
  obtain ⟨fs, hret, hrun, hended, hW, hframe⟩ := X.leave (v := some (.int 1)) (hlocks := hlocks) (fun h => by rw [hr] at h; cases h)
  have hmeth' : T.vm.method? m = some meth := X.method'
  refine ⟨T.setFrames fs, ?_, .returned (some (.int 1)), hrun, hended, rfl, ⟨_, rfl⟩, hW, hframe⟩
  jvm_step X.here [X.here.top, hx, hb, hdg, hmeth', hr, ret, narrow_b1]
  (try refine ⟨rfl, ?_⟩); (try refine ⟨rfl, ?_⟩)
  first | (intro acts; rw [hret _ acts rfl rfl rfl]) | rw [hret _ _ rfl rfl rfl]
  exact Steps.refl _
/-- what holds at the law's entry: the machine, the code, the tables' words (any of lw_tbl by 'hts w (by decide +kernel)'), the script of L ints xs at the cell b, what the Statement gives of the start (any of its parts by flat_of_before) -/
def lw_At (p : Program) (s : State) (m : MethodId) (meth : Method) (c : Code) (b L : Nat) (xs : Nat → Int32) : Prop :=
  p.tables.exec = Jvm.exec ∧ c.code = code ∧ meth.sig.returnType = ret ∧ c.maxLocals = 4 ∧ s.vm.findClass R_law = some m.cls ∧ (∀ w ∈ lw_tbl, w.before #[Value.ref b] s = true) ∧ va_X b L xs s s.heap ∧ b < s.heap.size ∧ meth.locks = false ∧ (Jvm.Cond.and given_1 narrow_1).before #[Value.ref b] s = true
theorem wi_X10_board : Cond.instanceMethod yX10_board ∈ nx_T := nx_t1 230 (by decide +kernel) (by decide +kernel)
theorem wx_X10_board : Cond.selects RX10 yX10_board yX10_board ∈ nx_T := nx_t1 231 (by decide +kernel) (by decide +kernel)
theorem wc_X10_board : Cond.code yX10_board cX10_board 3 (some .int) ∈ nx_T := nx_t1 232 (by decide +kernel) (by decide +kernel)
theorem wi_X11_board : Cond.instanceMethod yX11_board ∈ nx_T := nx_t1 915 (by decide +kernel) (by decide +kernel)
theorem wx_X11_board : Cond.selects RX11 yX11_board yX11_board ∈ nx_T := nx_t1 916 (by decide +kernel) (by decide +kernel)
theorem wc_X11_board : Cond.code yX11_board cX11_board 4 (some .int) ∈ nx_T := nx_t1 917 (by decide +kernel) (by decide +kernel)
theorem wi_X10_cell : Cond.instanceMethod yX10_cell ∈ nx_T := nx_t1 240 (by decide +kernel) (by decide +kernel)
theorem wx_X10_cell : Cond.selects RX10 yX10_cell yX10_cell ∈ nx_T := nx_t1 241 (by decide +kernel) (by decide +kernel)
theorem wc_X10_cell : Cond.code yX10_cell cX10_cell 4 (some .int) ∈ nx_T := nx_t1 242 (by decide +kernel) (by decide +kernel)
theorem wi_X11_cell : Cond.instanceMethod yX11_cell ∈ nx_T := nx_t1 921 (by decide +kernel) (by decide +kernel)
theorem wx_X11_cell : Cond.selects RX11 yX11_cell yX11_cell ∈ nx_T := nx_t1 922 (by decide +kernel) (by decide +kernel)
theorem wc_X11_cell : Cond.code yX11_cell cX11_cell 5 (some .int) ∈ nx_T := nx_t1 923 (by decide +kernel) (by decide +kernel)
theorem wi_X10_group : Cond.instanceMethod yX10_group ∈ nx_T := nx_t1 265 (by decide +kernel) (by decide +kernel)
theorem wx_X10_group : Cond.selects RX10 yX10_group yX10_group ∈ nx_T := nx_t1 266 (by decide +kernel) (by decide +kernel)
theorem wc_X10_group : Cond.code yX10_group cX10_group 3 (some .int) ∈ nx_T := nx_t1 267 (by decide +kernel) (by decide +kernel)
theorem wi_X11_group : Cond.instanceMethod yX11_group ∈ nx_T := nx_t1 934 (by decide +kernel) (by decide +kernel)
theorem wx_X11_group : Cond.selects RX11 yX11_group yX11_group ∈ nx_T := nx_t1 935 (by decide +kernel) (by decide +kernel)
theorem wc_X11_group : Cond.code yX11_group cX11_group 4 (some .int) ∈ nx_T := nx_t1 936 (by decide +kernel) (by decide +kernel)
theorem wi_X10_open : Cond.instanceMethod yX10_open ∈ nx_T := nx_t1 273 (by decide +kernel) (by decide +kernel)
theorem wx_X10_open : Cond.selects RX10 yX10_open yX10_open ∈ nx_T := nx_t1 274 (by decide +kernel) (by decide +kernel)
theorem wc_X10_open : Cond.code yX10_open cX10_open 2 (some .int) ∈ nx_T := nx_t1 275 (by decide +kernel) (by decide +kernel)
theorem wi_X11_open : Cond.instanceMethod yX11_open ∈ nx_T := nx_t1 938 (by decide +kernel) (by decide +kernel)
theorem wx_X11_open : Cond.selects RX11 yX11_open yX11_open ∈ nx_T := nx_t1 939 (by decide +kernel) (by decide +kernel)
theorem wc_X11_open : Cond.code yX11_open cX11_open 2 (some .int) ∈ nx_T := nx_t1 940 (by decide +kernel) (by decide +kernel)
theorem wi_X10_face : Cond.instanceMethod yX10_face ∈ nx_T := nx_t1 288 (by decide +kernel) (by decide +kernel)
theorem wx_X10_face : Cond.selects RX10 yX10_face yX10_face ∈ nx_T := nx_t1 289 (by decide +kernel) (by decide +kernel)
theorem wc_X10_face : Cond.code yX10_face cX10_face 3 (some .int) ∈ nx_T := nx_t1 290 (by decide +kernel) (by decide +kernel)
theorem wi_X11_face : Cond.instanceMethod yX11_face ∈ nx_T := nx_t1 886 (by decide +kernel) (by decide +kernel)
theorem wx_X11_face : Cond.selects RX11 yX11_face yX11_face ∈ nx_T := nx_t1 887 (by decide +kernel) (by decide +kernel)
theorem wc_X11_face : Cond.code yX11_face cX11_face 3 (some .int) ∈ nx_T := nx_t1 888 (by decide +kernel) (by decide +kernel)
theorem wi_X10_turn : Cond.instanceMethod yX10_turn ∈ nx_T := nx_t1 309 (by decide +kernel) (by decide +kernel)
theorem wx_X10_turn : Cond.selects RX10 yX10_turn yX10_turn ∈ nx_T := nx_t1 310 (by decide +kernel) (by decide +kernel)
theorem wc_X10_turn : Cond.code yX10_turn cX10_turn 3 (some .int) ∈ nx_T := nx_t1 311 (by decide +kernel) (by decide +kernel)
theorem wi_X11_turn : Cond.instanceMethod yX11_turn ∈ nx_T := nx_t1 897 (by decide +kernel) (by decide +kernel)
theorem wx_X11_turn : Cond.selects RX11 yX11_turn yX11_turn ∈ nx_T := nx_t1 898 (by decide +kernel) (by decide +kernel)
theorem wc_X11_turn : Cond.code yX11_turn cX11_turn 3 (some .int) ∈ nx_T := nx_t1 899 (by decide +kernel) (by decide +kernel)
theorem wi_X10_stance : Cond.instanceMethod yX10_stance ∈ nx_T := nx_t1 323 (by decide +kernel) (by decide +kernel)
theorem wx_X10_stance : Cond.selects RX10 yX10_stance yX10_stance ∈ nx_T := nx_t1 324 (by decide +kernel) (by decide +kernel)
theorem wc_X10_stance : Cond.code yX10_stance cX10_stance 3 (some .int) ∈ nx_T := nx_t1 325 (by decide +kernel) (by decide +kernel)
theorem wi_X11_stance : Cond.instanceMethod yX11_stance ∈ nx_T := nx_t1 905 (by decide +kernel) (by decide +kernel)
theorem wx_X11_stance : Cond.selects RX11 yX11_stance yX11_stance ∈ nx_T := nx_t1 906 (by decide +kernel) (by decide +kernel)
theorem wc_X11_stance : Cond.code yX11_stance cX11_stance 3 (some .int) ∈ nx_T := nx_t1 907 (by decide +kernel) (by decide +kernel)
theorem wi_X10_apart : Cond.instanceMethod yX10_apart ∈ nx_T := nx_t1 331 (by decide +kernel) (by decide +kernel)
theorem wx_X10_apart : Cond.selects RX10 yX10_apart yX10_apart ∈ nx_T := nx_t1 332 (by decide +kernel) (by decide +kernel)
theorem wc_X10_apart : Cond.code yX10_apart cX10_apart 3 (some .int) ∈ nx_T := nx_t1 333 (by decide +kernel) (by decide +kernel)
theorem wi_X11_apart : Cond.instanceMethod yX11_apart ∈ nx_T := nx_t1 910 (by decide +kernel) (by decide +kernel)
theorem wx_X11_apart : Cond.selects RX11 yX11_apart yX11_apart ∈ nx_T := nx_t1 911 (by decide +kernel) (by decide +kernel)
theorem wc_X11_apart : Cond.code yX11_apart cX11_apart 6 (some .int) ∈ nx_T := nx_t1 912 (by decide +kernel) (by decide +kernel)
theorem wi_X10_roll : Cond.instanceMethod yX10_roll ∈ nx_T := nx_t1 428 (by decide +kernel) (by decide +kernel)
theorem wx_X10_roll : Cond.selects RX10 yX10_roll yX10_roll ∈ nx_T := nx_t1 429 (by decide +kernel) (by decide +kernel)
theorem wc_X10_roll : Cond.code yX10_roll cX10_roll 4 (some .int) ∈ nx_T := nx_t1 430 (by decide +kernel) (by decide +kernel)
theorem wi_X11_roll : Cond.instanceMethod yX11_roll ∈ nx_T := nx_t1 946 (by decide +kernel) (by decide +kernel)
theorem wx_X11_roll : Cond.selects RX11 yX11_roll yX11_roll ∈ nx_T := nx_t1 947 (by decide +kernel) (by decide +kernel)
theorem wc_X11_roll : Cond.code yX11_roll cX11_roll 4 (some .int) ∈ nx_T := nx_t1 948 (by decide +kernel) (by decide +kernel)
theorem wi_X10_shortest : Cond.instanceMethod yX10_shortest ∈ nx_T := nx_t1 438 (by decide +kernel) (by decide +kernel)
theorem wx_X10_shortest : Cond.selects RX10 yX10_shortest yX10_shortest ∈ nx_T := nx_t1 439 (by decide +kernel) (by decide +kernel)
theorem wc_X10_shortest : Cond.code yX10_shortest cX10_shortest 6 (some .int) ∈ nx_T := nx_t1 440 (by decide +kernel) (by decide +kernel)
theorem wi_X11_shortest : Cond.instanceMethod yX11_shortest ∈ nx_T := nx_t1 958 (by decide +kernel) (by decide +kernel)
theorem wx_X11_shortest : Cond.selects RX11 yX11_shortest yX11_shortest ∈ nx_T := nx_t1 959 (by decide +kernel) (by decide +kernel)
theorem wc_X11_shortest : Cond.code yX11_shortest cX11_shortest 7 (some .int) ∈ nx_T := nx_t1 960 (by decide +kernel) (by decide +kernel)
theorem wi_X10_way : Cond.instanceMethod yX10_way ∈ nx_T := nx_t1 474 (by decide +kernel) (by decide +kernel)
theorem wx_X10_way : Cond.selects RX10 yX10_way yX10_way ∈ nx_T := nx_t1 475 (by decide +kernel) (by decide +kernel)
theorem wc_X10_way : Cond.code yX10_way cX10_way 7 (some .int) ∈ nx_T := nx_t1 476 (by decide +kernel) (by decide +kernel)
theorem wi_X11_way : Cond.instanceMethod yX11_way ∈ nx_T := nx_t1 987 (by decide +kernel) (by decide +kernel)
theorem wx_X11_way : Cond.selects RX11 yX11_way yX11_way ∈ nx_T := nx_t1 988 (by decide +kernel) (by decide +kernel)
theorem wc_X11_way : Cond.code yX11_way cX11_way 10 (some .int) ∈ nx_T := nx_t1 989 (by decide +kernel) (by decide +kernel)
theorem wi_X10_ways : Cond.instanceMethod yX10_ways ∈ nx_T := nx_t1 487 (by decide +kernel) (by decide +kernel)
theorem wx_X10_ways : Cond.selects RX10 yX10_ways yX10_ways ∈ nx_T := nx_t1 488 (by decide +kernel) (by decide +kernel)
theorem wc_X10_ways : Cond.code yX10_ways cX10_ways 6 (some .long) ∈ nx_T := nx_t1 489 (by decide +kernel) (by decide +kernel)
theorem wi_X11_ways : Cond.instanceMethod yX11_ways ∈ nx_T := nx_t1 983 (by decide +kernel) (by decide +kernel)
theorem wx_X11_ways : Cond.selects RX11 yX11_ways yX11_ways ∈ nx_T := nx_t1 984 (by decide +kernel) (by decide +kernel)
theorem wc_X11_ways : Cond.code yX11_ways cX11_ways 10 (some .long) ∈ nx_T := nx_t1 985 (by decide +kernel) (by decide +kernel)
theorem wi_X10_cheapest : Cond.instanceMethod yX10_cheapest ∈ nx_T := nx_t1 499 (by decide +kernel) (by decide +kernel)
theorem wx_X10_cheapest : Cond.selects RX10 yX10_cheapest yX10_cheapest ∈ nx_T := nx_t1 500 (by decide +kernel) (by decide +kernel)
theorem wc_X10_cheapest : Cond.code yX10_cheapest cX10_cheapest 6 (some .int) ∈ nx_T := nx_t1 501 (by decide +kernel) (by decide +kernel)
theorem wi_X11_cheapest : Cond.instanceMethod yX11_cheapest ∈ nx_T := nx_t1 995 (by decide +kernel) (by decide +kernel)
theorem wx_X11_cheapest : Cond.selects RX11 yX11_cheapest yX11_cheapest ∈ nx_T := nx_t1 996 (by decide +kernel) (by decide +kernel)
theorem wc_X11_cheapest : Cond.code yX11_cheapest cX11_cheapest 10 (some .int) ∈ nx_T := nx_t1 997 (by decide +kernel) (by decide +kernel)
theorem wi_X10_stances : Cond.instanceMethod yX10_stances ∈ nx_T := nx_t1 527 (by decide +kernel) (by decide +kernel)
theorem wx_X10_stances : Cond.selects RX10 yX10_stances yX10_stances ∈ nx_T := nx_t1 528 (by decide +kernel) (by decide +kernel)
theorem wc_X10_stances : Cond.code yX10_stances cX10_stances 4 (some .int) ∈ nx_T := nx_t1 529 (by decide +kernel) (by decide +kernel)
theorem wi_X11_stances : Cond.instanceMethod yX11_stances ∈ nx_T := nx_t1 1003 (by decide +kernel) (by decide +kernel)
theorem wx_X11_stances : Cond.selects RX11 yX11_stances yX11_stances ∈ nx_T := nx_t1 1004 (by decide +kernel) (by decide +kernel)
theorem wc_X11_stances : Cond.code yX11_stances cX11_stances 6 (some .int) ∈ nx_T := nx_t1 1005 (by decide +kernel) (by decide +kernel)
theorem wi_X10_reach : Cond.instanceMethod yX10_reach ∈ nx_T := nx_t1 536 (by decide +kernel) (by decide +kernel)
theorem wx_X10_reach : Cond.selects RX10 yX10_reach yX10_reach ∈ nx_T := nx_t1 537 (by decide +kernel) (by decide +kernel)
theorem wc_X10_reach : Cond.code yX10_reach cX10_reach 3 (some .int) ∈ nx_T := nx_t1 538 (by decide +kernel) (by decide +kernel)
theorem wi_X11_reach : Cond.instanceMethod yX11_reach ∈ nx_T := nx_t1 1007 (by decide +kernel) (by decide +kernel)
theorem wx_X11_reach : Cond.selects RX11 yX11_reach yX11_reach ∈ nx_T := nx_t1 1008 (by decide +kernel) (by decide +kernel)
theorem wc_X11_reach : Cond.code yX11_reach cX11_reach 7 (some .int) ∈ nx_T := nx_t1 1009 (by decide +kernel) (by decide +kernel)
theorem wi_X10_tours : Cond.instanceMethod yX10_tours ∈ nx_T := nx_t1 550 (by decide +kernel) (by decide +kernel)
theorem wx_X10_tours : Cond.selects RX10 yX10_tours yX10_tours ∈ nx_T := nx_t1 551 (by decide +kernel) (by decide +kernel)
theorem wc_X10_tours : Cond.code yX10_tours cX10_tours 5 (some .int) ∈ nx_T := nx_t1 552 (by decide +kernel) (by decide +kernel)
theorem wi_X11_tours : Cond.instanceMethod yX11_tours ∈ nx_T := nx_t1 1011 (by decide +kernel) (by decide +kernel)
theorem wx_X11_tours : Cond.selects RX11 yX11_tours yX11_tours ∈ nx_T := nx_t1 1012 (by decide +kernel) (by decide +kernel)
theorem wc_X11_tours : Cond.code yX11_tours cX11_tours 5 (some .int) ∈ nx_T := nx_t1 1013 (by decide +kernel) (by decide +kernel)
theorem wi_X10_tour : Cond.instanceMethod yX10_tour ∈ nx_T := nx_t1 582 (by decide +kernel) (by decide +kernel)
theorem wx_X10_tour : Cond.selects RX10 yX10_tour yX10_tour ∈ nx_T := nx_t1 583 (by decide +kernel) (by decide +kernel)
theorem wc_X10_tour : Cond.code yX10_tour cX10_tour 6 (some .int) ∈ nx_T := nx_t1 584 (by decide +kernel) (by decide +kernel)
theorem wi_X11_tour : Cond.instanceMethod yX11_tour ∈ nx_T := nx_t1 1031 (by decide +kernel) (by decide +kernel)
theorem wx_X11_tour : Cond.selects RX11 yX11_tour yX11_tour ∈ nx_T := nx_t1 1032 (by decide +kernel) (by decide +kernel)
theorem wc_X11_tour : Cond.code yX11_tour cX11_tour 6 (some .int) ∈ nx_T := nx_t1 1033 (by decide +kernel) (by decide +kernel)
theorem wi_X10_row : Cond.instanceMethod yX10_row ∈ nx_T := nx_t1 590 (by decide +kernel) (by decide +kernel)
theorem wx_X10_row : Cond.selects RX10 yX10_row yX10_row ∈ nx_T := nx_t1 591 (by decide +kernel) (by decide +kernel)
theorem wc_X10_row : Cond.code yX10_row cX10_row 3 (some .int) ∈ nx_T := nx_t1 592 (by decide +kernel) (by decide +kernel)
theorem wi_X11_row : Cond.instanceMethod yX11_row ∈ nx_T := nx_t1 1035 (by decide +kernel) (by decide +kernel)
theorem wx_X11_row : Cond.selects RX11 yX11_row yX11_row ∈ nx_T := nx_t1 1036 (by decide +kernel) (by decide +kernel)
theorem wc_X11_row : Cond.code yX11_row cX11_row 3 (some .int) ∈ nx_T := nx_t1 1037 (by decide +kernel) (by decide +kernel)
theorem wi_X10_clear : Cond.instanceMethod yX10_clear ∈ nx_T := nx_t1 602 (by decide +kernel) (by decide +kernel)
theorem wx_X10_clear : Cond.selects RX10 yX10_clear yX10_clear ∈ nx_T := nx_t1 603 (by decide +kernel) (by decide +kernel)
theorem wc_X10_clear : Cond.code yX10_clear cX10_clear 1 (some .int) ∈ nx_T := nx_t1 604 (by decide +kernel) (by decide +kernel)
theorem wi_X11_clear : Cond.instanceMethod yX11_clear ∈ nx_T := nx_t1 1039 (by decide +kernel) (by decide +kernel)
theorem wx_X11_clear : Cond.selects RX11 yX11_clear yX11_clear ∈ nx_T := nx_t1 1040 (by decide +kernel) (by decide +kernel)
theorem wc_X11_clear : Cond.code yX11_clear cX11_clear 2 (some .int) ∈ nx_T := nx_t1 1041 (by decide +kernel) (by decide +kernel)
theorem wi_X10_starts : Cond.instanceMethod yX10_starts ∈ nx_T := nx_t1 610 (by decide +kernel) (by decide +kernel)
theorem wx_X10_starts : Cond.selects RX10 yX10_starts yX10_starts ∈ nx_T := nx_t1 611 (by decide +kernel) (by decide +kernel)
theorem wc_X10_starts : Cond.code yX10_starts cX10_starts 1 (some .int) ∈ nx_T := nx_t1 612 (by decide +kernel) (by decide +kernel)
theorem wi_X11_starts : Cond.instanceMethod yX11_starts ∈ nx_T := nx_t1 1043 (by decide +kernel) (by decide +kernel)
theorem wx_X11_starts : Cond.selects RX11 yX11_starts yX11_starts ∈ nx_T := nx_t1 1044 (by decide +kernel) (by decide +kernel)
theorem wc_X11_starts : Cond.code yX11_starts cX11_starts 3 (some .int) ∈ nx_T := nx_t1 1045 (by decide +kernel) (by decide +kernel)
theorem wi_X10_start : Cond.instanceMethod yX10_start ∈ nx_T := nx_t1 630 (by decide +kernel) (by decide +kernel)
theorem wx_X10_start : Cond.selects RX10 yX10_start yX10_start ∈ nx_T := nx_t1 631 (by decide +kernel) (by decide +kernel)
theorem wc_X10_start : Cond.code yX10_start cX10_start 2 (some .int) ∈ nx_T := nx_t1 632 (by decide +kernel) (by decide +kernel)
theorem wi_X11_start : Cond.instanceMethod yX11_start ∈ nx_T := nx_t1 1051 (by decide +kernel) (by decide +kernel)
theorem wx_X11_start : Cond.selects RX11 yX11_start yX11_start ∈ nx_T := nx_t1 1052 (by decide +kernel) (by decide +kernel)
theorem wc_X11_start : Cond.code yX11_start cX11_start 4 (some .int) ∈ nx_T := nx_t1 1053 (by decide +kernel) (by decide +kernel)
theorem wi_X10_sure : Cond.instanceMethod yX10_sure ∈ nx_T := nx_t1 638 (by decide +kernel) (by decide +kernel)
theorem wx_X10_sure : Cond.selects RX10 yX10_sure yX10_sure ∈ nx_T := nx_t1 639 (by decide +kernel) (by decide +kernel)
theorem wc_X10_sure : Cond.code yX10_sure cX10_sure 2 (some .int) ∈ nx_T := nx_t1 640 (by decide +kernel) (by decide +kernel)
theorem wi_X11_sure : Cond.instanceMethod yX11_sure ∈ nx_T := nx_t1 1055 (by decide +kernel) (by decide +kernel)
theorem wx_X11_sure : Cond.selects RX11 yX11_sure yX11_sure ∈ nx_T := nx_t1 1056 (by decide +kernel) (by decide +kernel)
theorem wc_X11_sure : Cond.code yX11_sure cX11_sure 7 (some .int) ∈ nx_T := nx_t1 1057 (by decide +kernel) (by decide +kernel)
theorem wi_X10_next : Cond.instanceMethod yX10_next ∈ nx_T := nx_t1 652 (by decide +kernel) (by decide +kernel)
theorem wx_X10_next : Cond.selects RX10 yX10_next yX10_next ∈ nx_T := nx_t1 653 (by decide +kernel) (by decide +kernel)
theorem wc_X10_next : Cond.code yX10_next cX10_next 1 (some .int) ∈ nx_T := nx_t1 654 (by decide +kernel) (by decide +kernel)
theorem wi_X11_next : Cond.instanceMethod yX11_next ∈ nx_T := nx_t1 1059 (by decide +kernel) (by decide +kernel)
theorem wx_X11_next : Cond.selects RX11 yX11_next yX11_next ∈ nx_T := nx_t1 1060 (by decide +kernel) (by decide +kernel)
theorem wc_X11_next : Cond.code yX11_next cX11_next 5 (some .int) ∈ nx_T := nx_t1 1061 (by decide +kernel) (by decide +kernel)
theorem wi_X10_sound : Cond.instanceMethod yX10_sound ∈ nx_T := nx_t1 676 (by decide +kernel) (by decide +kernel)
theorem wx_X10_sound : Cond.selects RX10 yX10_sound yX10_sound ∈ nx_T := nx_t1 677 (by decide +kernel) (by decide +kernel)
theorem wc_X10_sound : Cond.code yX10_sound cX10_sound 2 (some .int) ∈ nx_T := nx_t1 678 (by decide +kernel) (by decide +kernel)
theorem wi_X11_sound : Cond.instanceMethod yX11_sound ∈ nx_T := nx_t1 1067 (by decide +kernel) (by decide +kernel)
theorem wx_X11_sound : Cond.selects RX11 yX11_sound yX11_sound ∈ nx_T := nx_t1 1068 (by decide +kernel) (by decide +kernel)
theorem wc_X11_sound : Cond.code yX11_sound cX11_sound 2 (some .int) ∈ nx_T := nx_t1 1069 (by decide +kernel) (by decide +kernel)
theorem wi_X10_rolls : Cond.instanceMethod yX10_rolls ∈ nx_T := nx_t1 690 (by decide +kernel) (by decide +kernel)
theorem wx_X10_rolls : Cond.selects RX10 yX10_rolls yX10_rolls ∈ nx_T := nx_t1 691 (by decide +kernel) (by decide +kernel)
theorem wc_X10_rolls : Cond.code yX10_rolls cX10_rolls 3 (some .int) ∈ nx_T := nx_t1 692 (by decide +kernel) (by decide +kernel)
theorem wi_X11_rolls : Cond.instanceMethod yX11_rolls ∈ nx_T := nx_t1 1083 (by decide +kernel) (by decide +kernel)
theorem wx_X11_rolls : Cond.selects RX11 yX11_rolls yX11_rolls ∈ nx_T := nx_t1 1084 (by decide +kernel) (by decide +kernel)
theorem wc_X11_rolls : Cond.code yX11_rolls cX11_rolls 4 (some .int) ∈ nx_T := nx_t1 1085 (by decide +kernel) (by decide +kernel)
theorem wi_X10_home : Cond.instanceMethod yX10_home ∈ nx_T := nx_t1 702 (by decide +kernel) (by decide +kernel)
theorem wx_X10_home : Cond.selects RX10 yX10_home yX10_home ∈ nx_T := nx_t1 703 (by decide +kernel) (by decide +kernel)
theorem wc_X10_home : Cond.code yX10_home cX10_home 3 (some .int) ∈ nx_T := nx_t1 704 (by decide +kernel) (by decide +kernel)
theorem wi_X11_home : Cond.instanceMethod yX11_home ∈ nx_T := nx_t1 1095 (by decide +kernel) (by decide +kernel)
theorem wx_X11_home : Cond.selects RX11 yX11_home yX11_home ∈ nx_T := nx_t1 1096 (by decide +kernel) (by decide +kernel)
theorem wc_X11_home : Cond.code yX11_home cX11_home 4 (some .int) ∈ nx_T := nx_t1 1097 (by decide +kernel) (by decide +kernel)
theorem wi_X10_homeWay : Cond.instanceMethod yX10_homeWay ∈ nx_T := nx_t1 723 (by decide +kernel) (by decide +kernel)
theorem wx_X10_homeWay : Cond.selects RX10 yX10_homeWay yX10_homeWay ∈ nx_T := nx_t1 724 (by decide +kernel) (by decide +kernel)
theorem wc_X10_homeWay : Cond.code yX10_homeWay cX10_homeWay 4 (some .int) ∈ nx_T := nx_t1 725 (by decide +kernel) (by decide +kernel)
theorem wi_X11_homeWay : Cond.instanceMethod yX11_homeWay ∈ nx_T := nx_t1 1103 (by decide +kernel) (by decide +kernel)
theorem wx_X11_homeWay : Cond.selects RX11 yX11_homeWay yX11_homeWay ∈ nx_T := nx_t1 1104 (by decide +kernel) (by decide +kernel)
theorem wc_X11_homeWay : Cond.code yX11_homeWay cX11_homeWay 6 (some .int) ∈ nx_T := nx_t1 1105 (by decide +kernel) (by decide +kernel)
theorem wi_X10_homeGroups : Cond.instanceMethod yX10_homeGroups ∈ nx_T := nx_t1 732 (by decide +kernel) (by decide +kernel)
theorem wx_X10_homeGroups : Cond.selects RX10 yX10_homeGroups yX10_homeGroups ∈ nx_T := nx_t1 733 (by decide +kernel) (by decide +kernel)
theorem wc_X10_homeGroups : Cond.code yX10_homeGroups cX10_homeGroups 3 (some .int) ∈ nx_T := nx_t1 734 (by decide +kernel) (by decide +kernel)
theorem wi_X11_homeGroups : Cond.instanceMethod yX11_homeGroups ∈ nx_T := nx_t1 1111 (by decide +kernel) (by decide +kernel)
theorem wx_X11_homeGroups : Cond.selects RX11 yX11_homeGroups yX11_homeGroups ∈ nx_T := nx_t1 1112 (by decide +kernel) (by decide +kernel)
theorem wc_X11_homeGroups : Cond.code yX11_homeGroups cX11_homeGroups 4 (some .int) ∈ nx_T := nx_t1 1113 (by decide +kernel) (by decide +kernel)
theorem wi_X10_whence : Cond.instanceMethod yX10_whence ∈ nx_T := nx_t1 741 (by decide +kernel) (by decide +kernel)
theorem wx_X10_whence : Cond.selects RX10 yX10_whence yX10_whence ∈ nx_T := nx_t1 742 (by decide +kernel) (by decide +kernel)
theorem wc_X10_whence : Cond.code yX10_whence cX10_whence 3 (some .int) ∈ nx_T := nx_t1 743 (by decide +kernel) (by decide +kernel)
theorem wi_X11_whence : Cond.instanceMethod yX11_whence ∈ nx_T := nx_t1 1115 (by decide +kernel) (by decide +kernel)
theorem wx_X11_whence : Cond.selects RX11 yX11_whence yX11_whence ∈ nx_T := nx_t1 1116 (by decide +kernel) (by decide +kernel)
theorem wc_X11_whence : Cond.code yX11_whence cX11_whence 8 (some .int) ∈ nx_T := nx_t1 1117 (by decide +kernel) (by decide +kernel)
theorem wi_X10_must : Cond.instanceMethod yX10_must ∈ nx_T := nx_t1 769 (by decide +kernel) (by decide +kernel)
theorem wx_X10_must : Cond.selects RX10 yX10_must yX10_must ∈ nx_T := nx_t1 770 (by decide +kernel) (by decide +kernel)
theorem wc_X10_must : Cond.code yX10_must cX10_must 4 (some .int) ∈ nx_T := nx_t1 771 (by decide +kernel) (by decide +kernel)
theorem wi_X11_must : Cond.instanceMethod yX11_must ∈ nx_T := nx_t1 1119 (by decide +kernel) (by decide +kernel)
theorem wx_X11_must : Cond.selects RX11 yX11_must yX11_must ∈ nx_T := nx_t1 1120 (by decide +kernel) (by decide +kernel)
theorem wc_X11_must : Cond.code yX11_must cX11_must 6 (some .int) ∈ nx_T := nx_t1 1121 (by decide +kernel) (by decide +kernel)
theorem wi_X10_count : Cond.instanceMethod yX10_count ∈ nx_T := nx_t1 778 (by decide +kernel) (by decide +kernel)
theorem wx_X10_count : Cond.selects RX10 yX10_count yX10_count ∈ nx_T := nx_t1 779 (by decide +kernel) (by decide +kernel)
theorem wc_X10_count : Cond.code yX10_count cX10_count 2 (some .int) ∈ nx_T := nx_t1 780 (by decide +kernel) (by decide +kernel)
theorem wi_X11_count : Cond.instanceMethod yX11_count ∈ nx_T := nx_t1 1123 (by decide +kernel) (by decide +kernel)
theorem wx_X11_count : Cond.selects RX11 yX11_count yX11_count ∈ nx_T := nx_t1 1124 (by decide +kernel) (by decide +kernel)
theorem wc_X11_count : Cond.code yX11_count cX11_count 6 (some .int) ∈ nx_T := nx_t1 1125 (by decide +kernel) (by decide +kernel)
theorem wm_RL_13 : Cond.methodLink RL 13 yX10_board ∈ nx_T := nx_t1 229 (by decide +kernel) (by decide +kernel)
theorem qV_RL_13 : nx_wV RL 13 RX10 yX10_board cX10_board 3 (some .int) 2 := nx_mkV wm_RL_13 wi_X10_board wx_X10_board wn_RX10 wc_X10_board (by decide +kernel)
theorem wm_RL_17 : Cond.methodLink RL 17 yX11_board ∈ nx_T := nx_t1 914 (by decide +kernel) (by decide +kernel)
theorem qV_RL_17 : nx_wV RL 17 RX11 yX11_board cX11_board 4 (some .int) 2 := nx_mkV wm_RL_17 wi_X11_board wx_X11_board wn_RX11 wc_X11_board (by decide +kernel)
theorem wm_RL_18 : Cond.methodLink RL 18 yX10_cell ∈ nx_T := nx_t1 239 (by decide +kernel) (by decide +kernel)
theorem qV_RL_18 : nx_wV RL 18 RX10 yX10_cell cX10_cell 4 (some .int) 3 := nx_mkV wm_RL_18 wi_X10_cell wx_X10_cell wn_RX10 wc_X10_cell (by decide +kernel)
theorem wm_RL_22 : Cond.methodLink RL 22 yX11_cell ∈ nx_T := nx_t1 920 (by decide +kernel) (by decide +kernel)
theorem qV_RL_22 : nx_wV RL 22 RX11 yX11_cell cX11_cell 5 (some .int) 3 := nx_mkV wm_RL_22 wi_X11_cell wx_X11_cell wn_RX11 wc_X11_cell (by decide +kernel)
theorem wm_RL_23 : Cond.methodLink RL 23 yX10_group ∈ nx_T := nx_t1 264 (by decide +kernel) (by decide +kernel)
theorem qV_RL_23 : nx_wV RL 23 RX10 yX10_group cX10_group 3 (some .int) 2 := nx_mkV wm_RL_23 wi_X10_group wx_X10_group wn_RX10 wc_X10_group (by decide +kernel)
theorem wm_RL_27 : Cond.methodLink RL 27 yX11_group ∈ nx_T := nx_t1 933 (by decide +kernel) (by decide +kernel)
theorem qV_RL_27 : nx_wV RL 27 RX11 yX11_group cX11_group 4 (some .int) 2 := nx_mkV wm_RL_27 wi_X11_group wx_X11_group wn_RX11 wc_X11_group (by decide +kernel)
theorem wm_RL_28 : Cond.methodLink RL 28 yX10_open ∈ nx_T := nx_t1 272 (by decide +kernel) (by decide +kernel)
theorem qV_RL_28 : nx_wV RL 28 RX10 yX10_open cX10_open 2 (some .int) 1 := nx_mkV wm_RL_28 wi_X10_open wx_X10_open wn_RX10 wc_X10_open (by decide +kernel)
theorem wm_RL_32 : Cond.methodLink RL 32 yX11_open ∈ nx_T := nx_t1 937 (by decide +kernel) (by decide +kernel)
theorem qV_RL_32 : nx_wV RL 32 RX11 yX11_open cX11_open 2 (some .int) 1 := nx_mkV wm_RL_32 wi_X11_open wx_X11_open wn_RX11 wc_X11_open (by decide +kernel)
theorem wm_RL_33 : Cond.methodLink RL 33 yX10_face ∈ nx_T := nx_t1 287 (by decide +kernel) (by decide +kernel)
theorem qV_RL_33 : nx_wV RL 33 RX10 yX10_face cX10_face 3 (some .int) 2 := nx_mkV wm_RL_33 wi_X10_face wx_X10_face wn_RX10 wc_X10_face (by decide +kernel)
theorem wm_RL_36 : Cond.methodLink RL 36 yX11_face ∈ nx_T := nx_t1 885 (by decide +kernel) (by decide +kernel)
theorem qV_RL_36 : nx_wV RL 36 RX11 yX11_face cX11_face 3 (some .int) 2 := nx_mkV wm_RL_36 wi_X11_face wx_X11_face wn_RX11 wc_X11_face (by decide +kernel)
theorem wm_RL_37 : Cond.methodLink RL 37 yX10_turn ∈ nx_T := nx_t1 308 (by decide +kernel) (by decide +kernel)
theorem qV_RL_37 : nx_wV RL 37 RX10 yX10_turn cX10_turn 3 (some .int) 2 := nx_mkV wm_RL_37 wi_X10_turn wx_X10_turn wn_RX10 wc_X10_turn (by decide +kernel)
theorem wm_RL_40 : Cond.methodLink RL 40 yX11_turn ∈ nx_T := nx_t1 896 (by decide +kernel) (by decide +kernel)
theorem qV_RL_40 : nx_wV RL 40 RX11 yX11_turn cX11_turn 3 (some .int) 2 := nx_mkV wm_RL_40 wi_X11_turn wx_X11_turn wn_RX11 wc_X11_turn (by decide +kernel)
theorem wm_RL_41 : Cond.methodLink RL 41 yX10_stance ∈ nx_T := nx_t1 322 (by decide +kernel) (by decide +kernel)
theorem qV_RL_41 : nx_wV RL 41 RX10 yX10_stance cX10_stance 3 (some .int) 2 := nx_mkV wm_RL_41 wi_X10_stance wx_X10_stance wn_RX10 wc_X10_stance (by decide +kernel)
theorem wm_RL_44 : Cond.methodLink RL 44 yX11_stance ∈ nx_T := nx_t1 904 (by decide +kernel) (by decide +kernel)
theorem qV_RL_44 : nx_wV RL 44 RX11 yX11_stance cX11_stance 3 (some .int) 2 := nx_mkV wm_RL_44 wi_X11_stance wx_X11_stance wn_RX11 wc_X11_stance (by decide +kernel)
theorem wm_RL_45 : Cond.methodLink RL 45 yX10_apart ∈ nx_T := nx_t1 330 (by decide +kernel) (by decide +kernel)
theorem qV_RL_45 : nx_wV RL 45 RX10 yX10_apart cX10_apart 3 (some .int) 2 := nx_mkV wm_RL_45 wi_X10_apart wx_X10_apart wn_RX10 wc_X10_apart (by decide +kernel)
theorem wm_RL_48 : Cond.methodLink RL 48 yX11_apart ∈ nx_T := nx_t1 909 (by decide +kernel) (by decide +kernel)
theorem qV_RL_48 : nx_wV RL 48 RX11 yX11_apart cX11_apart 6 (some .int) 2 := nx_mkV wm_RL_48 wi_X11_apart wx_X11_apart wn_RX11 wc_X11_apart (by decide +kernel)
theorem wm_RL_49 : Cond.methodLink RL 49 yX10_roll ∈ nx_T := nx_t1 427 (by decide +kernel) (by decide +kernel)
theorem qV_RL_49 : nx_wV RL 49 RX10 yX10_roll cX10_roll 4 (some .int) 3 := nx_mkV wm_RL_49 wi_X10_roll wx_X10_roll wn_RX10 wc_X10_roll (by decide +kernel)
theorem wm_RL_52 : Cond.methodLink RL 52 yX11_roll ∈ nx_T := nx_t1 945 (by decide +kernel) (by decide +kernel)
theorem qV_RL_52 : nx_wV RL 52 RX11 yX11_roll cX11_roll 4 (some .int) 3 := nx_mkV wm_RL_52 wi_X11_roll wx_X11_roll wn_RX11 wc_X11_roll (by decide +kernel)
theorem wm_RL_53 : Cond.methodLink RL 53 yX10_shortest ∈ nx_T := nx_t1 437 (by decide +kernel) (by decide +kernel)
theorem qV_RL_53 : nx_wV RL 53 RX10 yX10_shortest cX10_shortest 6 (some .int) 4 := nx_mkV wm_RL_53 wi_X10_shortest wx_X10_shortest wn_RX10 wc_X10_shortest (by decide +kernel)
theorem wm_RL_57 : Cond.methodLink RL 57 yX11_shortest ∈ nx_T := nx_t1 957 (by decide +kernel) (by decide +kernel)
theorem qV_RL_57 : nx_wV RL 57 RX11 yX11_shortest cX11_shortest 7 (some .int) 4 := nx_mkV wm_RL_57 wi_X11_shortest wx_X11_shortest wn_RX11 wc_X11_shortest (by decide +kernel)
theorem wm_RL_58 : Cond.methodLink RL 58 yX10_way ∈ nx_T := nx_t1 473 (by decide +kernel) (by decide +kernel)
theorem qV_RL_58 : nx_wV RL 58 RX10 yX10_way cX10_way 7 (some .int) 5 := nx_mkV wm_RL_58 wi_X10_way wx_X10_way wn_RX10 wc_X10_way (by decide +kernel)
theorem wm_RL_62 : Cond.methodLink RL 62 yX11_way ∈ nx_T := nx_t1 986 (by decide +kernel) (by decide +kernel)
theorem qV_RL_62 : nx_wV RL 62 RX11 yX11_way cX11_way 10 (some .int) 5 := nx_mkV wm_RL_62 wi_X11_way wx_X11_way wn_RX11 wc_X11_way (by decide +kernel)
theorem wm_RL_63 : Cond.methodLink RL 63 yX10_ways ∈ nx_T := nx_t1 486 (by decide +kernel) (by decide +kernel)
theorem qV_RL_63 : nx_wV RL 63 RX10 yX10_ways cX10_ways 6 (some .long) 4 := nx_mkV wm_RL_63 wi_X10_ways wx_X10_ways wn_RX10 wc_X10_ways (by decide +kernel)
theorem wm_RL_67 : Cond.methodLink RL 67 yX11_ways ∈ nx_T := nx_t1 982 (by decide +kernel) (by decide +kernel)
theorem qV_RL_67 : nx_wV RL 67 RX11 yX11_ways cX11_ways 10 (some .long) 4 := nx_mkV wm_RL_67 wi_X11_ways wx_X11_ways wn_RX11 wc_X11_ways (by decide +kernel)
theorem wm_RL_68 : Cond.methodLink RL 68 yX10_cheapest ∈ nx_T := nx_t1 498 (by decide +kernel) (by decide +kernel)
theorem qV_RL_68 : nx_wV RL 68 RX10 yX10_cheapest cX10_cheapest 6 (some .int) 4 := nx_mkV wm_RL_68 wi_X10_cheapest wx_X10_cheapest wn_RX10 wc_X10_cheapest (by decide +kernel)
theorem wm_RL_71 : Cond.methodLink RL 71 yX11_cheapest ∈ nx_T := nx_t1 994 (by decide +kernel) (by decide +kernel)
theorem qV_RL_71 : nx_wV RL 71 RX11 yX11_cheapest cX11_cheapest 10 (some .int) 4 := nx_mkV wm_RL_71 wi_X11_cheapest wx_X11_cheapest wn_RX11 wc_X11_cheapest (by decide +kernel)
theorem wm_RL_72 : Cond.methodLink RL 72 yX10_stances ∈ nx_T := nx_t1 526 (by decide +kernel) (by decide +kernel)
theorem qV_RL_72 : nx_wV RL 72 RX10 yX10_stances cX10_stances 4 (some .int) 3 := nx_mkV wm_RL_72 wi_X10_stances wx_X10_stances wn_RX10 wc_X10_stances (by decide +kernel)
theorem wm_RL_75 : Cond.methodLink RL 75 yX11_stances ∈ nx_T := nx_t1 1002 (by decide +kernel) (by decide +kernel)
theorem qV_RL_75 : nx_wV RL 75 RX11 yX11_stances cX11_stances 6 (some .int) 3 := nx_mkV wm_RL_75 wi_X11_stances wx_X11_stances wn_RX11 wc_X11_stances (by decide +kernel)
theorem wm_RL_76 : Cond.methodLink RL 76 yX10_reach ∈ nx_T := nx_t1 535 (by decide +kernel) (by decide +kernel)
theorem qV_RL_76 : nx_wV RL 76 RX10 yX10_reach cX10_reach 3 (some .int) 2 := nx_mkV wm_RL_76 wi_X10_reach wx_X10_reach wn_RX10 wc_X10_reach (by decide +kernel)
theorem wm_RL_79 : Cond.methodLink RL 79 yX11_reach ∈ nx_T := nx_t1 1006 (by decide +kernel) (by decide +kernel)
theorem qV_RL_79 : nx_wV RL 79 RX11 yX11_reach cX11_reach 7 (some .int) 2 := nx_mkV wm_RL_79 wi_X11_reach wx_X11_reach wn_RX11 wc_X11_reach (by decide +kernel)
theorem wm_RL_80 : Cond.methodLink RL 80 yX10_tours ∈ nx_T := nx_t1 549 (by decide +kernel) (by decide +kernel)
theorem qV_RL_80 : nx_wV RL 80 RX10 yX10_tours cX10_tours 5 (some .int) 3 := nx_mkV wm_RL_80 wi_X10_tours wx_X10_tours wn_RX10 wc_X10_tours (by decide +kernel)
theorem wm_RL_83 : Cond.methodLink RL 83 yX11_tours ∈ nx_T := nx_t1 1010 (by decide +kernel) (by decide +kernel)
theorem qV_RL_83 : nx_wV RL 83 RX11 yX11_tours cX11_tours 5 (some .int) 3 := nx_mkV wm_RL_83 wi_X11_tours wx_X11_tours wn_RX11 wc_X11_tours (by decide +kernel)
theorem wm_RL_84 : Cond.methodLink RL 84 yX10_tour ∈ nx_T := nx_t1 581 (by decide +kernel) (by decide +kernel)
theorem qV_RL_84 : nx_wV RL 84 RX10 yX10_tour cX10_tour 6 (some .int) 4 := nx_mkV wm_RL_84 wi_X10_tour wx_X10_tour wn_RX10 wc_X10_tour (by decide +kernel)
theorem wm_RL_87 : Cond.methodLink RL 87 yX11_tour ∈ nx_T := nx_t1 1030 (by decide +kernel) (by decide +kernel)
theorem qV_RL_87 : nx_wV RL 87 RX11 yX11_tour cX11_tour 6 (some .int) 4 := nx_mkV wm_RL_87 wi_X11_tour wx_X11_tour wn_RX11 wc_X11_tour (by decide +kernel)
theorem wm_RL_88 : Cond.methodLink RL 88 yX10_row ∈ nx_T := nx_t1 589 (by decide +kernel) (by decide +kernel)
theorem qV_RL_88 : nx_wV RL 88 RX10 yX10_row cX10_row 3 (some .int) 2 := nx_mkV wm_RL_88 wi_X10_row wx_X10_row wn_RX10 wc_X10_row (by decide +kernel)
theorem wm_RL_91 : Cond.methodLink RL 91 yX11_row ∈ nx_T := nx_t1 1034 (by decide +kernel) (by decide +kernel)
theorem qV_RL_91 : nx_wV RL 91 RX11 yX11_row cX11_row 3 (some .int) 2 := nx_mkV wm_RL_91 wi_X11_row wx_X11_row wn_RX11 wc_X11_row (by decide +kernel)
theorem wm_RL_92 : Cond.methodLink RL 92 yX10_clear ∈ nx_T := nx_t1 601 (by decide +kernel) (by decide +kernel)
theorem qV_RL_92 : nx_wV RL 92 RX10 yX10_clear cX10_clear 1 (some .int) 0 := nx_mkV wm_RL_92 wi_X10_clear wx_X10_clear wn_RX10 wc_X10_clear (by decide +kernel)
theorem wm_RL_96 : Cond.methodLink RL 96 yX11_clear ∈ nx_T := nx_t1 1038 (by decide +kernel) (by decide +kernel)
theorem qV_RL_96 : nx_wV RL 96 RX11 yX11_clear cX11_clear 2 (some .int) 0 := nx_mkV wm_RL_96 wi_X11_clear wx_X11_clear wn_RX11 wc_X11_clear (by decide +kernel)
theorem wm_RL_97 : Cond.methodLink RL 97 yX10_starts ∈ nx_T := nx_t1 609 (by decide +kernel) (by decide +kernel)
theorem qV_RL_97 : nx_wV RL 97 RX10 yX10_starts cX10_starts 1 (some .int) 0 := nx_mkV wm_RL_97 wi_X10_starts wx_X10_starts wn_RX10 wc_X10_starts (by decide +kernel)
theorem wm_RL_100 : Cond.methodLink RL 100 yX11_starts ∈ nx_T := nx_t1 1042 (by decide +kernel) (by decide +kernel)
theorem qV_RL_100 : nx_wV RL 100 RX11 yX11_starts cX11_starts 3 (some .int) 0 := nx_mkV wm_RL_100 wi_X11_starts wx_X11_starts wn_RX11 wc_X11_starts (by decide +kernel)
theorem wm_RL_101 : Cond.methodLink RL 101 yX10_start ∈ nx_T := nx_t1 629 (by decide +kernel) (by decide +kernel)
theorem qV_RL_101 : nx_wV RL 101 RX10 yX10_start cX10_start 2 (some .int) 1 := nx_mkV wm_RL_101 wi_X10_start wx_X10_start wn_RX10 wc_X10_start (by decide +kernel)
theorem wm_RL_104 : Cond.methodLink RL 104 yX11_start ∈ nx_T := nx_t1 1050 (by decide +kernel) (by decide +kernel)
theorem qV_RL_104 : nx_wV RL 104 RX11 yX11_start cX11_start 4 (some .int) 1 := nx_mkV wm_RL_104 wi_X11_start wx_X11_start wn_RX11 wc_X11_start (by decide +kernel)
theorem wm_RL_105 : Cond.methodLink RL 105 yX10_sure ∈ nx_T := nx_t1 637 (by decide +kernel) (by decide +kernel)
theorem qV_RL_105 : nx_wV RL 105 RX10 yX10_sure cX10_sure 2 (some .int) 1 := nx_mkV wm_RL_105 wi_X10_sure wx_X10_sure wn_RX10 wc_X10_sure (by decide +kernel)
theorem wm_RL_108 : Cond.methodLink RL 108 yX11_sure ∈ nx_T := nx_t1 1054 (by decide +kernel) (by decide +kernel)
theorem qV_RL_108 : nx_wV RL 108 RX11 yX11_sure cX11_sure 7 (some .int) 1 := nx_mkV wm_RL_108 wi_X11_sure wx_X11_sure wn_RX11 wc_X11_sure (by decide +kernel)
theorem wm_RL_109 : Cond.methodLink RL 109 yX10_next ∈ nx_T := nx_t1 651 (by decide +kernel) (by decide +kernel)
theorem qV_RL_109 : nx_wV RL 109 RX10 yX10_next cX10_next 1 (some .int) 0 := nx_mkV wm_RL_109 wi_X10_next wx_X10_next wn_RX10 wc_X10_next (by decide +kernel)
theorem wm_RL_112 : Cond.methodLink RL 112 yX11_next ∈ nx_T := nx_t1 1058 (by decide +kernel) (by decide +kernel)
theorem qV_RL_112 : nx_wV RL 112 RX11 yX11_next cX11_next 5 (some .int) 0 := nx_mkV wm_RL_112 wi_X11_next wx_X11_next wn_RX11 wc_X11_next (by decide +kernel)
theorem wm_RL_113 : Cond.methodLink RL 113 yX10_sound ∈ nx_T := nx_t1 675 (by decide +kernel) (by decide +kernel)
theorem qV_RL_113 : nx_wV RL 113 RX10 yX10_sound cX10_sound 2 (some .int) 1 := nx_mkV wm_RL_113 wi_X10_sound wx_X10_sound wn_RX10 wc_X10_sound (by decide +kernel)
theorem wm_RL_116 : Cond.methodLink RL 116 yX11_sound ∈ nx_T := nx_t1 1066 (by decide +kernel) (by decide +kernel)
theorem qV_RL_116 : nx_wV RL 116 RX11 yX11_sound cX11_sound 2 (some .int) 1 := nx_mkV wm_RL_116 wi_X11_sound wx_X11_sound wn_RX11 wc_X11_sound (by decide +kernel)
theorem wm_RL_117 : Cond.methodLink RL 117 yX10_rolls ∈ nx_T := nx_t1 689 (by decide +kernel) (by decide +kernel)
theorem qV_RL_117 : nx_wV RL 117 RX10 yX10_rolls cX10_rolls 3 (some .int) 2 := nx_mkV wm_RL_117 wi_X10_rolls wx_X10_rolls wn_RX10 wc_X10_rolls (by decide +kernel)
theorem wm_RL_120 : Cond.methodLink RL 120 yX11_rolls ∈ nx_T := nx_t1 1082 (by decide +kernel) (by decide +kernel)
theorem qV_RL_120 : nx_wV RL 120 RX11 yX11_rolls cX11_rolls 4 (some .int) 2 := nx_mkV wm_RL_120 wi_X11_rolls wx_X11_rolls wn_RX11 wc_X11_rolls (by decide +kernel)
theorem wm_RL_121 : Cond.methodLink RL 121 yX10_home ∈ nx_T := nx_t1 701 (by decide +kernel) (by decide +kernel)
theorem qV_RL_121 : nx_wV RL 121 RX10 yX10_home cX10_home 3 (some .int) 2 := nx_mkV wm_RL_121 wi_X10_home wx_X10_home wn_RX10 wc_X10_home (by decide +kernel)
theorem wm_RL_124 : Cond.methodLink RL 124 yX11_home ∈ nx_T := nx_t1 1094 (by decide +kernel) (by decide +kernel)
theorem qV_RL_124 : nx_wV RL 124 RX11 yX11_home cX11_home 4 (some .int) 2 := nx_mkV wm_RL_124 wi_X11_home wx_X11_home wn_RX11 wc_X11_home (by decide +kernel)
theorem wm_RL_125 : Cond.methodLink RL 125 yX10_homeWay ∈ nx_T := nx_t1 722 (by decide +kernel) (by decide +kernel)
theorem qV_RL_125 : nx_wV RL 125 RX10 yX10_homeWay cX10_homeWay 4 (some .int) 3 := nx_mkV wm_RL_125 wi_X10_homeWay wx_X10_homeWay wn_RX10 wc_X10_homeWay (by decide +kernel)
theorem wm_RL_128 : Cond.methodLink RL 128 yX11_homeWay ∈ nx_T := nx_t1 1102 (by decide +kernel) (by decide +kernel)
theorem qV_RL_128 : nx_wV RL 128 RX11 yX11_homeWay cX11_homeWay 6 (some .int) 3 := nx_mkV wm_RL_128 wi_X11_homeWay wx_X11_homeWay wn_RX11 wc_X11_homeWay (by decide +kernel)
theorem wm_RL_129 : Cond.methodLink RL 129 yX10_homeGroups ∈ nx_T := nx_t1 731 (by decide +kernel) (by decide +kernel)
theorem qV_RL_129 : nx_wV RL 129 RX10 yX10_homeGroups cX10_homeGroups 3 (some .int) 2 := nx_mkV wm_RL_129 wi_X10_homeGroups wx_X10_homeGroups wn_RX10 wc_X10_homeGroups (by decide +kernel)
theorem wm_RL_132 : Cond.methodLink RL 132 yX11_homeGroups ∈ nx_T := nx_t1 1110 (by decide +kernel) (by decide +kernel)
theorem qV_RL_132 : nx_wV RL 132 RX11 yX11_homeGroups cX11_homeGroups 4 (some .int) 2 := nx_mkV wm_RL_132 wi_X11_homeGroups wx_X11_homeGroups wn_RX11 wc_X11_homeGroups (by decide +kernel)
theorem wm_RL_133 : Cond.methodLink RL 133 yX10_whence ∈ nx_T := nx_t1 740 (by decide +kernel) (by decide +kernel)
theorem qV_RL_133 : nx_wV RL 133 RX10 yX10_whence cX10_whence 3 (some .int) 2 := nx_mkV wm_RL_133 wi_X10_whence wx_X10_whence wn_RX10 wc_X10_whence (by decide +kernel)
theorem wm_RL_136 : Cond.methodLink RL 136 yX11_whence ∈ nx_T := nx_t1 1114 (by decide +kernel) (by decide +kernel)
theorem qV_RL_136 : nx_wV RL 136 RX11 yX11_whence cX11_whence 8 (some .int) 2 := nx_mkV wm_RL_136 wi_X11_whence wx_X11_whence wn_RX11 wc_X11_whence (by decide +kernel)
theorem wm_RL_137 : Cond.methodLink RL 137 yX10_must ∈ nx_T := nx_t1 768 (by decide +kernel) (by decide +kernel)
theorem qV_RL_137 : nx_wV RL 137 RX10 yX10_must cX10_must 4 (some .int) 3 := nx_mkV wm_RL_137 wi_X10_must wx_X10_must wn_RX10 wc_X10_must (by decide +kernel)
theorem wm_RL_140 : Cond.methodLink RL 140 yX11_must ∈ nx_T := nx_t1 1118 (by decide +kernel) (by decide +kernel)
theorem qV_RL_140 : nx_wV RL 140 RX11 yX11_must cX11_must 6 (some .int) 3 := nx_mkV wm_RL_140 wi_X11_must wx_X11_must wn_RX11 wc_X11_must (by decide +kernel)
theorem wm_RL_141 : Cond.methodLink RL 141 yX10_count ∈ nx_T := nx_t1 777 (by decide +kernel) (by decide +kernel)
theorem qV_RL_141 : nx_wV RL 141 RX10 yX10_count cX10_count 2 (some .int) 1 := nx_mkV wm_RL_141 wi_X10_count wx_X10_count wn_RX10 wc_X10_count (by decide +kernel)
theorem wm_RL_144 : Cond.methodLink RL 144 yX11_count ∈ nx_T := nx_t1 1122 (by decide +kernel) (by decide +kernel)
theorem qV_RL_144 : nx_wV RL 144 RX11 yX11_count cX11_count 6 (some .int) 1 := nx_mkV wm_RL_144 wi_X11_count wx_X11_count wn_RX11 wc_X11_count (by decide +kernel)
section LX
variable {p : Program} {l : Launch} {e : Env} {R : Room} {s : State} {m : MethodId} {args : Array Value} {below : List Frame} {meth : Method} {c : Code} {H : Heap} {locs : List Loc} {Q : State → Prop}
variable {cl sl : Nat} {E : nx_E} {A A1 : Nat → Prop} {ws wo : va_W} {rest st0 : List Value} {pc : Nat} {ls : Array Slot} {av : Array Value}
theorem lx_i {r0 : Int32} (hr : va_Run p l e R s m args below meth c H locs cl sl 0 0 (F0 m pc ls st0) rest (va_Qi (fun v (_ : Unit) => v = r0) (fun _ t => va_P E.1 vwCl ws t.heap) A1 av) A1) (hS : va_S A s.heap H locs) (hA : ∀ q, A1 q → A q) (hO : va_P E.1 vwCl wo H) (hap : ∀ (k : Nat) (q : Nat × va_E), wo[k]? = some q → ¬ A1 q.1) (kk : ∀ (H1 : Heap) (locs1 : List Loc), va_P E.1 vwCl ws H1 → va_P E.1 vwCl wo H1 → va_S A s.heap H1 locs1 → W p l e R s m args below meth c H1 locs1 cl sl Q (F0 m (pc + 3) ls (.int r0 :: rest))) : W p l e R s m args below meth c H locs cl sl Q (F0 m pc ls st0) :=
  va_calli hr hS (fun q _ h => hA q h) hA (fun r u t H1 locs1 ht hvm hp hB hz hk hS1 => by subst hp; rw [ht] at hB; exact kk H1 locs1 hB (nx_keepP hO hk hap) hS1)
theorem lx_wi {S : Type} {wf : S → va_W} {r0 : Int32} {k0 : S} (hr : va_Run p l e R s m args below meth c H locs cl sl 0 0 (F0 m pc ls st0) rest (va_Qi (fun v u => (v, u) = (r0, k0)) (fun u t => va_P E.1 vwCl (wf u) t.heap) A1 av) A1) (hS : va_S A s.heap H locs) (hA : ∀ q, A1 q → A q) (hO : va_P E.1 vwCl wo H) (hap : ∀ (k : Nat) (q : Nat × va_E), wo[k]? = some q → ¬ A1 q.1) (kk : ∀ (H1 : Heap) (locs1 : List Loc), va_P E.1 vwCl (wf k0) H1 → va_P E.1 vwCl wo H1 → va_S A s.heap H1 locs1 → W p l e R s m args below meth c H1 locs1 cl sl Q (F0 m (pc + 3) ls (.int r0 :: rest))) : W p l e R s m args below meth c H locs cl sl Q (F0 m pc ls st0) :=
  va_calli hr hS (fun q _ h => hA q h) hA (fun r u t H1 locs1 ht hvm hp hB hz hk hS1 => by obtain ⟨rfl, rfl⟩ := Prod.mk.inj hp; rw [ht] at hB; exact kk H1 locs1 hB (nx_keepP hO hk hap) hS1)
theorem lx_wl {S : Type} {wf : S → va_W} {r0 : Int64} {k0 : S} (hr : va_Run p l e R s m args below meth c H locs cl sl 0 0 (F0 m pc ls st0) rest (va_Ql (fun v u => (v, u) = (r0, k0)) (fun u t => va_P E.1 vwCl (wf u) t.heap) A1 av) A1) (hS : va_S A s.heap H locs) (hA : ∀ q, A1 q → A q) (hO : va_P E.1 vwCl wo H) (hap : ∀ (k : Nat) (q : Nat × va_E), wo[k]? = some q → ¬ A1 q.1) (kk : ∀ (H1 : Heap) (locs1 : List Loc), va_P E.1 vwCl (wf k0) H1 → va_P E.1 vwCl wo H1 → va_S A s.heap H1 locs1 → W p l e R s m args below meth c H1 locs1 cl sl Q (F0 m (pc + 3) ls (.long r0 :: rest))) : W p l e R s m args below meth c H locs cl sl Q (F0 m pc ls st0) :=
  va_calll hr hS (fun q _ h => hA q h) hA (fun r u t H1 locs1 ht hvm hp hB hz hk hS1 => by obtain ⟨rfl, rfl⟩ := Prod.mk.inj hp; rw [ht] at hB; exact kk H1 locs1 hB (nx_keepP hO hk hap) hS1)
theorem lx_ap {D : va_G} {cs : List vw_C} {a b : Nat → Nat} {n1 n2 : Nat} (h : nx_ad b n2 wo) (hP : va_P D cs wo H) (hab : ∀ i j, i < n1 → j < n2 → a i ≠ b j) : ∀ (k : Nat) (q : Nat × va_E), wo[k]? = some q → ¬ nx_A a n1 H.size q.1 := fun k q hk z => by
  obtain ⟨h1, h2⟩ := nx_ad_at h hk
  rcases z with ⟨i, hi, e⟩ | z
  · exact hab i k hi h1 (by rw [← e, h2])
  · exact absurd (hP k q hk).lt (Nat.not_lt.mpr z)
theorem lx_A {a : Nat → Nat} {n z : Nat} {H0 H : Heap} {locs : List Loc} {A : Nat → Prop} (hS : va_S A H0 H locs) (h : ∀ k, k < n → H0.size ≤ a k) : ∀ q, nx_A a n H.size q → H0.size ≤ q := fun q hq => hq.elim (fun ⟨k, hk, e⟩ => by rw [e]; exact h k hk) (fun z => Nat.le_trans hS.1 z)
end LX
def lw_A (s : State) : Nat → Prop := fun q => s.heap.size ≤ q
def lw_C (E : nx_E) (a a2 : Nat → Nat) (p : Program) (s : State) (m : MethodId) (c : Code) (bq L : Nat) (xs : Nat → Int32) : Prop :=
  nx_C E (lw_A s) p s m c cL_law 4 RL #[Value.ref bq] ∧ va_X bq L xs s s.heap ∧ bq < s.heap.size ∧ nx_inj a 24 ∧ nx_inj a2 18 ∧ (∀ k, k < 24 → s.heap.size ≤ a k) ∧ (∀ k, k < 18 → s.heap.size ≤ a2 k) ∧ (∀ i j, i < 24 → j < 18 → a i ≠ a2 j) ∧ (∀ i j, i < 18 → j < 24 → a2 i ≠ a j)
def lw_K (l : Launch) (e : Env) (E : nx_E) (a a2 : Nat → Nat) (p : Program) (s : State) (m : MethodId) (below : List Frame) (meth : Method) (c : Code) (bq : Nat) (i : Nat) (pc : Nat) : Prop := ∀ (size : Int32) (on : Int32) (kinds : Nat → Int32) (marks : Nat → Int32) (nb : Nat → Int32) (reached : Int32) (dist : Nat → Int32) (lastW : Nat → Int32) (par : Nat → Int32) (ord : Nat → Int32) (paths : Nat → Int64) (costs : Nat → Int32) (wanted : Int32) (tlen : Int32) (onlyF : Int32) (found : Int32) (steps : Nat → Int32) (plen : Int32) (rowW : Nat → Int32) (rowS : Nat → Int32) (tally : Nat → Int32) (wide : Int32) (tall : Int32) (groups : Int32) (tours : Int32) (tourLength : Int32) (rowMany : Int32) (cameBy : Int32) (top : Nat → Int32) (east : Nat → Int32) (south : Nat → Int32) (rolled : Nat → Int32) (off : Nat → Int32) (kind : Nat → Int32) (mark : Nat → Int32) (rolls : Nat → Int32) (many : Nat → Int64) (onward : Nat → Int32) (at_ : Nat → Int32) (goes : Nat → Int32) (firstTour : Nat → Int32) (rowWay : Nat → Int32) (rowSeen : Nat → Int32) (prints : Nat → Int32) (homeward : Nat → Int32), Rl size on kinds marks nb plen rowW rowS wide tall groups rowMany top east south rolled kind mark rowWay rowSeen → ∀ (H : Heap) (locs : List Loc) (ls : Array Slot), va_P E.1 vwCl (cW E a size on kinds marks nb reached dist lastW par ord paths costs wanted tlen onlyF found steps plen rowW rowS tally) H → va_P E.1 vwCl (mW E a2 wide tall groups tours tourLength rowMany cameBy top east south rolled off kind mark rolls many onward at_ goes firstTour rowWay rowSeen prints homeward) H → va_S (lw_A s) s.heap H locs → lv_has ls 4 [(0, .ref bq), (1, .ref (a 0)), (2, .ref (a2 0)), (3, .int (nI i))] → W p l e room_1 s m #[Value.ref bq] below meth c H locs 42 6641 (lw_Z below #[Value.ref bq] s) (F0 m pc ls [])
theorem lw_ix {i k L : Nat} (h : i + 6 ≤ L) (hk : k < 6) (hL : L ≤ 3072) {z : Int32} (hz : z = nI k) : vp_in (nI i + z) L := by rw [hz, nI_add]; exact vp_in_nI (by omega) (by omega)
set_option maxHeartbeats 4000000 in
set_option maxRecDepth 100000 in
theorem lc_0 {l : Launch} {e : Env} {E : nx_E} {a a2 : Nat → Nat} {p : Program} {s : State} {m : MethodId} {below : List Frame} {meth : Method} {c : Code} {bq L : Nat} {xs : Nat → Int32} (N : Nat) (hN : NB ≤ N) (hL : L ≤ 3072) (hC : lw_C E a a2 p s m c bq L xs) {i : Nat} (hi : i + 6 ≤ L) (hK : lw_K l e E a a2 p s m below meth c bq i 1288) : lw_K l e E a a2 p s m below meth c bq i 172 := by
  obtain ⟨X, hX, hbl, hI, hI2, ha, ha2, hab, hba⟩ := hC
  obtain ⟨⟨hx, hb, hml, hown, hts⟩, hKK, hSt, hNz⟩ := id X
  have hbA : ¬ lw_A s bq := Nat.not_le.mpr hbl
  intro size on kinds marks nb reached dist lastW par ord paths costs wanted tlen onlyF found steps plen rowW rowS tally wide tall groups tours tourLength rowMany cameBy top east south rolled off kind mark rolls many onward at_ goes firstTour rowWay rowSeen prints homeward hR H locs ls hPc hPm hS hl
  refine lv_aload_n hx hb dL_law_172 rfl (lv_at hl 1 rfl) ?_
  refine lv_aload_n hx hb dL_law_173 rfl (lv_at hl 0 rfl) ?_
  refine lv_iload_n hx hb dL_law_174 rfl (lv_at hl 3 rfl) ?_
  refine lv_iconst (v := 1) hx hb dL_law_175 (by decide) ?_
  refine lv_iadd hx hb dL_law_176 ?_
  refine va_sld hx hb hX hbl hbA hS (lw_ix hi (k := 1) (by decide) hL rfl) dL_law_177 ?_
  refine lv_aload_n hx hb dL_law_178 rfl (lv_at hl 0 rfl) ?_
  refine lv_iload_n hx hb dL_law_179 rfl (lv_at hl 3 rfl) ?_
  refine lv_iconst (v := 2) hx hb dL_law_180 (by decide) ?_
  refine lv_iadd hx hb dL_law_181 ?_
  refine va_sld hx hb hX hbl hbA hS (lw_ix hi (k := 2) (by decide) hL rfl) dL_law_182 ?_
  obtain ⟨r, oc, om, h1, h2, hR2⟩ := s_board N hN hR ((xs (nI i + 1).toNatClampNeg)) ((xs (nI i + 2).toNatClampNeg))
  refine lx_wi (nx_runV (As := [.int (xs (nI i + 1).toNatClampNeg), .int (xs (nI i + 2).toNatClampNeg)]) (rest := []) (b := a 0) X hS hPc (c_X10_board l N E H.size a size on kinds marks nb reached dist lastW par ord paths costs wanted tlen onlyF found steps plen rowW rowS tally ((xs (nI i + 1).toNatClampNeg)) ((xs (nI i + 2).toNatClampNeg)) hI _ h1) (fun q hq => lx_A (z := 0) hS ha q hq) qV_RL_13 ⟨rfl, rfl⟩ ⟨Nat.le_of_ble_eq_true rfl, Nat.le_of_ble_eq_true rfl⟩ ⟨Nat.le_of_ble_eq_true rfl, Nat.le_of_ble_eq_true rfl⟩ 0 rfl rfl rfl rfl hl.1 (Nat.le_of_ble_eq_true rfl) dL_law_183) hS (fun q hq => lx_A (z := 0) hS ha q hq) hPm (lx_ap mW_ad hPm hab) (fun H locs hPc hPm hS => ?_)
  have hPc : va_P E.1 vwCl (cW E a oc.1 oc.2.1 oc.2.2.1 oc.2.2.2.1 oc.2.2.2.2 reached dist lastW par ord paths costs wanted tlen onlyF found steps plen rowW rowS tally) H := hPc
  refine lv_aload_n hx hb dL_law_186 rfl (lv_at hl 2 rfl) ?_
  refine lv_aload_n hx hb dL_law_187 rfl (lv_at hl 0 rfl) ?_
  refine lv_iload_n hx hb dL_law_188 rfl (lv_at hl 3 rfl) ?_
  refine lv_iconst (v := 1) hx hb dL_law_189 (by decide) ?_
  refine lv_iadd hx hb dL_law_190 ?_
  refine va_sld hx hb hX hbl hbA hS (lw_ix hi (k := 1) (by decide) hL rfl) dL_law_191 ?_
  refine lv_aload_n hx hb dL_law_192 rfl (lv_at hl 0 rfl) ?_
  refine lv_iload_n hx hb dL_law_193 rfl (lv_at hl 3 rfl) ?_
  refine lv_iconst (v := 2) hx hb dL_law_194 (by decide) ?_
  refine lv_iadd hx hb dL_law_195 ?_
  refine va_sld hx hb hX hbl hbA hS (lw_ix hi (k := 2) (by decide) hL rfl) dL_law_196 ?_
  refine lx_wi (nx_runV (As := [.int (xs (nI i + 1).toNatClampNeg), .int (xs (nI i + 2).toNatClampNeg)]) (rest := [.int r]) (b := a2 0) X hS hPm (c_X11_board l N E H.size a2 wide tall groups tours tourLength rowMany cameBy top east south rolled off kind mark rolls many onward at_ goes firstTour rowWay rowSeen prints homeward ((xs (nI i + 1).toNatClampNeg)) ((xs (nI i + 2).toNatClampNeg)) hI2 _ h2) (fun q hq => lx_A (z := 0) hS ha2 q hq) qV_RL_17 ⟨rfl, rfl⟩ ⟨Nat.le_of_ble_eq_true rfl, Nat.le_of_ble_eq_true rfl⟩ ⟨Nat.le_of_ble_eq_true rfl, Nat.le_of_ble_eq_true rfl⟩ 0 rfl rfl rfl rfl hl.1 (Nat.le_of_ble_eq_true rfl) dL_law_197) hS (fun q hq => lx_A (z := 0) hS ha2 q hq) hPc (lx_ap cW_ad hPc hba) (fun H locs hPm hPc hS => ?_)
  have hPm : va_P E.1 vwCl (mW E a2 om.1 om.2.1 om.2.2.1 tours tourLength rowMany cameBy top east south rolled off om.2.2.2.1 om.2.2.2.2 rolls many onward at_ goes firstTour rowWay rowSeen prints homeward) H := hPm
  refine lv_icmp_eq (tgt := 1288) hx hb dL_law_200 (by decide) (fun hc => ?_) (fun hc => absurd rfl hc)
  exact hK _ _ _ _ _ _ _ _ _ _ _ _ _ _ _ _ _ _ _ _ _ _ _ _ _ _ _ _ _ _ _ _ _ _ _ _ _ _ _ _ _ _ _ _ _ hR2 H locs ls hPc hPm hS hl
set_option maxHeartbeats 4000000 in
set_option maxRecDepth 100000 in
theorem lc_1 {l : Launch} {e : Env} {E : nx_E} {a a2 : Nat → Nat} {p : Program} {s : State} {m : MethodId} {below : List Frame} {meth : Method} {c : Code} {bq L : Nat} {xs : Nat → Int32} (N : Nat) (hN : NB ≤ N) (hL : L ≤ 3072) (hC : lw_C E a a2 p s m c bq L xs) {i : Nat} (hi : i + 6 ≤ L) (hK : lw_K l e E a a2 p s m below meth c bq i 1288) : lw_K l e E a a2 p s m below meth c bq i 205 := by
  obtain ⟨X, hX, hbl, hI, hI2, ha, ha2, hab, hba⟩ := hC
  obtain ⟨⟨hx, hb, hml, hown, hts⟩, hKK, hSt, hNz⟩ := id X
  have hbA : ¬ lw_A s bq := Nat.not_le.mpr hbl
  intro size on kinds marks nb reached dist lastW par ord paths costs wanted tlen onlyF found steps plen rowW rowS tally wide tall groups tours tourLength rowMany cameBy top east south rolled off kind mark rolls many onward at_ goes firstTour rowWay rowSeen prints homeward hR H locs ls hPc hPm hS hl
  refine lv_aload_n hx hb dL_law_205 rfl (lv_at hl 1 rfl) ?_
  refine lv_aload_n hx hb dL_law_206 rfl (lv_at hl 0 rfl) ?_
  refine lv_iload_n hx hb dL_law_207 rfl (lv_at hl 3 rfl) ?_
  refine lv_iconst (v := 1) hx hb dL_law_208 (by decide) ?_
  refine lv_iadd hx hb dL_law_209 ?_
  refine va_sld hx hb hX hbl hbA hS (lw_ix hi (k := 1) (by decide) hL rfl) dL_law_210 ?_
  refine lv_aload_n hx hb dL_law_211 rfl (lv_at hl 0 rfl) ?_
  refine lv_iload_n hx hb dL_law_212 rfl (lv_at hl 3 rfl) ?_
  refine lv_iconst (v := 2) hx hb dL_law_213 (by decide) ?_
  refine lv_iadd hx hb dL_law_214 ?_
  refine va_sld hx hb hX hbl hbA hS (lw_ix hi (k := 2) (by decide) hL rfl) dL_law_215 ?_
  refine lv_aload_n hx hb dL_law_216 rfl (lv_at hl 0 rfl) ?_
  refine lv_iload_n hx hb dL_law_217 rfl (lv_at hl 3 rfl) ?_
  refine lv_iconst (v := 3) hx hb dL_law_218 (by decide) ?_
  refine lv_iadd hx hb dL_law_219 ?_
  refine va_sld hx hb hX hbl hbA hS (lw_ix hi (k := 3) (by decide) hL rfl) dL_law_220 ?_
  obtain ⟨r, oc, om, h1, h2, hR2⟩ := s_cell N hN hR ((xs (nI i + 1).toNatClampNeg)) ((xs (nI i + 2).toNatClampNeg)) ((xs (nI i + 3).toNatClampNeg))
  refine lx_wi (nx_runV (As := [.int (xs (nI i + 1).toNatClampNeg), .int (xs (nI i + 2).toNatClampNeg), .int (xs (nI i + 3).toNatClampNeg)]) (rest := []) (b := a 0) X hS hPc (c_X10_cell l E H.size a size on kinds marks nb reached dist lastW par ord paths costs wanted tlen onlyF found steps plen rowW rowS tally ((xs (nI i + 1).toNatClampNeg)) ((xs (nI i + 2).toNatClampNeg)) ((xs (nI i + 3).toNatClampNeg)) hI _ h1) (fun q hq => lx_A (z := 0) hS ha q hq) qV_RL_18 ⟨rfl, rfl⟩ ⟨Nat.le_of_ble_eq_true rfl, Nat.le_of_ble_eq_true rfl⟩ ⟨Nat.le_of_ble_eq_true rfl, Nat.le_of_ble_eq_true rfl⟩ 0 rfl rfl rfl rfl hl.1 (Nat.le_of_ble_eq_true rfl) dL_law_221) hS (fun q hq => lx_A (z := 0) hS ha q hq) hPm (lx_ap mW_ad hPm hab) (fun H locs hPc hPm hS => ?_)
  have hPc : va_P E.1 vwCl (cW E a size on oc.1 oc.2 nb reached dist lastW par ord paths costs wanted tlen onlyF found steps plen rowW rowS tally) H := hPc
  refine lv_aload_n hx hb dL_law_224 rfl (lv_at hl 2 rfl) ?_
  refine lv_aload_n hx hb dL_law_225 rfl (lv_at hl 0 rfl) ?_
  refine lv_iload_n hx hb dL_law_226 rfl (lv_at hl 3 rfl) ?_
  refine lv_iconst (v := 1) hx hb dL_law_227 (by decide) ?_
  refine lv_iadd hx hb dL_law_228 ?_
  refine va_sld hx hb hX hbl hbA hS (lw_ix hi (k := 1) (by decide) hL rfl) dL_law_229 ?_
  refine lv_aload_n hx hb dL_law_230 rfl (lv_at hl 0 rfl) ?_
  refine lv_iload_n hx hb dL_law_231 rfl (lv_at hl 3 rfl) ?_
  refine lv_iconst (v := 2) hx hb dL_law_232 (by decide) ?_
  refine lv_iadd hx hb dL_law_233 ?_
  refine va_sld hx hb hX hbl hbA hS (lw_ix hi (k := 2) (by decide) hL rfl) dL_law_234 ?_
  refine lv_aload_n hx hb dL_law_235 rfl (lv_at hl 0 rfl) ?_
  refine lv_iload_n hx hb dL_law_236 rfl (lv_at hl 3 rfl) ?_
  refine lv_iconst (v := 3) hx hb dL_law_237 (by decide) ?_
  refine lv_iadd hx hb dL_law_238 ?_
  refine va_sld hx hb hX hbl hbA hS (lw_ix hi (k := 3) (by decide) hL rfl) dL_law_239 ?_
  refine lx_wi (nx_runV (As := [.int (xs (nI i + 1).toNatClampNeg), .int (xs (nI i + 2).toNatClampNeg), .int (xs (nI i + 3).toNatClampNeg)]) (rest := [.int r]) (b := a2 0) X hS hPm (c_X11_cell l E H.size a2 wide tall groups tours tourLength rowMany cameBy top east south rolled off kind mark rolls many onward at_ goes firstTour rowWay rowSeen prints homeward ((xs (nI i + 1).toNatClampNeg)) ((xs (nI i + 2).toNatClampNeg)) ((xs (nI i + 3).toNatClampNeg)) hI2 _ h2) (fun q hq => lx_A (z := 0) hS ha2 q hq) qV_RL_22 ⟨rfl, rfl⟩ ⟨Nat.le_of_ble_eq_true rfl, Nat.le_of_ble_eq_true rfl⟩ ⟨Nat.le_of_ble_eq_true rfl, Nat.le_of_ble_eq_true rfl⟩ 0 rfl rfl rfl rfl hl.1 (Nat.le_of_ble_eq_true rfl) dL_law_240) hS (fun q hq => lx_A (z := 0) hS ha2 q hq) hPc (lx_ap cW_ad hPc hba) (fun H locs hPm hPc hS => ?_)
  have hPm : va_P E.1 vwCl (mW E a2 wide tall groups tours tourLength rowMany cameBy top east south rolled off om.1 om.2 rolls many onward at_ goes firstTour rowWay rowSeen prints homeward) H := hPm
  refine lv_icmp_eq (tgt := 1288) hx hb dL_law_243 (by decide) (fun hc => ?_) (fun hc => absurd rfl hc)
  exact hK _ _ _ _ _ _ _ _ _ _ _ _ _ _ _ _ _ _ _ _ _ _ _ _ _ _ _ _ _ _ _ _ _ _ _ _ _ _ _ _ _ _ _ _ _ hR2 H locs ls hPc hPm hS hl
set_option maxHeartbeats 4000000 in
set_option maxRecDepth 100000 in
theorem lc_2 {l : Launch} {e : Env} {E : nx_E} {a a2 : Nat → Nat} {p : Program} {s : State} {m : MethodId} {below : List Frame} {meth : Method} {c : Code} {bq L : Nat} {xs : Nat → Int32} (N : Nat) (hN : NB ≤ N) (hL : L ≤ 3072) (hC : lw_C E a a2 p s m c bq L xs) {i : Nat} (hi : i + 6 ≤ L) (hK : lw_K l e E a a2 p s m below meth c bq i 1288) : lw_K l e E a a2 p s m below meth c bq i 248 := by
  obtain ⟨X, hX, hbl, hI, hI2, ha, ha2, hab, hba⟩ := hC
  obtain ⟨⟨hx, hb, hml, hown, hts⟩, hKK, hSt, hNz⟩ := id X
  have hbA : ¬ lw_A s bq := Nat.not_le.mpr hbl
  intro size on kinds marks nb reached dist lastW par ord paths costs wanted tlen onlyF found steps plen rowW rowS tally wide tall groups tours tourLength rowMany cameBy top east south rolled off kind mark rolls many onward at_ goes firstTour rowWay rowSeen prints homeward hR H locs ls hPc hPm hS hl
  refine lv_aload_n hx hb dL_law_248 rfl (lv_at hl 1 rfl) ?_
  refine lv_aload_n hx hb dL_law_249 rfl (lv_at hl 0 rfl) ?_
  refine lv_iload_n hx hb dL_law_250 rfl (lv_at hl 3 rfl) ?_
  refine lv_iconst (v := 1) hx hb dL_law_251 (by decide) ?_
  refine lv_iadd hx hb dL_law_252 ?_
  refine va_sld hx hb hX hbl hbA hS (lw_ix hi (k := 1) (by decide) hL rfl) dL_law_253 ?_
  refine lv_aload_n hx hb dL_law_254 rfl (lv_at hl 0 rfl) ?_
  refine lv_iload_n hx hb dL_law_255 rfl (lv_at hl 3 rfl) ?_
  refine lv_iconst (v := 2) hx hb dL_law_256 (by decide) ?_
  refine lv_iadd hx hb dL_law_257 ?_
  refine va_sld hx hb hX hbl hbA hS (lw_ix hi (k := 2) (by decide) hL rfl) dL_law_258 ?_
  refine lv_if_eq (tgt := 266) hx hb dL_law_259 (by decide) (fun hc => ?_) (fun hc => ?_)
  · have hq := hc
    refine lv_iconst (v := 0) hx hb dL_law_266 (by decide) ?_
    obtain ⟨r, oc, om, h1, h2, hR2⟩ := s_group N hN hR ((xs (nI i + 1).toNatClampNeg)) 0 (Or.inl rfl)
    refine lx_wi (nx_runV (As := [.int (xs (nI i + 1).toNatClampNeg), .int 0]) (rest := []) (b := a 0) X hS hPc (c_X10_group l E H.size a size on kinds marks nb reached dist lastW par ord paths costs wanted tlen onlyF found steps plen rowW rowS tally ((xs (nI i + 1).toNatClampNeg)) 0 hI _ h1) (fun q hq => lx_A (z := 0) hS ha q hq) qV_RL_23 ⟨rfl, rfl⟩ ⟨Nat.le_of_ble_eq_true rfl, Nat.le_of_ble_eq_true rfl⟩ ⟨Nat.le_of_ble_eq_true rfl, Nat.le_of_ble_eq_true rfl⟩ 0 rfl rfl rfl rfl hl.1 (Nat.le_of_ble_eq_true rfl) dL_law_267) hS (fun q hq => lx_A (z := 0) hS ha q hq) hPm (lx_ap mW_ad hPm hab) (fun H locs hPc hPm hS => ?_)
    have hPc : va_P E.1 vwCl (cW E a size oc kinds marks nb reached dist lastW par ord paths costs wanted tlen onlyF found steps plen rowW rowS tally) H := hPc
    refine lv_aload_n hx hb dL_law_270 rfl (lv_at hl 2 rfl) ?_
    refine lv_aload_n hx hb dL_law_271 rfl (lv_at hl 0 rfl) ?_
    refine lv_iload_n hx hb dL_law_272 rfl (lv_at hl 3 rfl) ?_
    refine lv_iconst (v := 1) hx hb dL_law_273 (by decide) ?_
    refine lv_iadd hx hb dL_law_274 ?_
    refine va_sld hx hb hX hbl hbA hS (lw_ix hi (k := 1) (by decide) hL rfl) dL_law_275 ?_
    refine lv_aload_n hx hb dL_law_276 rfl (lv_at hl 0 rfl) ?_
    refine lv_iload_n hx hb dL_law_277 rfl (lv_at hl 3 rfl) ?_
    refine lv_iconst (v := 2) hx hb dL_law_278 (by decide) ?_
    refine lv_iadd hx hb dL_law_279 ?_
    refine va_sld hx hb hX hbl hbA hS (lw_ix hi (k := 2) (by decide) hL rfl) dL_law_280 ?_
    refine lv_if_eq (tgt := 288) hx hb dL_law_281 (by decide) (fun hc => ?_) (fun hc => ?_)
    · have hq := hc
      refine lv_iconst (v := 0) hx hb dL_law_288 (by decide) ?_
      refine lx_wi (nx_runV (As := [.int (xs (nI i + 1).toNatClampNeg), .int 0]) (rest := [.int r]) (b := a2 0) X hS hPm (c_X11_group l E H.size a2 wide tall groups tours tourLength rowMany cameBy top east south rolled off kind mark rolls many onward at_ goes firstTour rowWay rowSeen prints homeward ((xs (nI i + 1).toNatClampNeg)) 0 hI2 _ h2) (fun q hq => lx_A (z := 0) hS ha2 q hq) qV_RL_27 ⟨rfl, rfl⟩ ⟨Nat.le_of_ble_eq_true rfl, Nat.le_of_ble_eq_true rfl⟩ ⟨Nat.le_of_ble_eq_true rfl, Nat.le_of_ble_eq_true rfl⟩ 0 rfl rfl rfl rfl hl.1 (Nat.le_of_ble_eq_true rfl) dL_law_289) hS (fun q hq => lx_A (z := 0) hS ha2 q hq) hPc (lx_ap cW_ad hPc hba) (fun H locs hPm hPc hS => ?_)
      have hPm : va_P E.1 vwCl (mW E a2 wide tall om tours tourLength rowMany cameBy top east south rolled off kind mark rolls many onward at_ goes firstTour rowWay rowSeen prints homeward) H := hPm
      refine lv_icmp_eq (tgt := 1288) hx hb dL_law_292 (by decide) (fun hc => ?_) (fun hc => absurd rfl hc)
      exact hK _ _ _ _ _ _ _ _ _ _ _ _ _ _ _ _ _ _ _ _ _ _ _ _ _ _ _ _ _ _ _ _ _ _ _ _ _ _ _ _ _ _ _ _ _ hR2 H locs ls hPc hPm hS hl
    · exact absurd hq hc
  · have hq := hc
    refine lv_iconst (v := 1) hx hb dL_law_262 (by decide) ?_
    refine lv_goto (tgt := 267) hx hb dL_law_263 (by decide) ?_
    obtain ⟨r, oc, om, h1, h2, hR2⟩ := s_group N hN hR ((xs (nI i + 1).toNatClampNeg)) 1 (Or.inr rfl)
    refine lx_wi (nx_runV (As := [.int (xs (nI i + 1).toNatClampNeg), .int 1]) (rest := []) (b := a 0) X hS hPc (c_X10_group l E H.size a size on kinds marks nb reached dist lastW par ord paths costs wanted tlen onlyF found steps plen rowW rowS tally ((xs (nI i + 1).toNatClampNeg)) 1 hI _ h1) (fun q hq => lx_A (z := 0) hS ha q hq) qV_RL_23 ⟨rfl, rfl⟩ ⟨Nat.le_of_ble_eq_true rfl, Nat.le_of_ble_eq_true rfl⟩ ⟨Nat.le_of_ble_eq_true rfl, Nat.le_of_ble_eq_true rfl⟩ 0 rfl rfl rfl rfl hl.1 (Nat.le_of_ble_eq_true rfl) dL_law_267) hS (fun q hq => lx_A (z := 0) hS ha q hq) hPm (lx_ap mW_ad hPm hab) (fun H locs hPc hPm hS => ?_)
    have hPc : va_P E.1 vwCl (cW E a size oc kinds marks nb reached dist lastW par ord paths costs wanted tlen onlyF found steps plen rowW rowS tally) H := hPc
    refine lv_aload_n hx hb dL_law_270 rfl (lv_at hl 2 rfl) ?_
    refine lv_aload_n hx hb dL_law_271 rfl (lv_at hl 0 rfl) ?_
    refine lv_iload_n hx hb dL_law_272 rfl (lv_at hl 3 rfl) ?_
    refine lv_iconst (v := 1) hx hb dL_law_273 (by decide) ?_
    refine lv_iadd hx hb dL_law_274 ?_
    refine va_sld hx hb hX hbl hbA hS (lw_ix hi (k := 1) (by decide) hL rfl) dL_law_275 ?_
    refine lv_aload_n hx hb dL_law_276 rfl (lv_at hl 0 rfl) ?_
    refine lv_iload_n hx hb dL_law_277 rfl (lv_at hl 3 rfl) ?_
    refine lv_iconst (v := 2) hx hb dL_law_278 (by decide) ?_
    refine lv_iadd hx hb dL_law_279 ?_
    refine va_sld hx hb hX hbl hbA hS (lw_ix hi (k := 2) (by decide) hL rfl) dL_law_280 ?_
    refine lv_if_eq (tgt := 288) hx hb dL_law_281 (by decide) (fun hc => ?_) (fun hc => ?_)
    · exact absurd hc hq
    · have hq := hc
      refine lv_iconst (v := 1) hx hb dL_law_284 (by decide) ?_
      refine lv_goto (tgt := 289) hx hb dL_law_285 (by decide) ?_
      refine lx_wi (nx_runV (As := [.int (xs (nI i + 1).toNatClampNeg), .int 1]) (rest := [.int r]) (b := a2 0) X hS hPm (c_X11_group l E H.size a2 wide tall groups tours tourLength rowMany cameBy top east south rolled off kind mark rolls many onward at_ goes firstTour rowWay rowSeen prints homeward ((xs (nI i + 1).toNatClampNeg)) 1 hI2 _ h2) (fun q hq => lx_A (z := 0) hS ha2 q hq) qV_RL_27 ⟨rfl, rfl⟩ ⟨Nat.le_of_ble_eq_true rfl, Nat.le_of_ble_eq_true rfl⟩ ⟨Nat.le_of_ble_eq_true rfl, Nat.le_of_ble_eq_true rfl⟩ 0 rfl rfl rfl rfl hl.1 (Nat.le_of_ble_eq_true rfl) dL_law_289) hS (fun q hq => lx_A (z := 0) hS ha2 q hq) hPc (lx_ap cW_ad hPc hba) (fun H locs hPm hPc hS => ?_)
      have hPm : va_P E.1 vwCl (mW E a2 wide tall om tours tourLength rowMany cameBy top east south rolled off kind mark rolls many onward at_ goes firstTour rowWay rowSeen prints homeward) H := hPm
      refine lv_icmp_eq (tgt := 1288) hx hb dL_law_292 (by decide) (fun hc => ?_) (fun hc => absurd rfl hc)
      exact hK _ _ _ _ _ _ _ _ _ _ _ _ _ _ _ _ _ _ _ _ _ _ _ _ _ _ _ _ _ _ _ _ _ _ _ _ _ _ _ _ _ _ _ _ _ hR2 H locs ls hPc hPm hS hl
set_option maxHeartbeats 4000000 in
set_option maxRecDepth 100000 in
theorem lc_3 {l : Launch} {e : Env} {E : nx_E} {a a2 : Nat → Nat} {p : Program} {s : State} {m : MethodId} {below : List Frame} {meth : Method} {c : Code} {bq L : Nat} {xs : Nat → Int32} (N : Nat) (hN : NB ≤ N) (hL : L ≤ 3072) (hC : lw_C E a a2 p s m c bq L xs) {i : Nat} (hi : i + 6 ≤ L) (hK : lw_K l e E a a2 p s m below meth c bq i 1288) : lw_K l e E a a2 p s m below meth c bq i 297 := by
  obtain ⟨X, hX, hbl, hI, hI2, ha, ha2, hab, hba⟩ := hC
  obtain ⟨⟨hx, hb, hml, hown, hts⟩, hKK, hSt, hNz⟩ := id X
  have hbA : ¬ lw_A s bq := Nat.not_le.mpr hbl
  intro size on kinds marks nb reached dist lastW par ord paths costs wanted tlen onlyF found steps plen rowW rowS tally wide tall groups tours tourLength rowMany cameBy top east south rolled off kind mark rolls many onward at_ goes firstTour rowWay rowSeen prints homeward hR H locs ls hPc hPm hS hl
  refine lv_aload_n hx hb dL_law_297 rfl (lv_at hl 1 rfl) ?_
  refine lv_aload_n hx hb dL_law_298 rfl (lv_at hl 0 rfl) ?_
  refine lv_iload_n hx hb dL_law_299 rfl (lv_at hl 3 rfl) ?_
  refine lv_iconst (v := 1) hx hb dL_law_300 (by decide) ?_
  refine lv_iadd hx hb dL_law_301 ?_
  refine va_sld hx hb hX hbl hbA hS (lw_ix hi (k := 1) (by decide) hL rfl) dL_law_302 ?_
  obtain ⟨r, h1, h2, hR2⟩ := s_open N hN hR ((xs (nI i + 1).toNatClampNeg))
  refine lx_i (nx_runV (As := [.int (xs (nI i + 1).toNatClampNeg)]) (rest := []) (b := a 0) X hS hPc (c_X10_open l E H.size a size on kinds marks nb reached dist lastW par ord paths costs wanted tlen onlyF found steps plen rowW rowS tally ((xs (nI i + 1).toNatClampNeg)) _ h1) nx_FA qV_RL_28 ⟨rfl, rfl⟩ ⟨Nat.le_of_ble_eq_true rfl, Nat.le_of_ble_eq_true rfl⟩ ⟨Nat.le_of_ble_eq_true rfl, Nat.le_of_ble_eq_true rfl⟩ 0 rfl rfl rfl rfl hl.1 (Nat.le_of_ble_eq_true rfl) dL_law_303) hS nx_FA hPm (fun _ _ _ z => z) (fun H locs hPc hPm hS => ?_)
  refine lv_aload_n hx hb dL_law_306 rfl (lv_at hl 2 rfl) ?_
  refine lv_aload_n hx hb dL_law_307 rfl (lv_at hl 0 rfl) ?_
  refine lv_iload_n hx hb dL_law_308 rfl (lv_at hl 3 rfl) ?_
  refine lv_iconst (v := 1) hx hb dL_law_309 (by decide) ?_
  refine lv_iadd hx hb dL_law_310 ?_
  refine va_sld hx hb hX hbl hbA hS (lw_ix hi (k := 1) (by decide) hL rfl) dL_law_311 ?_
  refine lx_i (nx_runV (As := [.int (xs (nI i + 1).toNatClampNeg)]) (rest := [.int r]) (b := a2 0) X hS hPm (c_X11_open l E H.size a2 wide tall groups tours tourLength rowMany cameBy top east south rolled off kind mark rolls many onward at_ goes firstTour rowWay rowSeen prints homeward ((xs (nI i + 1).toNatClampNeg)) _ h2) nx_FA qV_RL_32 ⟨rfl, rfl⟩ ⟨Nat.le_of_ble_eq_true rfl, Nat.le_of_ble_eq_true rfl⟩ ⟨Nat.le_of_ble_eq_true rfl, Nat.le_of_ble_eq_true rfl⟩ 0 rfl rfl rfl rfl hl.1 (Nat.le_of_ble_eq_true rfl) dL_law_312) hS nx_FA hPc (fun _ _ _ z => z) (fun H locs hPm hPc hS => ?_)
  refine lv_icmp_eq (tgt := 1288) hx hb dL_law_315 (by decide) (fun hc => ?_) (fun hc => absurd rfl hc)
  exact hK _ _ _ _ _ _ _ _ _ _ _ _ _ _ _ _ _ _ _ _ _ _ _ _ _ _ _ _ _ _ _ _ _ _ _ _ _ _ _ _ _ _ _ _ _ hR2 H locs ls hPc hPm hS hl
set_option maxHeartbeats 4000000 in
set_option maxRecDepth 100000 in
theorem lc_4 {l : Launch} {e : Env} {E : nx_E} {a a2 : Nat → Nat} {p : Program} {s : State} {m : MethodId} {below : List Frame} {meth : Method} {c : Code} {bq L : Nat} {xs : Nat → Int32} (N : Nat) (hN : NB ≤ N) (hL : L ≤ 3072) (hC : lw_C E a a2 p s m c bq L xs) {i : Nat} (hi : i + 6 ≤ L) (hK : lw_K l e E a a2 p s m below meth c bq i 1288) : lw_K l e E a a2 p s m below meth c bq i 320 := by
  obtain ⟨X, hX, hbl, hI, hI2, ha, ha2, hab, hba⟩ := hC
  obtain ⟨⟨hx, hb, hml, hown, hts⟩, hKK, hSt, hNz⟩ := id X
  have hbA : ¬ lw_A s bq := Nat.not_le.mpr hbl
  intro size on kinds marks nb reached dist lastW par ord paths costs wanted tlen onlyF found steps plen rowW rowS tally wide tall groups tours tourLength rowMany cameBy top east south rolled off kind mark rolls many onward at_ goes firstTour rowWay rowSeen prints homeward hR H locs ls hPc hPm hS hl
  refine lv_aload_n hx hb dL_law_320 rfl (lv_at hl 1 rfl) ?_
  refine lv_aload_n hx hb dL_law_321 rfl (lv_at hl 0 rfl) ?_
  refine lv_iload_n hx hb dL_law_322 rfl (lv_at hl 3 rfl) ?_
  refine lv_iconst (v := 1) hx hb dL_law_323 (by decide) ?_
  refine lv_iadd hx hb dL_law_324 ?_
  refine va_sld hx hb hX hbl hbA hS (lw_ix hi (k := 1) (by decide) hL rfl) dL_law_325 ?_
  refine lv_aload_n hx hb dL_law_326 rfl (lv_at hl 0 rfl) ?_
  refine lv_iload_n hx hb dL_law_327 rfl (lv_at hl 3 rfl) ?_
  refine lv_iconst (v := 2) hx hb dL_law_328 (by decide) ?_
  refine lv_iadd hx hb dL_law_329 ?_
  refine va_sld hx hb hX hbl hbA hS (lw_ix hi (k := 2) (by decide) hL rfl) dL_law_330 ?_
  obtain ⟨r, h1, h2, hR2⟩ := s_face N hN hR ((xs (nI i + 1).toNatClampNeg)) ((xs (nI i + 2).toNatClampNeg))
  refine lx_i (nx_runV (As := [.int (xs (nI i + 1).toNatClampNeg), .int (xs (nI i + 2).toNatClampNeg)]) (rest := []) (b := a 0) X hS hPc (c_X10_face l E H.size a size on kinds marks nb reached dist lastW par ord paths costs wanted tlen onlyF found steps plen rowW rowS tally ((xs (nI i + 1).toNatClampNeg)) ((xs (nI i + 2).toNatClampNeg)) _ h1) nx_FA qV_RL_33 ⟨rfl, rfl⟩ ⟨Nat.le_of_ble_eq_true rfl, Nat.le_of_ble_eq_true rfl⟩ ⟨Nat.le_of_ble_eq_true rfl, Nat.le_of_ble_eq_true rfl⟩ 0 rfl rfl rfl rfl hl.1 (Nat.le_of_ble_eq_true rfl) dL_law_331) hS nx_FA hPm (fun _ _ _ z => z) (fun H locs hPc hPm hS => ?_)
  refine lv_aload_n hx hb dL_law_334 rfl (lv_at hl 2 rfl) ?_
  refine lv_aload_n hx hb dL_law_335 rfl (lv_at hl 0 rfl) ?_
  refine lv_iload_n hx hb dL_law_336 rfl (lv_at hl 3 rfl) ?_
  refine lv_iconst (v := 1) hx hb dL_law_337 (by decide) ?_
  refine lv_iadd hx hb dL_law_338 ?_
  refine va_sld hx hb hX hbl hbA hS (lw_ix hi (k := 1) (by decide) hL rfl) dL_law_339 ?_
  refine lv_aload_n hx hb dL_law_340 rfl (lv_at hl 0 rfl) ?_
  refine lv_iload_n hx hb dL_law_341 rfl (lv_at hl 3 rfl) ?_
  refine lv_iconst (v := 2) hx hb dL_law_342 (by decide) ?_
  refine lv_iadd hx hb dL_law_343 ?_
  refine va_sld hx hb hX hbl hbA hS (lw_ix hi (k := 2) (by decide) hL rfl) dL_law_344 ?_
  refine lx_i (nx_runV (As := [.int (xs (nI i + 1).toNatClampNeg), .int (xs (nI i + 2).toNatClampNeg)]) (rest := [.int r]) (b := a2 0) X hS hPm (c_X11_face l E H.size a2 wide tall groups tours tourLength rowMany cameBy top east south rolled off kind mark rolls many onward at_ goes firstTour rowWay rowSeen prints homeward ((xs (nI i + 1).toNatClampNeg)) ((xs (nI i + 2).toNatClampNeg)) _ h2) nx_FA qV_RL_36 ⟨rfl, rfl⟩ ⟨Nat.le_of_ble_eq_true rfl, Nat.le_of_ble_eq_true rfl⟩ ⟨Nat.le_of_ble_eq_true rfl, Nat.le_of_ble_eq_true rfl⟩ 0 rfl rfl rfl rfl hl.1 (Nat.le_of_ble_eq_true rfl) dL_law_345) hS nx_FA hPc (fun _ _ _ z => z) (fun H locs hPm hPc hS => ?_)
  refine lv_icmp_eq (tgt := 1288) hx hb dL_law_348 (by decide) (fun hc => ?_) (fun hc => absurd rfl hc)
  exact hK _ _ _ _ _ _ _ _ _ _ _ _ _ _ _ _ _ _ _ _ _ _ _ _ _ _ _ _ _ _ _ _ _ _ _ _ _ _ _ _ _ _ _ _ _ hR2 H locs ls hPc hPm hS hl
set_option maxHeartbeats 4000000 in
set_option maxRecDepth 100000 in
theorem lc_5 {l : Launch} {e : Env} {E : nx_E} {a a2 : Nat → Nat} {p : Program} {s : State} {m : MethodId} {below : List Frame} {meth : Method} {c : Code} {bq L : Nat} {xs : Nat → Int32} (N : Nat) (hN : NB ≤ N) (hL : L ≤ 3072) (hC : lw_C E a a2 p s m c bq L xs) {i : Nat} (hi : i + 6 ≤ L) (hK : lw_K l e E a a2 p s m below meth c bq i 1288) : lw_K l e E a a2 p s m below meth c bq i 353 := by
  obtain ⟨X, hX, hbl, hI, hI2, ha, ha2, hab, hba⟩ := hC
  obtain ⟨⟨hx, hb, hml, hown, hts⟩, hKK, hSt, hNz⟩ := id X
  have hbA : ¬ lw_A s bq := Nat.not_le.mpr hbl
  intro size on kinds marks nb reached dist lastW par ord paths costs wanted tlen onlyF found steps plen rowW rowS tally wide tall groups tours tourLength rowMany cameBy top east south rolled off kind mark rolls many onward at_ goes firstTour rowWay rowSeen prints homeward hR H locs ls hPc hPm hS hl
  refine lv_aload_n hx hb dL_law_353 rfl (lv_at hl 1 rfl) ?_
  refine lv_aload_n hx hb dL_law_354 rfl (lv_at hl 0 rfl) ?_
  refine lv_iload_n hx hb dL_law_355 rfl (lv_at hl 3 rfl) ?_
  refine lv_iconst (v := 1) hx hb dL_law_356 (by decide) ?_
  refine lv_iadd hx hb dL_law_357 ?_
  refine va_sld hx hb hX hbl hbA hS (lw_ix hi (k := 1) (by decide) hL rfl) dL_law_358 ?_
  refine lv_aload_n hx hb dL_law_359 rfl (lv_at hl 0 rfl) ?_
  refine lv_iload_n hx hb dL_law_360 rfl (lv_at hl 3 rfl) ?_
  refine lv_iconst (v := 2) hx hb dL_law_361 (by decide) ?_
  refine lv_iadd hx hb dL_law_362 ?_
  refine va_sld hx hb hX hbl hbA hS (lw_ix hi (k := 2) (by decide) hL rfl) dL_law_363 ?_
  obtain ⟨r, h1, h2, hR2⟩ := s_turn N hN hR ((xs (nI i + 1).toNatClampNeg)) ((xs (nI i + 2).toNatClampNeg))
  refine lx_i (nx_runV (As := [.int (xs (nI i + 1).toNatClampNeg), .int (xs (nI i + 2).toNatClampNeg)]) (rest := []) (b := a 0) X hS hPc (c_X10_turn l E H.size a size on kinds marks nb reached dist lastW par ord paths costs wanted tlen onlyF found steps plen rowW rowS tally ((xs (nI i + 1).toNatClampNeg)) ((xs (nI i + 2).toNatClampNeg)) _ h1) nx_FA qV_RL_37 ⟨rfl, rfl⟩ ⟨Nat.le_of_ble_eq_true rfl, Nat.le_of_ble_eq_true rfl⟩ ⟨Nat.le_of_ble_eq_true rfl, Nat.le_of_ble_eq_true rfl⟩ 0 rfl rfl rfl rfl hl.1 (Nat.le_of_ble_eq_true rfl) dL_law_364) hS nx_FA hPm (fun _ _ _ z => z) (fun H locs hPc hPm hS => ?_)
  refine lv_aload_n hx hb dL_law_367 rfl (lv_at hl 2 rfl) ?_
  refine lv_aload_n hx hb dL_law_368 rfl (lv_at hl 0 rfl) ?_
  refine lv_iload_n hx hb dL_law_369 rfl (lv_at hl 3 rfl) ?_
  refine lv_iconst (v := 1) hx hb dL_law_370 (by decide) ?_
  refine lv_iadd hx hb dL_law_371 ?_
  refine va_sld hx hb hX hbl hbA hS (lw_ix hi (k := 1) (by decide) hL rfl) dL_law_372 ?_
  refine lv_aload_n hx hb dL_law_373 rfl (lv_at hl 0 rfl) ?_
  refine lv_iload_n hx hb dL_law_374 rfl (lv_at hl 3 rfl) ?_
  refine lv_iconst (v := 2) hx hb dL_law_375 (by decide) ?_
  refine lv_iadd hx hb dL_law_376 ?_
  refine va_sld hx hb hX hbl hbA hS (lw_ix hi (k := 2) (by decide) hL rfl) dL_law_377 ?_
  refine lx_i (nx_runV (As := [.int (xs (nI i + 1).toNatClampNeg), .int (xs (nI i + 2).toNatClampNeg)]) (rest := [.int r]) (b := a2 0) X hS hPm (c_X11_turn l E H.size a2 wide tall groups tours tourLength rowMany cameBy top east south rolled off kind mark rolls many onward at_ goes firstTour rowWay rowSeen prints homeward ((xs (nI i + 1).toNatClampNeg)) ((xs (nI i + 2).toNatClampNeg)) _ h2) nx_FA qV_RL_40 ⟨rfl, rfl⟩ ⟨Nat.le_of_ble_eq_true rfl, Nat.le_of_ble_eq_true rfl⟩ ⟨Nat.le_of_ble_eq_true rfl, Nat.le_of_ble_eq_true rfl⟩ 0 rfl rfl rfl rfl hl.1 (Nat.le_of_ble_eq_true rfl) dL_law_378) hS nx_FA hPc (fun _ _ _ z => z) (fun H locs hPm hPc hS => ?_)
  refine lv_icmp_eq (tgt := 1288) hx hb dL_law_381 (by decide) (fun hc => ?_) (fun hc => absurd rfl hc)
  exact hK _ _ _ _ _ _ _ _ _ _ _ _ _ _ _ _ _ _ _ _ _ _ _ _ _ _ _ _ _ _ _ _ _ _ _ _ _ _ _ _ _ _ _ _ _ hR2 H locs ls hPc hPm hS hl
set_option maxHeartbeats 4000000 in
set_option maxRecDepth 100000 in
theorem lc_6 {l : Launch} {e : Env} {E : nx_E} {a a2 : Nat → Nat} {p : Program} {s : State} {m : MethodId} {below : List Frame} {meth : Method} {c : Code} {bq L : Nat} {xs : Nat → Int32} (N : Nat) (hN : NB ≤ N) (hL : L ≤ 3072) (hC : lw_C E a a2 p s m c bq L xs) {i : Nat} (hi : i + 6 ≤ L) (hK : lw_K l e E a a2 p s m below meth c bq i 1288) : lw_K l e E a a2 p s m below meth c bq i 386 := by
  obtain ⟨X, hX, hbl, hI, hI2, ha, ha2, hab, hba⟩ := hC
  obtain ⟨⟨hx, hb, hml, hown, hts⟩, hKK, hSt, hNz⟩ := id X
  have hbA : ¬ lw_A s bq := Nat.not_le.mpr hbl
  intro size on kinds marks nb reached dist lastW par ord paths costs wanted tlen onlyF found steps plen rowW rowS tally wide tall groups tours tourLength rowMany cameBy top east south rolled off kind mark rolls many onward at_ goes firstTour rowWay rowSeen prints homeward hR H locs ls hPc hPm hS hl
  refine lv_aload_n hx hb dL_law_386 rfl (lv_at hl 1 rfl) ?_
  refine lv_aload_n hx hb dL_law_387 rfl (lv_at hl 0 rfl) ?_
  refine lv_iload_n hx hb dL_law_388 rfl (lv_at hl 3 rfl) ?_
  refine lv_iconst (v := 1) hx hb dL_law_389 (by decide) ?_
  refine lv_iadd hx hb dL_law_390 ?_
  refine va_sld hx hb hX hbl hbA hS (lw_ix hi (k := 1) (by decide) hL rfl) dL_law_391 ?_
  refine lv_aload_n hx hb dL_law_392 rfl (lv_at hl 0 rfl) ?_
  refine lv_iload_n hx hb dL_law_393 rfl (lv_at hl 3 rfl) ?_
  refine lv_iconst (v := 2) hx hb dL_law_394 (by decide) ?_
  refine lv_iadd hx hb dL_law_395 ?_
  refine va_sld hx hb hX hbl hbA hS (lw_ix hi (k := 2) (by decide) hL rfl) dL_law_396 ?_
  obtain ⟨r, h1, h2, hR2⟩ := s_stance N hN hR ((xs (nI i + 1).toNatClampNeg)) ((xs (nI i + 2).toNatClampNeg))
  refine lx_i (nx_runV (As := [.int (xs (nI i + 1).toNatClampNeg), .int (xs (nI i + 2).toNatClampNeg)]) (rest := []) (b := a 0) X hS hPc (c_X10_stance l E H.size a size on kinds marks nb reached dist lastW par ord paths costs wanted tlen onlyF found steps plen rowW rowS tally ((xs (nI i + 1).toNatClampNeg)) ((xs (nI i + 2).toNatClampNeg)) _ h1) nx_FA qV_RL_41 ⟨rfl, rfl⟩ ⟨Nat.le_of_ble_eq_true rfl, Nat.le_of_ble_eq_true rfl⟩ ⟨Nat.le_of_ble_eq_true rfl, Nat.le_of_ble_eq_true rfl⟩ 0 rfl rfl rfl rfl hl.1 (Nat.le_of_ble_eq_true rfl) dL_law_397) hS nx_FA hPm (fun _ _ _ z => z) (fun H locs hPc hPm hS => ?_)
  refine lv_aload_n hx hb dL_law_400 rfl (lv_at hl 2 rfl) ?_
  refine lv_aload_n hx hb dL_law_401 rfl (lv_at hl 0 rfl) ?_
  refine lv_iload_n hx hb dL_law_402 rfl (lv_at hl 3 rfl) ?_
  refine lv_iconst (v := 1) hx hb dL_law_403 (by decide) ?_
  refine lv_iadd hx hb dL_law_404 ?_
  refine va_sld hx hb hX hbl hbA hS (lw_ix hi (k := 1) (by decide) hL rfl) dL_law_405 ?_
  refine lv_aload_n hx hb dL_law_406 rfl (lv_at hl 0 rfl) ?_
  refine lv_iload_n hx hb dL_law_407 rfl (lv_at hl 3 rfl) ?_
  refine lv_iconst (v := 2) hx hb dL_law_408 (by decide) ?_
  refine lv_iadd hx hb dL_law_409 ?_
  refine va_sld hx hb hX hbl hbA hS (lw_ix hi (k := 2) (by decide) hL rfl) dL_law_410 ?_
  refine lx_i (nx_runV (As := [.int (xs (nI i + 1).toNatClampNeg), .int (xs (nI i + 2).toNatClampNeg)]) (rest := [.int r]) (b := a2 0) X hS hPm (c_X11_stance l N E H.size a2 wide tall groups tours tourLength rowMany cameBy top east south rolled off kind mark rolls many onward at_ goes firstTour rowWay rowSeen prints homeward ((xs (nI i + 1).toNatClampNeg)) ((xs (nI i + 2).toNatClampNeg)) _ h2) nx_FA qV_RL_44 ⟨rfl, rfl⟩ ⟨Nat.le_of_ble_eq_true rfl, Nat.le_of_ble_eq_true rfl⟩ ⟨Nat.le_of_ble_eq_true rfl, Nat.le_of_ble_eq_true rfl⟩ 0 rfl rfl rfl rfl hl.1 (Nat.le_of_ble_eq_true rfl) dL_law_411) hS nx_FA hPc (fun _ _ _ z => z) (fun H locs hPm hPc hS => ?_)
  refine lv_icmp_eq (tgt := 1288) hx hb dL_law_414 (by decide) (fun hc => ?_) (fun hc => absurd rfl hc)
  exact hK _ _ _ _ _ _ _ _ _ _ _ _ _ _ _ _ _ _ _ _ _ _ _ _ _ _ _ _ _ _ _ _ _ _ _ _ _ _ _ _ _ _ _ _ _ hR2 H locs ls hPc hPm hS hl
set_option maxHeartbeats 4000000 in
set_option maxRecDepth 100000 in
theorem lc_7 {l : Launch} {e : Env} {E : nx_E} {a a2 : Nat → Nat} {p : Program} {s : State} {m : MethodId} {below : List Frame} {meth : Method} {c : Code} {bq L : Nat} {xs : Nat → Int32} (N : Nat) (hN : NB ≤ N) (hL : L ≤ 3072) (hC : lw_C E a a2 p s m c bq L xs) {i : Nat} (hi : i + 6 ≤ L) (hK : lw_K l e E a a2 p s m below meth c bq i 1288) : lw_K l e E a a2 p s m below meth c bq i 419 := by
  obtain ⟨X, hX, hbl, hI, hI2, ha, ha2, hab, hba⟩ := hC
  obtain ⟨⟨hx, hb, hml, hown, hts⟩, hKK, hSt, hNz⟩ := id X
  have hbA : ¬ lw_A s bq := Nat.not_le.mpr hbl
  intro size on kinds marks nb reached dist lastW par ord paths costs wanted tlen onlyF found steps plen rowW rowS tally wide tall groups tours tourLength rowMany cameBy top east south rolled off kind mark rolls many onward at_ goes firstTour rowWay rowSeen prints homeward hR H locs ls hPc hPm hS hl
  refine lv_aload_n hx hb dL_law_419 rfl (lv_at hl 1 rfl) ?_
  refine lv_aload_n hx hb dL_law_420 rfl (lv_at hl 0 rfl) ?_
  refine lv_iload_n hx hb dL_law_421 rfl (lv_at hl 3 rfl) ?_
  refine lv_iconst (v := 1) hx hb dL_law_422 (by decide) ?_
  refine lv_iadd hx hb dL_law_423 ?_
  refine va_sld hx hb hX hbl hbA hS (lw_ix hi (k := 1) (by decide) hL rfl) dL_law_424 ?_
  refine lv_aload_n hx hb dL_law_425 rfl (lv_at hl 0 rfl) ?_
  refine lv_iload_n hx hb dL_law_426 rfl (lv_at hl 3 rfl) ?_
  refine lv_iconst (v := 2) hx hb dL_law_427 (by decide) ?_
  refine lv_iadd hx hb dL_law_428 ?_
  refine va_sld hx hb hX hbl hbA hS (lw_ix hi (k := 2) (by decide) hL rfl) dL_law_429 ?_
  obtain ⟨r, oc, om, h1, h2, hR2⟩ := s_apart N hN hR ((xs (nI i + 1).toNatClampNeg)) ((xs (nI i + 2).toNatClampNeg))
  refine lx_wi (nx_runV (As := [.int (xs (nI i + 1).toNatClampNeg), .int (xs (nI i + 2).toNatClampNeg)]) (rest := []) (b := a 0) X hS hPc (c_X10_apart l N E H.size a size on kinds marks nb reached dist lastW par ord paths costs wanted tlen onlyF found steps plen rowW rowS tally ((xs (nI i + 1).toNatClampNeg)) ((xs (nI i + 2).toNatClampNeg)) hI _ h1) (fun q hq => lx_A (z := 0) hS ha q hq) qV_RL_45 ⟨rfl, rfl⟩ ⟨Nat.le_of_ble_eq_true rfl, Nat.le_of_ble_eq_true rfl⟩ ⟨Nat.le_of_ble_eq_true rfl, Nat.le_of_ble_eq_true rfl⟩ 0 rfl rfl rfl rfl hl.1 (Nat.le_of_ble_eq_true rfl) dL_law_430) hS (fun q hq => lx_A (z := 0) hS ha q hq) hPm (lx_ap mW_ad hPm hab) (fun H locs hPc hPm hS => ?_)
  have hPc : va_P E.1 vwCl (cW E a size on kinds marks nb oc.1 oc.2.1 oc.2.2.1 oc.2.2.2.1 oc.2.2.2.2.1 oc.2.2.2.2.2 costs wanted tlen onlyF found steps plen rowW rowS tally) H := hPc
  refine lv_aload_n hx hb dL_law_433 rfl (lv_at hl 2 rfl) ?_
  refine lv_aload_n hx hb dL_law_434 rfl (lv_at hl 0 rfl) ?_
  refine lv_iload_n hx hb dL_law_435 rfl (lv_at hl 3 rfl) ?_
  refine lv_iconst (v := 1) hx hb dL_law_436 (by decide) ?_
  refine lv_iadd hx hb dL_law_437 ?_
  refine va_sld hx hb hX hbl hbA hS (lw_ix hi (k := 1) (by decide) hL rfl) dL_law_438 ?_
  refine lv_aload_n hx hb dL_law_439 rfl (lv_at hl 0 rfl) ?_
  refine lv_iload_n hx hb dL_law_440 rfl (lv_at hl 3 rfl) ?_
  refine lv_iconst (v := 2) hx hb dL_law_441 (by decide) ?_
  refine lv_iadd hx hb dL_law_442 ?_
  refine va_sld hx hb hX hbl hbA hS (lw_ix hi (k := 2) (by decide) hL rfl) dL_law_443 ?_
  refine lx_wi (nx_runV (As := [.int (xs (nI i + 1).toNatClampNeg), .int (xs (nI i + 2).toNatClampNeg)]) (rest := [.int r]) (b := a2 0) X hS hPm (c_X11_apart l N E H.size a2 wide tall groups tours tourLength rowMany cameBy top east south rolled off kind mark rolls many onward at_ goes firstTour rowWay rowSeen prints homeward ((xs (nI i + 1).toNatClampNeg)) ((xs (nI i + 2).toNatClampNeg)) hI2 _ h2) (fun q hq => lx_A (z := 0) hS ha2 q hq) qV_RL_48 ⟨rfl, rfl⟩ ⟨Nat.le_of_ble_eq_true rfl, Nat.le_of_ble_eq_true rfl⟩ ⟨Nat.le_of_ble_eq_true rfl, Nat.le_of_ble_eq_true rfl⟩ 0 rfl rfl rfl rfl hl.1 (Nat.le_of_ble_eq_true rfl) dL_law_444) hS (fun q hq => lx_A (z := 0) hS ha2 q hq) hPc (lx_ap cW_ad hPc hba) (fun H locs hPm hPc hS => ?_)
  have hPm : va_P E.1 vwCl (mW E a2 wide tall groups tours tourLength rowMany cameBy top east south rolled om kind mark rolls many onward at_ goes firstTour rowWay rowSeen prints homeward) H := hPm
  refine lv_icmp_eq (tgt := 1288) hx hb dL_law_447 (by decide) (fun hc => ?_) (fun hc => absurd rfl hc)
  exact hK _ _ _ _ _ _ _ _ _ _ _ _ _ _ _ _ _ _ _ _ _ _ _ _ _ _ _ _ _ _ _ _ _ _ _ _ _ _ _ _ _ _ _ _ _ hR2 H locs ls hPc hPm hS hl
set_option maxHeartbeats 4000000 in
set_option maxRecDepth 100000 in
theorem lc_8 {l : Launch} {e : Env} {E : nx_E} {a a2 : Nat → Nat} {p : Program} {s : State} {m : MethodId} {below : List Frame} {meth : Method} {c : Code} {bq L : Nat} {xs : Nat → Int32} (N : Nat) (hN : NB ≤ N) (hL : L ≤ 3072) (hC : lw_C E a a2 p s m c bq L xs) {i : Nat} (hi : i + 6 ≤ L) (hK : lw_K l e E a a2 p s m below meth c bq i 1288) : lw_K l e E a a2 p s m below meth c bq i 452 := by
  obtain ⟨X, hX, hbl, hI, hI2, ha, ha2, hab, hba⟩ := hC
  obtain ⟨⟨hx, hb, hml, hown, hts⟩, hKK, hSt, hNz⟩ := id X
  have hbA : ¬ lw_A s bq := Nat.not_le.mpr hbl
  intro size on kinds marks nb reached dist lastW par ord paths costs wanted tlen onlyF found steps plen rowW rowS tally wide tall groups tours tourLength rowMany cameBy top east south rolled off kind mark rolls many onward at_ goes firstTour rowWay rowSeen prints homeward hR H locs ls hPc hPm hS hl
  refine lv_aload_n hx hb dL_law_452 rfl (lv_at hl 1 rfl) ?_
  refine lv_aload_n hx hb dL_law_453 rfl (lv_at hl 0 rfl) ?_
  refine lv_iload_n hx hb dL_law_454 rfl (lv_at hl 3 rfl) ?_
  refine lv_iconst (v := 1) hx hb dL_law_455 (by decide) ?_
  refine lv_iadd hx hb dL_law_456 ?_
  refine va_sld hx hb hX hbl hbA hS (lw_ix hi (k := 1) (by decide) hL rfl) dL_law_457 ?_
  refine lv_aload_n hx hb dL_law_458 rfl (lv_at hl 0 rfl) ?_
  refine lv_iload_n hx hb dL_law_459 rfl (lv_at hl 3 rfl) ?_
  refine lv_iconst (v := 2) hx hb dL_law_460 (by decide) ?_
  refine lv_iadd hx hb dL_law_461 ?_
  refine va_sld hx hb hX hbl hbA hS (lw_ix hi (k := 2) (by decide) hL rfl) dL_law_462 ?_
  refine lv_aload_n hx hb dL_law_463 rfl (lv_at hl 0 rfl) ?_
  refine lv_iload_n hx hb dL_law_464 rfl (lv_at hl 3 rfl) ?_
  refine lv_iconst (v := 3) hx hb dL_law_465 (by decide) ?_
  refine lv_iadd hx hb dL_law_466 ?_
  refine va_sld hx hb hX hbl hbA hS (lw_ix hi (k := 3) (by decide) hL rfl) dL_law_467 ?_
  obtain ⟨r, h1, h2, hR2⟩ := s_roll N hN hR ((xs (nI i + 1).toNatClampNeg)) ((xs (nI i + 2).toNatClampNeg)) ((xs (nI i + 3).toNatClampNeg))
  refine lx_i (nx_runV (As := [.int (xs (nI i + 1).toNatClampNeg), .int (xs (nI i + 2).toNatClampNeg), .int (xs (nI i + 3).toNatClampNeg)]) (rest := []) (b := a 0) X hS hPc (c_X10_roll l E H.size a size on kinds marks nb reached dist lastW par ord paths costs wanted tlen onlyF found steps plen rowW rowS tally ((xs (nI i + 1).toNatClampNeg)) ((xs (nI i + 2).toNatClampNeg)) ((xs (nI i + 3).toNatClampNeg)) _ h1) nx_FA qV_RL_49 ⟨rfl, rfl⟩ ⟨Nat.le_of_ble_eq_true rfl, Nat.le_of_ble_eq_true rfl⟩ ⟨Nat.le_of_ble_eq_true rfl, Nat.le_of_ble_eq_true rfl⟩ 0 rfl rfl rfl rfl hl.1 (Nat.le_of_ble_eq_true rfl) dL_law_468) hS nx_FA hPm (fun _ _ _ z => z) (fun H locs hPc hPm hS => ?_)
  refine lv_aload_n hx hb dL_law_471 rfl (lv_at hl 2 rfl) ?_
  refine lv_aload_n hx hb dL_law_472 rfl (lv_at hl 0 rfl) ?_
  refine lv_iload_n hx hb dL_law_473 rfl (lv_at hl 3 rfl) ?_
  refine lv_iconst (v := 1) hx hb dL_law_474 (by decide) ?_
  refine lv_iadd hx hb dL_law_475 ?_
  refine va_sld hx hb hX hbl hbA hS (lw_ix hi (k := 1) (by decide) hL rfl) dL_law_476 ?_
  refine lv_aload_n hx hb dL_law_477 rfl (lv_at hl 0 rfl) ?_
  refine lv_iload_n hx hb dL_law_478 rfl (lv_at hl 3 rfl) ?_
  refine lv_iconst (v := 2) hx hb dL_law_479 (by decide) ?_
  refine lv_iadd hx hb dL_law_480 ?_
  refine va_sld hx hb hX hbl hbA hS (lw_ix hi (k := 2) (by decide) hL rfl) dL_law_481 ?_
  refine lv_aload_n hx hb dL_law_482 rfl (lv_at hl 0 rfl) ?_
  refine lv_iload_n hx hb dL_law_483 rfl (lv_at hl 3 rfl) ?_
  refine lv_iconst (v := 3) hx hb dL_law_484 (by decide) ?_
  refine lv_iadd hx hb dL_law_485 ?_
  refine va_sld hx hb hX hbl hbA hS (lw_ix hi (k := 3) (by decide) hL rfl) dL_law_486 ?_
  refine lx_i (nx_runV (As := [.int (xs (nI i + 1).toNatClampNeg), .int (xs (nI i + 2).toNatClampNeg), .int (xs (nI i + 3).toNatClampNeg)]) (rest := [.int r]) (b := a2 0) X hS hPm (c_X11_roll l E H.size a2 wide tall groups tours tourLength rowMany cameBy top east south rolled off kind mark rolls many onward at_ goes firstTour rowWay rowSeen prints homeward ((xs (nI i + 1).toNatClampNeg)) ((xs (nI i + 2).toNatClampNeg)) ((xs (nI i + 3).toNatClampNeg)) _ h2) nx_FA qV_RL_52 ⟨rfl, rfl⟩ ⟨Nat.le_of_ble_eq_true rfl, Nat.le_of_ble_eq_true rfl⟩ ⟨Nat.le_of_ble_eq_true rfl, Nat.le_of_ble_eq_true rfl⟩ 0 rfl rfl rfl rfl hl.1 (Nat.le_of_ble_eq_true rfl) dL_law_487) hS nx_FA hPc (fun _ _ _ z => z) (fun H locs hPm hPc hS => ?_)
  refine lv_icmp_eq (tgt := 1288) hx hb dL_law_490 (by decide) (fun hc => ?_) (fun hc => absurd rfl hc)
  exact hK _ _ _ _ _ _ _ _ _ _ _ _ _ _ _ _ _ _ _ _ _ _ _ _ _ _ _ _ _ _ _ _ _ _ _ _ _ _ _ _ _ _ _ _ _ hR2 H locs ls hPc hPm hS hl
set_option maxHeartbeats 4000000 in
set_option maxRecDepth 100000 in
theorem lc_9 {l : Launch} {e : Env} {E : nx_E} {a a2 : Nat → Nat} {p : Program} {s : State} {m : MethodId} {below : List Frame} {meth : Method} {c : Code} {bq L : Nat} {xs : Nat → Int32} (N : Nat) (hN : NB ≤ N) (hL : L ≤ 3072) (hC : lw_C E a a2 p s m c bq L xs) {i : Nat} (hi : i + 6 ≤ L) (hK : lw_K l e E a a2 p s m below meth c bq i 1288) : lw_K l e E a a2 p s m below meth c bq i 495 := by
  obtain ⟨X, hX, hbl, hI, hI2, ha, ha2, hab, hba⟩ := hC
  obtain ⟨⟨hx, hb, hml, hown, hts⟩, hKK, hSt, hNz⟩ := id X
  have hbA : ¬ lw_A s bq := Nat.not_le.mpr hbl
  intro size on kinds marks nb reached dist lastW par ord paths costs wanted tlen onlyF found steps plen rowW rowS tally wide tall groups tours tourLength rowMany cameBy top east south rolled off kind mark rolls many onward at_ goes firstTour rowWay rowSeen prints homeward hR H locs ls hPc hPm hS hl
  refine lv_aload_n hx hb dL_law_495 rfl (lv_at hl 1 rfl) ?_
  refine lv_aload_n hx hb dL_law_496 rfl (lv_at hl 0 rfl) ?_
  refine lv_iload_n hx hb dL_law_497 rfl (lv_at hl 3 rfl) ?_
  refine lv_iconst (v := 1) hx hb dL_law_498 (by decide) ?_
  refine lv_iadd hx hb dL_law_499 ?_
  refine va_sld hx hb hX hbl hbA hS (lw_ix hi (k := 1) (by decide) hL rfl) dL_law_500 ?_
  refine lv_aload_n hx hb dL_law_501 rfl (lv_at hl 0 rfl) ?_
  refine lv_iload_n hx hb dL_law_502 rfl (lv_at hl 3 rfl) ?_
  refine lv_iconst (v := 2) hx hb dL_law_503 (by decide) ?_
  refine lv_iadd hx hb dL_law_504 ?_
  refine va_sld hx hb hX hbl hbA hS (lw_ix hi (k := 2) (by decide) hL rfl) dL_law_505 ?_
  refine lv_aload_n hx hb dL_law_506 rfl (lv_at hl 0 rfl) ?_
  refine lv_iload_n hx hb dL_law_507 rfl (lv_at hl 3 rfl) ?_
  refine lv_iconst (v := 3) hx hb dL_law_508 (by decide) ?_
  refine lv_iadd hx hb dL_law_509 ?_
  refine va_sld hx hb hX hbl hbA hS (lw_ix hi (k := 3) (by decide) hL rfl) dL_law_510 ?_
  refine lv_aload_n hx hb dL_law_511 rfl (lv_at hl 0 rfl) ?_
  refine lv_iload_n hx hb dL_law_512 rfl (lv_at hl 3 rfl) ?_
  refine lv_iconst (v := 4) hx hb dL_law_513 (by decide) ?_
  refine lv_iadd hx hb dL_law_514 ?_
  refine va_sld hx hb hX hbl hbA hS (lw_ix hi (k := 4) (by decide) hL rfl) dL_law_515 ?_
  obtain ⟨r, oc, om, h1, h2, hR2⟩ := s_shortest N hN hR ((xs (nI i + 1).toNatClampNeg)) ((xs (nI i + 2).toNatClampNeg)) ((xs (nI i + 3).toNatClampNeg)) ((xs (nI i + 4).toNatClampNeg))
  refine lx_wi (nx_runV (As := [.int (xs (nI i + 1).toNatClampNeg), .int (xs (nI i + 2).toNatClampNeg), .int (xs (nI i + 3).toNatClampNeg), .int (xs (nI i + 4).toNatClampNeg)]) (rest := []) (b := a 0) X hS hPc (c_X10_shortest l N E H.size a size on kinds marks nb reached dist lastW par ord paths costs wanted tlen onlyF found steps plen rowW rowS tally ((xs (nI i + 1).toNatClampNeg)) ((xs (nI i + 2).toNatClampNeg)) ((xs (nI i + 3).toNatClampNeg)) ((xs (nI i + 4).toNatClampNeg)) hI _ h1) (fun q hq => lx_A (z := 0) hS ha q hq) qV_RL_53 ⟨rfl, rfl⟩ ⟨Nat.le_of_ble_eq_true rfl, Nat.le_of_ble_eq_true rfl⟩ ⟨Nat.le_of_ble_eq_true rfl, Nat.le_of_ble_eq_true rfl⟩ 0 rfl rfl rfl rfl hl.1 (Nat.le_of_ble_eq_true rfl) dL_law_516) hS (fun q hq => lx_A (z := 0) hS ha q hq) hPm (lx_ap mW_ad hPm hab) (fun H locs hPc hPm hS => ?_)
  have hPc : va_P E.1 vwCl (cW E a size on kinds marks nb oc.1 oc.2.1 oc.2.2.1 oc.2.2.2.1 oc.2.2.2.2.1 oc.2.2.2.2.2 costs wanted tlen onlyF found steps plen rowW rowS tally) H := hPc
  refine lv_aload_n hx hb dL_law_519 rfl (lv_at hl 2 rfl) ?_
  refine lv_aload_n hx hb dL_law_520 rfl (lv_at hl 0 rfl) ?_
  refine lv_iload_n hx hb dL_law_521 rfl (lv_at hl 3 rfl) ?_
  refine lv_iconst (v := 1) hx hb dL_law_522 (by decide) ?_
  refine lv_iadd hx hb dL_law_523 ?_
  refine va_sld hx hb hX hbl hbA hS (lw_ix hi (k := 1) (by decide) hL rfl) dL_law_524 ?_
  refine lv_aload_n hx hb dL_law_525 rfl (lv_at hl 0 rfl) ?_
  refine lv_iload_n hx hb dL_law_526 rfl (lv_at hl 3 rfl) ?_
  refine lv_iconst (v := 2) hx hb dL_law_527 (by decide) ?_
  refine lv_iadd hx hb dL_law_528 ?_
  refine va_sld hx hb hX hbl hbA hS (lw_ix hi (k := 2) (by decide) hL rfl) dL_law_529 ?_
  refine lv_aload_n hx hb dL_law_530 rfl (lv_at hl 0 rfl) ?_
  refine lv_iload_n hx hb dL_law_531 rfl (lv_at hl 3 rfl) ?_
  refine lv_iconst (v := 3) hx hb dL_law_532 (by decide) ?_
  refine lv_iadd hx hb dL_law_533 ?_
  refine va_sld hx hb hX hbl hbA hS (lw_ix hi (k := 3) (by decide) hL rfl) dL_law_534 ?_
  refine lv_aload_n hx hb dL_law_535 rfl (lv_at hl 0 rfl) ?_
  refine lv_iload_n hx hb dL_law_536 rfl (lv_at hl 3 rfl) ?_
  refine lv_iconst (v := 4) hx hb dL_law_537 (by decide) ?_
  refine lv_iadd hx hb dL_law_538 ?_
  refine va_sld hx hb hX hbl hbA hS (lw_ix hi (k := 4) (by decide) hL rfl) dL_law_539 ?_
  refine lx_wi (nx_runV (As := [.int (xs (nI i + 1).toNatClampNeg), .int (xs (nI i + 2).toNatClampNeg), .int (xs (nI i + 3).toNatClampNeg), .int (xs (nI i + 4).toNatClampNeg)]) (rest := [.int r]) (b := a2 0) X hS hPm (c_X11_shortest l N E H.size a2 wide tall groups tours tourLength rowMany cameBy top east south rolled off kind mark rolls many onward at_ goes firstTour rowWay rowSeen prints homeward ((xs (nI i + 1).toNatClampNeg)) ((xs (nI i + 2).toNatClampNeg)) ((xs (nI i + 3).toNatClampNeg)) ((xs (nI i + 4).toNatClampNeg)) hI2 _ h2) (fun q hq => lx_A (z := 0) hS ha2 q hq) qV_RL_57 ⟨rfl, rfl⟩ ⟨Nat.le_of_ble_eq_true rfl, Nat.le_of_ble_eq_true rfl⟩ ⟨Nat.le_of_ble_eq_true rfl, Nat.le_of_ble_eq_true rfl⟩ 0 rfl rfl rfl rfl hl.1 (Nat.le_of_ble_eq_true rfl) dL_law_540) hS (fun q hq => lx_A (z := 0) hS ha2 q hq) hPc (lx_ap cW_ad hPc hba) (fun H locs hPm hPc hS => ?_)
  have hPm : va_P E.1 vwCl (mW E a2 wide tall groups tours tourLength rowMany cameBy top east south rolled off kind mark om.1 om.2 onward at_ goes firstTour rowWay rowSeen prints homeward) H := hPm
  refine lv_icmp_eq (tgt := 1288) hx hb dL_law_543 (by decide) (fun hc => ?_) (fun hc => absurd rfl hc)
  exact hK _ _ _ _ _ _ _ _ _ _ _ _ _ _ _ _ _ _ _ _ _ _ _ _ _ _ _ _ _ _ _ _ _ _ _ _ _ _ _ _ _ _ _ _ _ hR2 H locs ls hPc hPm hS hl
set_option maxHeartbeats 4000000 in
set_option maxRecDepth 100000 in
theorem lc_10 {l : Launch} {e : Env} {E : nx_E} {a a2 : Nat → Nat} {p : Program} {s : State} {m : MethodId} {below : List Frame} {meth : Method} {c : Code} {bq L : Nat} {xs : Nat → Int32} (N : Nat) (hN : NB ≤ N) (hL : L ≤ 3072) (hC : lw_C E a a2 p s m c bq L xs) {i : Nat} (hi : i + 6 ≤ L) (hK : lw_K l e E a a2 p s m below meth c bq i 1288) : lw_K l e E a a2 p s m below meth c bq i 548 := by
  obtain ⟨X, hX, hbl, hI, hI2, ha, ha2, hab, hba⟩ := hC
  obtain ⟨⟨hx, hb, hml, hown, hts⟩, hKK, hSt, hNz⟩ := id X
  have hbA : ¬ lw_A s bq := Nat.not_le.mpr hbl
  intro size on kinds marks nb reached dist lastW par ord paths costs wanted tlen onlyF found steps plen rowW rowS tally wide tall groups tours tourLength rowMany cameBy top east south rolled off kind mark rolls many onward at_ goes firstTour rowWay rowSeen prints homeward hR H locs ls hPc hPm hS hl
  refine lv_aload_n hx hb dL_law_548 rfl (lv_at hl 1 rfl) ?_
  refine lv_aload_n hx hb dL_law_549 rfl (lv_at hl 0 rfl) ?_
  refine lv_iload_n hx hb dL_law_550 rfl (lv_at hl 3 rfl) ?_
  refine lv_iconst (v := 1) hx hb dL_law_551 (by decide) ?_
  refine lv_iadd hx hb dL_law_552 ?_
  refine va_sld hx hb hX hbl hbA hS (lw_ix hi (k := 1) (by decide) hL rfl) dL_law_553 ?_
  refine lv_aload_n hx hb dL_law_554 rfl (lv_at hl 0 rfl) ?_
  refine lv_iload_n hx hb dL_law_555 rfl (lv_at hl 3 rfl) ?_
  refine lv_iconst (v := 2) hx hb dL_law_556 (by decide) ?_
  refine lv_iadd hx hb dL_law_557 ?_
  refine va_sld hx hb hX hbl hbA hS (lw_ix hi (k := 2) (by decide) hL rfl) dL_law_558 ?_
  refine lv_aload_n hx hb dL_law_559 rfl (lv_at hl 0 rfl) ?_
  refine lv_iload_n hx hb dL_law_560 rfl (lv_at hl 3 rfl) ?_
  refine lv_iconst (v := 3) hx hb dL_law_561 (by decide) ?_
  refine lv_iadd hx hb dL_law_562 ?_
  refine va_sld hx hb hX hbl hbA hS (lw_ix hi (k := 3) (by decide) hL rfl) dL_law_563 ?_
  refine lv_aload_n hx hb dL_law_564 rfl (lv_at hl 0 rfl) ?_
  refine lv_iload_n hx hb dL_law_565 rfl (lv_at hl 3 rfl) ?_
  refine lv_iconst (v := 4) hx hb dL_law_566 (by decide) ?_
  refine lv_iadd hx hb dL_law_567 ?_
  refine va_sld hx hb hX hbl hbA hS (lw_ix hi (k := 4) (by decide) hL rfl) dL_law_568 ?_
  refine lv_aload_n hx hb dL_law_569 rfl (lv_at hl 0 rfl) ?_
  refine lv_iload_n hx hb dL_law_570 rfl (lv_at hl 3 rfl) ?_
  refine lv_iconst (v := 5) hx hb dL_law_571 (by decide) ?_
  refine lv_iadd hx hb dL_law_572 ?_
  refine va_sld hx hb hX hbl hbA hS (lw_ix hi (k := 5) (by decide) hL rfl) dL_law_573 ?_
  obtain ⟨r, oc, om, h1, h2, hR2⟩ := s_way N hN hR ((xs (nI i + 1).toNatClampNeg)) ((xs (nI i + 2).toNatClampNeg)) ((xs (nI i + 3).toNatClampNeg)) ((xs (nI i + 4).toNatClampNeg)) ((xs (nI i + 5).toNatClampNeg))
  refine lx_wi (nx_runV (As := [.int (xs (nI i + 1).toNatClampNeg), .int (xs (nI i + 2).toNatClampNeg), .int (xs (nI i + 3).toNatClampNeg), .int (xs (nI i + 4).toNatClampNeg), .int (xs (nI i + 5).toNatClampNeg)]) (rest := []) (b := a 0) X hS hPc (c_X10_way l N E H.size a size on kinds marks nb reached dist lastW par ord paths costs wanted tlen onlyF found steps plen rowW rowS tally ((xs (nI i + 1).toNatClampNeg)) ((xs (nI i + 2).toNatClampNeg)) ((xs (nI i + 3).toNatClampNeg)) ((xs (nI i + 4).toNatClampNeg)) ((xs (nI i + 5).toNatClampNeg)) hI _ h1) (fun q hq => lx_A (z := 0) hS ha q hq) qV_RL_58 ⟨rfl, rfl⟩ ⟨Nat.le_of_ble_eq_true rfl, Nat.le_of_ble_eq_true rfl⟩ ⟨Nat.le_of_ble_eq_true rfl, Nat.le_of_ble_eq_true rfl⟩ 0 rfl rfl rfl rfl hl.1 (Nat.le_of_ble_eq_true rfl) dL_law_574) hS (fun q hq => lx_A (z := 0) hS ha q hq) hPm (lx_ap mW_ad hPm hab) (fun H locs hPc hPm hS => ?_)
  have hPc : va_P E.1 vwCl (cW E a size on kinds marks nb oc.1 oc.2.1 oc.2.2.1 oc.2.2.2.1 oc.2.2.2.2.1 oc.2.2.2.2.2 costs wanted tlen onlyF found steps plen rowW rowS tally) H := hPc
  refine lv_aload_n hx hb dL_law_577 rfl (lv_at hl 2 rfl) ?_
  refine lv_aload_n hx hb dL_law_578 rfl (lv_at hl 0 rfl) ?_
  refine lv_iload_n hx hb dL_law_579 rfl (lv_at hl 3 rfl) ?_
  refine lv_iconst (v := 1) hx hb dL_law_580 (by decide) ?_
  refine lv_iadd hx hb dL_law_581 ?_
  refine va_sld hx hb hX hbl hbA hS (lw_ix hi (k := 1) (by decide) hL rfl) dL_law_582 ?_
  refine lv_aload_n hx hb dL_law_583 rfl (lv_at hl 0 rfl) ?_
  refine lv_iload_n hx hb dL_law_584 rfl (lv_at hl 3 rfl) ?_
  refine lv_iconst (v := 2) hx hb dL_law_585 (by decide) ?_
  refine lv_iadd hx hb dL_law_586 ?_
  refine va_sld hx hb hX hbl hbA hS (lw_ix hi (k := 2) (by decide) hL rfl) dL_law_587 ?_
  refine lv_aload_n hx hb dL_law_588 rfl (lv_at hl 0 rfl) ?_
  refine lv_iload_n hx hb dL_law_589 rfl (lv_at hl 3 rfl) ?_
  refine lv_iconst (v := 3) hx hb dL_law_590 (by decide) ?_
  refine lv_iadd hx hb dL_law_591 ?_
  refine va_sld hx hb hX hbl hbA hS (lw_ix hi (k := 3) (by decide) hL rfl) dL_law_592 ?_
  refine lv_aload_n hx hb dL_law_593 rfl (lv_at hl 0 rfl) ?_
  refine lv_iload_n hx hb dL_law_594 rfl (lv_at hl 3 rfl) ?_
  refine lv_iconst (v := 4) hx hb dL_law_595 (by decide) ?_
  refine lv_iadd hx hb dL_law_596 ?_
  refine va_sld hx hb hX hbl hbA hS (lw_ix hi (k := 4) (by decide) hL rfl) dL_law_597 ?_
  refine lv_aload_n hx hb dL_law_598 rfl (lv_at hl 0 rfl) ?_
  refine lv_iload_n hx hb dL_law_599 rfl (lv_at hl 3 rfl) ?_
  refine lv_iconst (v := 5) hx hb dL_law_600 (by decide) ?_
  refine lv_iadd hx hb dL_law_601 ?_
  refine va_sld hx hb hX hbl hbA hS (lw_ix hi (k := 5) (by decide) hL rfl) dL_law_602 ?_
  refine lx_wi (nx_runV (As := [.int (xs (nI i + 1).toNatClampNeg), .int (xs (nI i + 2).toNatClampNeg), .int (xs (nI i + 3).toNatClampNeg), .int (xs (nI i + 4).toNatClampNeg), .int (xs (nI i + 5).toNatClampNeg)]) (rest := [.int r]) (b := a2 0) X hS hPm (c_X11_way l N E H.size a2 wide tall groups tours tourLength rowMany cameBy top east south rolled off kind mark rolls many onward at_ goes firstTour rowWay rowSeen prints homeward ((xs (nI i + 1).toNatClampNeg)) ((xs (nI i + 2).toNatClampNeg)) ((xs (nI i + 3).toNatClampNeg)) ((xs (nI i + 4).toNatClampNeg)) ((xs (nI i + 5).toNatClampNeg)) hI2 _ h2) (fun q hq => lx_A (z := 0) hS ha2 q hq) qV_RL_62 ⟨rfl, rfl⟩ ⟨Nat.le_of_ble_eq_true rfl, Nat.le_of_ble_eq_true rfl⟩ ⟨Nat.le_of_ble_eq_true rfl, Nat.le_of_ble_eq_true rfl⟩ 0 rfl rfl rfl rfl hl.1 (Nat.le_of_ble_eq_true rfl) dL_law_603) hS (fun q hq => lx_A (z := 0) hS ha2 q hq) hPc (lx_ap cW_ad hPc hba) (fun H locs hPm hPc hS => ?_)
  have hPm : va_P E.1 vwCl (mW E a2 wide tall groups tours tourLength rowMany cameBy top east south rolled off kind mark rolls many om at_ goes firstTour rowWay rowSeen prints homeward) H := hPm
  refine lv_icmp_eq (tgt := 1288) hx hb dL_law_606 (by decide) (fun hc => ?_) (fun hc => absurd rfl hc)
  exact hK _ _ _ _ _ _ _ _ _ _ _ _ _ _ _ _ _ _ _ _ _ _ _ _ _ _ _ _ _ _ _ _ _ _ _ _ _ _ _ _ _ _ _ _ _ hR2 H locs ls hPc hPm hS hl
set_option maxHeartbeats 4000000 in
set_option maxRecDepth 100000 in
theorem lc_11 {l : Launch} {e : Env} {E : nx_E} {a a2 : Nat → Nat} {p : Program} {s : State} {m : MethodId} {below : List Frame} {meth : Method} {c : Code} {bq L : Nat} {xs : Nat → Int32} (N : Nat) (hN : NB ≤ N) (hL : L ≤ 3072) (hC : lw_C E a a2 p s m c bq L xs) {i : Nat} (hi : i + 6 ≤ L) (hK : lw_K l e E a a2 p s m below meth c bq i 1288) : lw_K l e E a a2 p s m below meth c bq i 611 := by
  obtain ⟨X, hX, hbl, hI, hI2, ha, ha2, hab, hba⟩ := hC
  obtain ⟨⟨hx, hb, hml, hown, hts⟩, hKK, hSt, hNz⟩ := id X
  have hbA : ¬ lw_A s bq := Nat.not_le.mpr hbl
  intro size on kinds marks nb reached dist lastW par ord paths costs wanted tlen onlyF found steps plen rowW rowS tally wide tall groups tours tourLength rowMany cameBy top east south rolled off kind mark rolls many onward at_ goes firstTour rowWay rowSeen prints homeward hR H locs ls hPc hPm hS hl
  refine lv_aload_n hx hb dL_law_611 rfl (lv_at hl 1 rfl) ?_
  refine lv_aload_n hx hb dL_law_612 rfl (lv_at hl 0 rfl) ?_
  refine lv_iload_n hx hb dL_law_613 rfl (lv_at hl 3 rfl) ?_
  refine lv_iconst (v := 1) hx hb dL_law_614 (by decide) ?_
  refine lv_iadd hx hb dL_law_615 ?_
  refine va_sld hx hb hX hbl hbA hS (lw_ix hi (k := 1) (by decide) hL rfl) dL_law_616 ?_
  refine lv_aload_n hx hb dL_law_617 rfl (lv_at hl 0 rfl) ?_
  refine lv_iload_n hx hb dL_law_618 rfl (lv_at hl 3 rfl) ?_
  refine lv_iconst (v := 2) hx hb dL_law_619 (by decide) ?_
  refine lv_iadd hx hb dL_law_620 ?_
  refine va_sld hx hb hX hbl hbA hS (lw_ix hi (k := 2) (by decide) hL rfl) dL_law_621 ?_
  refine lv_aload_n hx hb dL_law_622 rfl (lv_at hl 0 rfl) ?_
  refine lv_iload_n hx hb dL_law_623 rfl (lv_at hl 3 rfl) ?_
  refine lv_iconst (v := 3) hx hb dL_law_624 (by decide) ?_
  refine lv_iadd hx hb dL_law_625 ?_
  refine va_sld hx hb hX hbl hbA hS (lw_ix hi (k := 3) (by decide) hL rfl) dL_law_626 ?_
  refine lv_aload_n hx hb dL_law_627 rfl (lv_at hl 0 rfl) ?_
  refine lv_iload_n hx hb dL_law_628 rfl (lv_at hl 3 rfl) ?_
  refine lv_iconst (v := 4) hx hb dL_law_629 (by decide) ?_
  refine lv_iadd hx hb dL_law_630 ?_
  refine va_sld hx hb hX hbl hbA hS (lw_ix hi (k := 4) (by decide) hL rfl) dL_law_631 ?_
  obtain ⟨r, oc, om, h1, h2, hR2⟩ := s_ways N hN hR ((xs (nI i + 1).toNatClampNeg)) ((xs (nI i + 2).toNatClampNeg)) ((xs (nI i + 3).toNatClampNeg)) ((xs (nI i + 4).toNatClampNeg))
  refine lx_wl (nx_runV (As := [.int (xs (nI i + 1).toNatClampNeg), .int (xs (nI i + 2).toNatClampNeg), .int (xs (nI i + 3).toNatClampNeg), .int (xs (nI i + 4).toNatClampNeg)]) (rest := []) (b := a 0) X hS hPc (c_X10_ways l N E H.size a size on kinds marks nb reached dist lastW par ord paths costs wanted tlen onlyF found steps plen rowW rowS tally ((xs (nI i + 1).toNatClampNeg)) ((xs (nI i + 2).toNatClampNeg)) ((xs (nI i + 3).toNatClampNeg)) ((xs (nI i + 4).toNatClampNeg)) hI _ h1) (fun q hq => lx_A (z := 0) hS ha q hq) qV_RL_63 ⟨rfl, rfl⟩ ⟨Nat.le_of_ble_eq_true rfl, Nat.le_of_ble_eq_true rfl⟩ ⟨Nat.le_of_ble_eq_true rfl, Nat.le_of_ble_eq_true rfl⟩ 0 rfl rfl rfl rfl hl.1 (Nat.le_of_ble_eq_true rfl) dL_law_632) hS (fun q hq => lx_A (z := 0) hS ha q hq) hPm (lx_ap mW_ad hPm hab) (fun H locs hPc hPm hS => ?_)
  have hPc : va_P E.1 vwCl (cW E a size on kinds marks nb oc.1 oc.2.1 oc.2.2.1 oc.2.2.2.1 oc.2.2.2.2.1 oc.2.2.2.2.2 costs wanted tlen onlyF found steps plen rowW rowS tally) H := hPc
  refine lv_aload_n hx hb dL_law_635 rfl (lv_at hl 2 rfl) ?_
  refine lv_aload_n hx hb dL_law_636 rfl (lv_at hl 0 rfl) ?_
  refine lv_iload_n hx hb dL_law_637 rfl (lv_at hl 3 rfl) ?_
  refine lv_iconst (v := 1) hx hb dL_law_638 (by decide) ?_
  refine lv_iadd hx hb dL_law_639 ?_
  refine va_sld hx hb hX hbl hbA hS (lw_ix hi (k := 1) (by decide) hL rfl) dL_law_640 ?_
  refine lv_aload_n hx hb dL_law_641 rfl (lv_at hl 0 rfl) ?_
  refine lv_iload_n hx hb dL_law_642 rfl (lv_at hl 3 rfl) ?_
  refine lv_iconst (v := 2) hx hb dL_law_643 (by decide) ?_
  refine lv_iadd hx hb dL_law_644 ?_
  refine va_sld hx hb hX hbl hbA hS (lw_ix hi (k := 2) (by decide) hL rfl) dL_law_645 ?_
  refine lv_aload_n hx hb dL_law_646 rfl (lv_at hl 0 rfl) ?_
  refine lv_iload_n hx hb dL_law_647 rfl (lv_at hl 3 rfl) ?_
  refine lv_iconst (v := 3) hx hb dL_law_648 (by decide) ?_
  refine lv_iadd hx hb dL_law_649 ?_
  refine va_sld hx hb hX hbl hbA hS (lw_ix hi (k := 3) (by decide) hL rfl) dL_law_650 ?_
  refine lv_aload_n hx hb dL_law_651 rfl (lv_at hl 0 rfl) ?_
  refine lv_iload_n hx hb dL_law_652 rfl (lv_at hl 3 rfl) ?_
  refine lv_iconst (v := 4) hx hb dL_law_653 (by decide) ?_
  refine lv_iadd hx hb dL_law_654 ?_
  refine va_sld hx hb hX hbl hbA hS (lw_ix hi (k := 4) (by decide) hL rfl) dL_law_655 ?_
  refine lx_wl (nx_runV (As := [.int (xs (nI i + 1).toNatClampNeg), .int (xs (nI i + 2).toNatClampNeg), .int (xs (nI i + 3).toNatClampNeg), .int (xs (nI i + 4).toNatClampNeg)]) (rest := [.long r]) (b := a2 0) X hS hPm (c_X11_ways l N E H.size a2 wide tall groups tours tourLength rowMany cameBy top east south rolled off kind mark rolls many onward at_ goes firstTour rowWay rowSeen prints homeward ((xs (nI i + 1).toNatClampNeg)) ((xs (nI i + 2).toNatClampNeg)) ((xs (nI i + 3).toNatClampNeg)) ((xs (nI i + 4).toNatClampNeg)) hI2 _ h2) (fun q hq => lx_A (z := 0) hS ha2 q hq) qV_RL_67 ⟨rfl, rfl⟩ ⟨Nat.le_of_ble_eq_true rfl, Nat.le_of_ble_eq_true rfl⟩ ⟨Nat.le_of_ble_eq_true rfl, Nat.le_of_ble_eq_true rfl⟩ 0 rfl rfl rfl rfl hl.1 (Nat.le_of_ble_eq_true rfl) dL_law_656) hS (fun q hq => lx_A (z := 0) hS ha2 q hq) hPc (lx_ap cW_ad hPc hba) (fun H locs hPm hPc hS => ?_)
  have hPm : va_P E.1 vwCl (mW E a2 wide tall groups tours tourLength rowMany cameBy top east south rolled off kind mark om.1 om.2 onward at_ goes firstTour rowWay rowSeen prints homeward) H := hPm
  refine W.lcmp hx hb dL_law_659 ?_
  refine lv_if_eq (tgt := 1288) hx hb dL_law_660 (by decide) (fun hc => ?_) (fun hc => absurd (by simp [lg_cmp]) hc)
  exact hK _ _ _ _ _ _ _ _ _ _ _ _ _ _ _ _ _ _ _ _ _ _ _ _ _ _ _ _ _ _ _ _ _ _ _ _ _ _ _ _ _ _ _ _ _ hR2 H locs ls hPc hPm hS hl
set_option maxHeartbeats 4000000 in
set_option maxRecDepth 100000 in
theorem lc_12 {l : Launch} {e : Env} {E : nx_E} {a a2 : Nat → Nat} {p : Program} {s : State} {m : MethodId} {below : List Frame} {meth : Method} {c : Code} {bq L : Nat} {xs : Nat → Int32} (N : Nat) (hN : NB ≤ N) (hL : L ≤ 3072) (hC : lw_C E a a2 p s m c bq L xs) {i : Nat} (hi : i + 6 ≤ L) (hK : lw_K l e E a a2 p s m below meth c bq i 1288) : lw_K l e E a a2 p s m below meth c bq i 665 := by
  obtain ⟨X, hX, hbl, hI, hI2, ha, ha2, hab, hba⟩ := hC
  obtain ⟨⟨hx, hb, hml, hown, hts⟩, hKK, hSt, hNz⟩ := id X
  have hbA : ¬ lw_A s bq := Nat.not_le.mpr hbl
  intro size on kinds marks nb reached dist lastW par ord paths costs wanted tlen onlyF found steps plen rowW rowS tally wide tall groups tours tourLength rowMany cameBy top east south rolled off kind mark rolls many onward at_ goes firstTour rowWay rowSeen prints homeward hR H locs ls hPc hPm hS hl
  refine lv_aload_n hx hb dL_law_665 rfl (lv_at hl 1 rfl) ?_
  refine lv_aload_n hx hb dL_law_666 rfl (lv_at hl 0 rfl) ?_
  refine lv_iload_n hx hb dL_law_667 rfl (lv_at hl 3 rfl) ?_
  refine lv_iconst (v := 1) hx hb dL_law_668 (by decide) ?_
  refine lv_iadd hx hb dL_law_669 ?_
  refine va_sld hx hb hX hbl hbA hS (lw_ix hi (k := 1) (by decide) hL rfl) dL_law_670 ?_
  refine lv_aload_n hx hb dL_law_671 rfl (lv_at hl 0 rfl) ?_
  refine lv_iload_n hx hb dL_law_672 rfl (lv_at hl 3 rfl) ?_
  refine lv_iconst (v := 2) hx hb dL_law_673 (by decide) ?_
  refine lv_iadd hx hb dL_law_674 ?_
  refine va_sld hx hb hX hbl hbA hS (lw_ix hi (k := 2) (by decide) hL rfl) dL_law_675 ?_
  refine lv_aload_n hx hb dL_law_676 rfl (lv_at hl 0 rfl) ?_
  refine lv_iload_n hx hb dL_law_677 rfl (lv_at hl 3 rfl) ?_
  refine lv_iconst (v := 3) hx hb dL_law_678 (by decide) ?_
  refine lv_iadd hx hb dL_law_679 ?_
  refine va_sld hx hb hX hbl hbA hS (lw_ix hi (k := 3) (by decide) hL rfl) dL_law_680 ?_
  refine lv_aload_n hx hb dL_law_681 rfl (lv_at hl 0 rfl) ?_
  refine lv_iload_n hx hb dL_law_682 rfl (lv_at hl 3 rfl) ?_
  refine lv_iconst (v := 4) hx hb dL_law_683 (by decide) ?_
  refine lv_iadd hx hb dL_law_684 ?_
  refine va_sld hx hb hX hbl hbA hS (lw_ix hi (k := 4) (by decide) hL rfl) dL_law_685 ?_
  obtain ⟨r, oc, om, h1, h2, hR2⟩ := s_cheapest N hN hR ((xs (nI i + 1).toNatClampNeg)) ((xs (nI i + 2).toNatClampNeg)) ((xs (nI i + 3).toNatClampNeg)) ((xs (nI i + 4).toNatClampNeg))
  refine lx_wi (nx_runV (As := [.int (xs (nI i + 1).toNatClampNeg), .int (xs (nI i + 2).toNatClampNeg), .int (xs (nI i + 3).toNatClampNeg), .int (xs (nI i + 4).toNatClampNeg)]) (rest := []) (b := a 0) X hS hPc (c_X10_cheapest l N E H.size a size on kinds marks nb reached dist lastW par ord paths costs wanted tlen onlyF found steps plen rowW rowS tally ((xs (nI i + 1).toNatClampNeg)) ((xs (nI i + 2).toNatClampNeg)) ((xs (nI i + 3).toNatClampNeg)) ((xs (nI i + 4).toNatClampNeg)) hI _ h1) (fun q hq => lx_A (z := 0) hS ha q hq) qV_RL_68 ⟨rfl, rfl⟩ ⟨Nat.le_of_ble_eq_true rfl, Nat.le_of_ble_eq_true rfl⟩ ⟨Nat.le_of_ble_eq_true rfl, Nat.le_of_ble_eq_true rfl⟩ 0 rfl rfl rfl rfl hl.1 (Nat.le_of_ble_eq_true rfl) dL_law_686) hS (fun q hq => lx_A (z := 0) hS ha q hq) hPm (lx_ap mW_ad hPm hab) (fun H locs hPc hPm hS => ?_)
  have hPc : va_P E.1 vwCl (cW E a size on kinds marks nb oc.1 oc.2.1 oc.2.2.1 oc.2.2.2.1 oc.2.2.2.2.1 oc.2.2.2.2.2.1 oc.2.2.2.2.2.2 wanted tlen onlyF found steps plen rowW rowS tally) H := hPc
  refine lv_aload_n hx hb dL_law_689 rfl (lv_at hl 2 rfl) ?_
  refine lv_aload_n hx hb dL_law_690 rfl (lv_at hl 0 rfl) ?_
  refine lv_iload_n hx hb dL_law_691 rfl (lv_at hl 3 rfl) ?_
  refine lv_iconst (v := 1) hx hb dL_law_692 (by decide) ?_
  refine lv_iadd hx hb dL_law_693 ?_
  refine va_sld hx hb hX hbl hbA hS (lw_ix hi (k := 1) (by decide) hL rfl) dL_law_694 ?_
  refine lv_aload_n hx hb dL_law_695 rfl (lv_at hl 0 rfl) ?_
  refine lv_iload_n hx hb dL_law_696 rfl (lv_at hl 3 rfl) ?_
  refine lv_iconst (v := 2) hx hb dL_law_697 (by decide) ?_
  refine lv_iadd hx hb dL_law_698 ?_
  refine va_sld hx hb hX hbl hbA hS (lw_ix hi (k := 2) (by decide) hL rfl) dL_law_699 ?_
  refine lv_aload_n hx hb dL_law_700 rfl (lv_at hl 0 rfl) ?_
  refine lv_iload_n hx hb dL_law_701 rfl (lv_at hl 3 rfl) ?_
  refine lv_iconst (v := 3) hx hb dL_law_702 (by decide) ?_
  refine lv_iadd hx hb dL_law_703 ?_
  refine va_sld hx hb hX hbl hbA hS (lw_ix hi (k := 3) (by decide) hL rfl) dL_law_704 ?_
  refine lv_aload_n hx hb dL_law_705 rfl (lv_at hl 0 rfl) ?_
  refine lv_iload_n hx hb dL_law_706 rfl (lv_at hl 3 rfl) ?_
  refine lv_iconst (v := 4) hx hb dL_law_707 (by decide) ?_
  refine lv_iadd hx hb dL_law_708 ?_
  refine va_sld hx hb hX hbl hbA hS (lw_ix hi (k := 4) (by decide) hL rfl) dL_law_709 ?_
  refine lx_wi (nx_runV (As := [.int (xs (nI i + 1).toNatClampNeg), .int (xs (nI i + 2).toNatClampNeg), .int (xs (nI i + 3).toNatClampNeg), .int (xs (nI i + 4).toNatClampNeg)]) (rest := [.int r]) (b := a2 0) X hS hPm (c_X11_cheapest l N E H.size a2 wide tall groups tours tourLength rowMany cameBy top east south rolled off kind mark rolls many onward at_ goes firstTour rowWay rowSeen prints homeward ((xs (nI i + 1).toNatClampNeg)) ((xs (nI i + 2).toNatClampNeg)) ((xs (nI i + 3).toNatClampNeg)) ((xs (nI i + 4).toNatClampNeg)) hI2 _ h2) (fun q hq => lx_A (z := 0) hS ha2 q hq) qV_RL_71 ⟨rfl, rfl⟩ ⟨Nat.le_of_ble_eq_true rfl, Nat.le_of_ble_eq_true rfl⟩ ⟨Nat.le_of_ble_eq_true rfl, Nat.le_of_ble_eq_true rfl⟩ 0 rfl rfl rfl rfl hl.1 (Nat.le_of_ble_eq_true rfl) dL_law_710) hS (fun q hq => lx_A (z := 0) hS ha2 q hq) hPc (lx_ap cW_ad hPc hba) (fun H locs hPm hPc hS => ?_)
  have hPm : va_P E.1 vwCl (mW E a2 wide tall groups tours tourLength rowMany cameBy top east south rolled off kind mark rolls many om at_ goes firstTour rowWay rowSeen prints homeward) H := hPm
  refine lv_icmp_eq (tgt := 1288) hx hb dL_law_713 (by decide) (fun hc => ?_) (fun hc => absurd rfl hc)
  exact hK _ _ _ _ _ _ _ _ _ _ _ _ _ _ _ _ _ _ _ _ _ _ _ _ _ _ _ _ _ _ _ _ _ _ _ _ _ _ _ _ _ _ _ _ _ hR2 H locs ls hPc hPm hS hl
set_option maxHeartbeats 4000000 in
set_option maxRecDepth 100000 in
theorem lc_13 {l : Launch} {e : Env} {E : nx_E} {a a2 : Nat → Nat} {p : Program} {s : State} {m : MethodId} {below : List Frame} {meth : Method} {c : Code} {bq L : Nat} {xs : Nat → Int32} (N : Nat) (hN : NB ≤ N) (hL : L ≤ 3072) (hC : lw_C E a a2 p s m c bq L xs) {i : Nat} (hi : i + 6 ≤ L) (hK : lw_K l e E a a2 p s m below meth c bq i 1288) : lw_K l e E a a2 p s m below meth c bq i 718 := by
  obtain ⟨X, hX, hbl, hI, hI2, ha, ha2, hab, hba⟩ := hC
  obtain ⟨⟨hx, hb, hml, hown, hts⟩, hKK, hSt, hNz⟩ := id X
  have hbA : ¬ lw_A s bq := Nat.not_le.mpr hbl
  intro size on kinds marks nb reached dist lastW par ord paths costs wanted tlen onlyF found steps plen rowW rowS tally wide tall groups tours tourLength rowMany cameBy top east south rolled off kind mark rolls many onward at_ goes firstTour rowWay rowSeen prints homeward hR H locs ls hPc hPm hS hl
  refine lv_aload_n hx hb dL_law_718 rfl (lv_at hl 1 rfl) ?_
  refine lv_aload_n hx hb dL_law_719 rfl (lv_at hl 0 rfl) ?_
  refine lv_iload_n hx hb dL_law_720 rfl (lv_at hl 3 rfl) ?_
  refine lv_iconst (v := 1) hx hb dL_law_721 (by decide) ?_
  refine lv_iadd hx hb dL_law_722 ?_
  refine va_sld hx hb hX hbl hbA hS (lw_ix hi (k := 1) (by decide) hL rfl) dL_law_723 ?_
  refine lv_aload_n hx hb dL_law_724 rfl (lv_at hl 0 rfl) ?_
  refine lv_iload_n hx hb dL_law_725 rfl (lv_at hl 3 rfl) ?_
  refine lv_iconst (v := 2) hx hb dL_law_726 (by decide) ?_
  refine lv_iadd hx hb dL_law_727 ?_
  refine va_sld hx hb hX hbl hbA hS (lw_ix hi (k := 2) (by decide) hL rfl) dL_law_728 ?_
  refine lv_aload_n hx hb dL_law_729 rfl (lv_at hl 0 rfl) ?_
  refine lv_iload_n hx hb dL_law_730 rfl (lv_at hl 3 rfl) ?_
  refine lv_iconst (v := 3) hx hb dL_law_731 (by decide) ?_
  refine lv_iadd hx hb dL_law_732 ?_
  refine va_sld hx hb hX hbl hbA hS (lw_ix hi (k := 3) (by decide) hL rfl) dL_law_733 ?_
  obtain ⟨r, oc, om, h1, h2, hR2⟩ := s_stances N hN hR ((xs (nI i + 1).toNatClampNeg)) ((xs (nI i + 2).toNatClampNeg)) ((xs (nI i + 3).toNatClampNeg))
  refine lx_wi (nx_runV (As := [.int (xs (nI i + 1).toNatClampNeg), .int (xs (nI i + 2).toNatClampNeg), .int (xs (nI i + 3).toNatClampNeg)]) (rest := []) (b := a 0) X hS hPc (c_X10_stances l N E H.size a size on kinds marks nb reached dist lastW par ord paths costs wanted tlen onlyF found steps plen rowW rowS tally ((xs (nI i + 1).toNatClampNeg)) ((xs (nI i + 2).toNatClampNeg)) ((xs (nI i + 3).toNatClampNeg)) hI _ h1) (fun q hq => lx_A (z := 0) hS ha q hq) qV_RL_72 ⟨rfl, rfl⟩ ⟨Nat.le_of_ble_eq_true rfl, Nat.le_of_ble_eq_true rfl⟩ ⟨Nat.le_of_ble_eq_true rfl, Nat.le_of_ble_eq_true rfl⟩ 0 rfl rfl rfl rfl hl.1 (Nat.le_of_ble_eq_true rfl) dL_law_734) hS (fun q hq => lx_A (z := 0) hS ha q hq) hPm (lx_ap mW_ad hPm hab) (fun H locs hPc hPm hS => ?_)
  have hPc : va_P E.1 vwCl (cW E a size on kinds marks nb oc.1 oc.2.1 oc.2.2.1 oc.2.2.2.1 oc.2.2.2.2.1 oc.2.2.2.2.2 costs wanted tlen onlyF found steps plen rowW rowS tally) H := hPc
  refine lv_aload_n hx hb dL_law_737 rfl (lv_at hl 2 rfl) ?_
  refine lv_aload_n hx hb dL_law_738 rfl (lv_at hl 0 rfl) ?_
  refine lv_iload_n hx hb dL_law_739 rfl (lv_at hl 3 rfl) ?_
  refine lv_iconst (v := 1) hx hb dL_law_740 (by decide) ?_
  refine lv_iadd hx hb dL_law_741 ?_
  refine va_sld hx hb hX hbl hbA hS (lw_ix hi (k := 1) (by decide) hL rfl) dL_law_742 ?_
  refine lv_aload_n hx hb dL_law_743 rfl (lv_at hl 0 rfl) ?_
  refine lv_iload_n hx hb dL_law_744 rfl (lv_at hl 3 rfl) ?_
  refine lv_iconst (v := 2) hx hb dL_law_745 (by decide) ?_
  refine lv_iadd hx hb dL_law_746 ?_
  refine va_sld hx hb hX hbl hbA hS (lw_ix hi (k := 2) (by decide) hL rfl) dL_law_747 ?_
  refine lv_aload_n hx hb dL_law_748 rfl (lv_at hl 0 rfl) ?_
  refine lv_iload_n hx hb dL_law_749 rfl (lv_at hl 3 rfl) ?_
  refine lv_iconst (v := 3) hx hb dL_law_750 (by decide) ?_
  refine lv_iadd hx hb dL_law_751 ?_
  refine va_sld hx hb hX hbl hbA hS (lw_ix hi (k := 3) (by decide) hL rfl) dL_law_752 ?_
  refine lx_wi (nx_runV (As := [.int (xs (nI i + 1).toNatClampNeg), .int (xs (nI i + 2).toNatClampNeg), .int (xs (nI i + 3).toNatClampNeg)]) (rest := [.int r]) (b := a2 0) X hS hPm (c_X11_stances l N E H.size a2 wide tall groups tours tourLength rowMany cameBy top east south rolled off kind mark rolls many onward at_ goes firstTour rowWay rowSeen prints homeward ((xs (nI i + 1).toNatClampNeg)) ((xs (nI i + 2).toNatClampNeg)) ((xs (nI i + 3).toNatClampNeg)) hI2 _ h2) (fun q hq => lx_A (z := 0) hS ha2 q hq) qV_RL_75 ⟨rfl, rfl⟩ ⟨Nat.le_of_ble_eq_true rfl, Nat.le_of_ble_eq_true rfl⟩ ⟨Nat.le_of_ble_eq_true rfl, Nat.le_of_ble_eq_true rfl⟩ 0 rfl rfl rfl rfl hl.1 (Nat.le_of_ble_eq_true rfl) dL_law_753) hS (fun q hq => lx_A (z := 0) hS ha2 q hq) hPc (lx_ap cW_ad hPc hba) (fun H locs hPm hPc hS => ?_)
  have hPm : va_P E.1 vwCl (mW E a2 wide tall groups tours tourLength rowMany cameBy top east south rolled off kind mark om.1 om.2 onward at_ goes firstTour rowWay rowSeen prints homeward) H := hPm
  refine lv_icmp_eq (tgt := 1288) hx hb dL_law_756 (by decide) (fun hc => ?_) (fun hc => absurd rfl hc)
  exact hK _ _ _ _ _ _ _ _ _ _ _ _ _ _ _ _ _ _ _ _ _ _ _ _ _ _ _ _ _ _ _ _ _ _ _ _ _ _ _ _ _ _ _ _ _ hR2 H locs ls hPc hPm hS hl
set_option maxHeartbeats 4000000 in
set_option maxRecDepth 100000 in
theorem lc_14 {l : Launch} {e : Env} {E : nx_E} {a a2 : Nat → Nat} {p : Program} {s : State} {m : MethodId} {below : List Frame} {meth : Method} {c : Code} {bq L : Nat} {xs : Nat → Int32} (N : Nat) (hN : NB ≤ N) (hL : L ≤ 3072) (hC : lw_C E a a2 p s m c bq L xs) {i : Nat} (hi : i + 6 ≤ L) (hK : lw_K l e E a a2 p s m below meth c bq i 1288) : lw_K l e E a a2 p s m below meth c bq i 761 := by
  obtain ⟨X, hX, hbl, hI, hI2, ha, ha2, hab, hba⟩ := hC
  obtain ⟨⟨hx, hb, hml, hown, hts⟩, hKK, hSt, hNz⟩ := id X
  have hbA : ¬ lw_A s bq := Nat.not_le.mpr hbl
  intro size on kinds marks nb reached dist lastW par ord paths costs wanted tlen onlyF found steps plen rowW rowS tally wide tall groups tours tourLength rowMany cameBy top east south rolled off kind mark rolls many onward at_ goes firstTour rowWay rowSeen prints homeward hR H locs ls hPc hPm hS hl
  refine lv_aload_n hx hb dL_law_761 rfl (lv_at hl 1 rfl) ?_
  refine lv_aload_n hx hb dL_law_762 rfl (lv_at hl 0 rfl) ?_
  refine lv_iload_n hx hb dL_law_763 rfl (lv_at hl 3 rfl) ?_
  refine lv_iconst (v := 1) hx hb dL_law_764 (by decide) ?_
  refine lv_iadd hx hb dL_law_765 ?_
  refine va_sld hx hb hX hbl hbA hS (lw_ix hi (k := 1) (by decide) hL rfl) dL_law_766 ?_
  refine lv_aload_n hx hb dL_law_767 rfl (lv_at hl 0 rfl) ?_
  refine lv_iload_n hx hb dL_law_768 rfl (lv_at hl 3 rfl) ?_
  refine lv_iconst (v := 2) hx hb dL_law_769 (by decide) ?_
  refine lv_iadd hx hb dL_law_770 ?_
  refine va_sld hx hb hX hbl hbA hS (lw_ix hi (k := 2) (by decide) hL rfl) dL_law_771 ?_
  obtain ⟨r, oc, om, h1, h2, hR2⟩ := s_reach N hN hR ((xs (nI i + 1).toNatClampNeg)) ((xs (nI i + 2).toNatClampNeg))
  refine lx_wi (nx_runV (As := [.int (xs (nI i + 1).toNatClampNeg), .int (xs (nI i + 2).toNatClampNeg)]) (rest := []) (b := a 0) X hS hPc (c_X10_reach l N E H.size a size on kinds marks nb reached dist lastW par ord paths costs wanted tlen onlyF found steps plen rowW rowS tally ((xs (nI i + 1).toNatClampNeg)) ((xs (nI i + 2).toNatClampNeg)) hI _ h1) (fun q hq => lx_A (z := 0) hS ha q hq) qV_RL_76 ⟨rfl, rfl⟩ ⟨Nat.le_of_ble_eq_true rfl, Nat.le_of_ble_eq_true rfl⟩ ⟨Nat.le_of_ble_eq_true rfl, Nat.le_of_ble_eq_true rfl⟩ 0 rfl rfl rfl rfl hl.1 (Nat.le_of_ble_eq_true rfl) dL_law_772) hS (fun q hq => lx_A (z := 0) hS ha q hq) hPm (lx_ap mW_ad hPm hab) (fun H locs hPc hPm hS => ?_)
  have hPc : va_P E.1 vwCl (cW E a size on kinds marks nb oc.1 oc.2.1 oc.2.2.1 oc.2.2.2.1 oc.2.2.2.2.1 oc.2.2.2.2.2 costs wanted tlen onlyF found steps plen rowW rowS tally) H := hPc
  refine lv_aload_n hx hb dL_law_775 rfl (lv_at hl 2 rfl) ?_
  refine lv_aload_n hx hb dL_law_776 rfl (lv_at hl 0 rfl) ?_
  refine lv_iload_n hx hb dL_law_777 rfl (lv_at hl 3 rfl) ?_
  refine lv_iconst (v := 1) hx hb dL_law_778 (by decide) ?_
  refine lv_iadd hx hb dL_law_779 ?_
  refine va_sld hx hb hX hbl hbA hS (lw_ix hi (k := 1) (by decide) hL rfl) dL_law_780 ?_
  refine lv_aload_n hx hb dL_law_781 rfl (lv_at hl 0 rfl) ?_
  refine lv_iload_n hx hb dL_law_782 rfl (lv_at hl 3 rfl) ?_
  refine lv_iconst (v := 2) hx hb dL_law_783 (by decide) ?_
  refine lv_iadd hx hb dL_law_784 ?_
  refine va_sld hx hb hX hbl hbA hS (lw_ix hi (k := 2) (by decide) hL rfl) dL_law_785 ?_
  refine lx_wi (nx_runV (As := [.int (xs (nI i + 1).toNatClampNeg), .int (xs (nI i + 2).toNatClampNeg)]) (rest := [.int r]) (b := a2 0) X hS hPm (c_X11_reach l N E H.size a2 wide tall groups tours tourLength rowMany cameBy top east south rolled off kind mark rolls many onward at_ goes firstTour rowWay rowSeen prints homeward ((xs (nI i + 1).toNatClampNeg)) ((xs (nI i + 2).toNatClampNeg)) hI2 _ h2) (fun q hq => lx_A (z := 0) hS ha2 q hq) qV_RL_79 ⟨rfl, rfl⟩ ⟨Nat.le_of_ble_eq_true rfl, Nat.le_of_ble_eq_true rfl⟩ ⟨Nat.le_of_ble_eq_true rfl, Nat.le_of_ble_eq_true rfl⟩ 0 rfl rfl rfl rfl hl.1 (Nat.le_of_ble_eq_true rfl) dL_law_786) hS (fun q hq => lx_A (z := 0) hS ha2 q hq) hPc (lx_ap cW_ad hPc hba) (fun H locs hPm hPc hS => ?_)
  have hPm : va_P E.1 vwCl (mW E a2 wide tall groups tours tourLength rowMany cameBy top east south rolled off kind mark om.1 om.2 onward at_ goes firstTour rowWay rowSeen prints homeward) H := hPm
  refine lv_icmp_eq (tgt := 1288) hx hb dL_law_789 (by decide) (fun hc => ?_) (fun hc => absurd rfl hc)
  exact hK _ _ _ _ _ _ _ _ _ _ _ _ _ _ _ _ _ _ _ _ _ _ _ _ _ _ _ _ _ _ _ _ _ _ _ _ _ _ _ _ _ _ _ _ _ hR2 H locs ls hPc hPm hS hl
set_option maxHeartbeats 4000000 in
set_option maxRecDepth 100000 in
theorem lc_15 {l : Launch} {e : Env} {E : nx_E} {a a2 : Nat → Nat} {p : Program} {s : State} {m : MethodId} {below : List Frame} {meth : Method} {c : Code} {bq L : Nat} {xs : Nat → Int32} (N : Nat) (hN : NB ≤ N) (hL : L ≤ 3072) (hC : lw_C E a a2 p s m c bq L xs) {i : Nat} (hi : i + 6 ≤ L) (hK : lw_K l e E a a2 p s m below meth c bq i 1288) : lw_K l e E a a2 p s m below meth c bq i 794 := by
  obtain ⟨X, hX, hbl, hI, hI2, ha, ha2, hab, hba⟩ := hC
  obtain ⟨⟨hx, hb, hml, hown, hts⟩, hKK, hSt, hNz⟩ := id X
  have hbA : ¬ lw_A s bq := Nat.not_le.mpr hbl
  intro size on kinds marks nb reached dist lastW par ord paths costs wanted tlen onlyF found steps plen rowW rowS tally wide tall groups tours tourLength rowMany cameBy top east south rolled off kind mark rolls many onward at_ goes firstTour rowWay rowSeen prints homeward hR H locs ls hPc hPm hS hl
  refine lv_aload_n hx hb dL_law_794 rfl (lv_at hl 1 rfl) ?_
  refine lv_aload_n hx hb dL_law_795 rfl (lv_at hl 0 rfl) ?_
  refine lv_iload_n hx hb dL_law_796 rfl (lv_at hl 3 rfl) ?_
  refine lv_iconst (v := 1) hx hb dL_law_797 (by decide) ?_
  refine lv_iadd hx hb dL_law_798 ?_
  refine va_sld hx hb hX hbl hbA hS (lw_ix hi (k := 1) (by decide) hL rfl) dL_law_799 ?_
  refine lv_aload_n hx hb dL_law_800 rfl (lv_at hl 0 rfl) ?_
  refine lv_iload_n hx hb dL_law_801 rfl (lv_at hl 3 rfl) ?_
  refine lv_iconst (v := 2) hx hb dL_law_802 (by decide) ?_
  refine lv_iadd hx hb dL_law_803 ?_
  refine va_sld hx hb hX hbl hbA hS (lw_ix hi (k := 2) (by decide) hL rfl) dL_law_804 ?_
  refine lv_aload_n hx hb dL_law_805 rfl (lv_at hl 0 rfl) ?_
  refine lv_iload_n hx hb dL_law_806 rfl (lv_at hl 3 rfl) ?_
  refine lv_iconst (v := 3) hx hb dL_law_807 (by decide) ?_
  refine lv_iadd hx hb dL_law_808 ?_
  refine va_sld hx hb hX hbl hbA hS (lw_ix hi (k := 3) (by decide) hL rfl) dL_law_809 ?_
  obtain ⟨r, oc, om, h1, h2, hR2⟩ := s_tours N hN hR ((xs (nI i + 1).toNatClampNeg)) ((xs (nI i + 2).toNatClampNeg)) ((xs (nI i + 3).toNatClampNeg))
  refine lx_wi (nx_runV (As := [.int (xs (nI i + 1).toNatClampNeg), .int (xs (nI i + 2).toNatClampNeg), .int (xs (nI i + 3).toNatClampNeg)]) (rest := []) (b := a 0) X hS hPc (c_X10_tours l N E H.size a size on kinds marks nb reached dist lastW par ord paths costs wanted tlen onlyF found steps plen rowW rowS tally ((xs (nI i + 1).toNatClampNeg)) ((xs (nI i + 2).toNatClampNeg)) ((xs (nI i + 3).toNatClampNeg)) hI _ h1) (fun q hq => lx_A (z := 0) hS ha q hq) qV_RL_80 ⟨rfl, rfl⟩ ⟨Nat.le_of_ble_eq_true rfl, Nat.le_of_ble_eq_true rfl⟩ ⟨Nat.le_of_ble_eq_true rfl, Nat.le_of_ble_eq_true rfl⟩ 0 rfl rfl rfl rfl hl.1 (Nat.le_of_ble_eq_true rfl) dL_law_810) hS (fun q hq => lx_A (z := 0) hS ha q hq) hPm (lx_ap mW_ad hPm hab) (fun H locs hPc hPm hS => ?_)
  have hPc : va_P E.1 vwCl (cW E a size on kinds marks nb reached dist lastW par ord paths costs oc.1 oc.2.1 oc.2.2.1 oc.2.2.2.1 oc.2.2.2.2 plen rowW rowS tally) H := hPc
  refine lv_aload_n hx hb dL_law_813 rfl (lv_at hl 2 rfl) ?_
  refine lv_aload_n hx hb dL_law_814 rfl (lv_at hl 0 rfl) ?_
  refine lv_iload_n hx hb dL_law_815 rfl (lv_at hl 3 rfl) ?_
  refine lv_iconst (v := 1) hx hb dL_law_816 (by decide) ?_
  refine lv_iadd hx hb dL_law_817 ?_
  refine va_sld hx hb hX hbl hbA hS (lw_ix hi (k := 1) (by decide) hL rfl) dL_law_818 ?_
  refine lv_aload_n hx hb dL_law_819 rfl (lv_at hl 0 rfl) ?_
  refine lv_iload_n hx hb dL_law_820 rfl (lv_at hl 3 rfl) ?_
  refine lv_iconst (v := 2) hx hb dL_law_821 (by decide) ?_
  refine lv_iadd hx hb dL_law_822 ?_
  refine va_sld hx hb hX hbl hbA hS (lw_ix hi (k := 2) (by decide) hL rfl) dL_law_823 ?_
  refine lv_aload_n hx hb dL_law_824 rfl (lv_at hl 0 rfl) ?_
  refine lv_iload_n hx hb dL_law_825 rfl (lv_at hl 3 rfl) ?_
  refine lv_iconst (v := 3) hx hb dL_law_826 (by decide) ?_
  refine lv_iadd hx hb dL_law_827 ?_
  refine va_sld hx hb hX hbl hbA hS (lw_ix hi (k := 3) (by decide) hL rfl) dL_law_828 ?_
  refine lx_wi (nx_runV (As := [.int (xs (nI i + 1).toNatClampNeg), .int (xs (nI i + 2).toNatClampNeg), .int (xs (nI i + 3).toNatClampNeg)]) (rest := [.int r]) (b := a2 0) X hS hPm (c_X11_tours l N E H.size a2 wide tall groups tours tourLength rowMany cameBy top east south rolled off kind mark rolls many onward at_ goes firstTour rowWay rowSeen prints homeward ((xs (nI i + 1).toNatClampNeg)) ((xs (nI i + 2).toNatClampNeg)) ((xs (nI i + 3).toNatClampNeg)) hI2 _ h2) (fun q hq => lx_A (z := 0) hS ha2 q hq) qV_RL_83 ⟨rfl, rfl⟩ ⟨Nat.le_of_ble_eq_true rfl, Nat.le_of_ble_eq_true rfl⟩ ⟨Nat.le_of_ble_eq_true rfl, Nat.le_of_ble_eq_true rfl⟩ 0 rfl rfl rfl rfl hl.1 (Nat.le_of_ble_eq_true rfl) dL_law_829) hS (fun q hq => lx_A (z := 0) hS ha2 q hq) hPc (lx_ap cW_ad hPc hba) (fun H locs hPm hPc hS => ?_)
  have hPm : va_P E.1 vwCl (mW E a2 wide tall groups om.1 om.2.1 rowMany cameBy top east south rolled off kind mark rolls many onward om.2.2.1 om.2.2.2.1 om.2.2.2.2 rowWay rowSeen prints homeward) H := hPm
  refine lv_icmp_eq (tgt := 1288) hx hb dL_law_832 (by decide) (fun hc => ?_) (fun hc => absurd rfl hc)
  exact hK _ _ _ _ _ _ _ _ _ _ _ _ _ _ _ _ _ _ _ _ _ _ _ _ _ _ _ _ _ _ _ _ _ _ _ _ _ _ _ _ _ _ _ _ _ hR2 H locs ls hPc hPm hS hl
set_option maxHeartbeats 4000000 in
set_option maxRecDepth 100000 in
theorem lc_16 {l : Launch} {e : Env} {E : nx_E} {a a2 : Nat → Nat} {p : Program} {s : State} {m : MethodId} {below : List Frame} {meth : Method} {c : Code} {bq L : Nat} {xs : Nat → Int32} (N : Nat) (hN : NB ≤ N) (hL : L ≤ 3072) (hC : lw_C E a a2 p s m c bq L xs) {i : Nat} (hi : i + 6 ≤ L) (hK : lw_K l e E a a2 p s m below meth c bq i 1288) : lw_K l e E a a2 p s m below meth c bq i 837 := by
  obtain ⟨X, hX, hbl, hI, hI2, ha, ha2, hab, hba⟩ := hC
  obtain ⟨⟨hx, hb, hml, hown, hts⟩, hKK, hSt, hNz⟩ := id X
  have hbA : ¬ lw_A s bq := Nat.not_le.mpr hbl
  intro size on kinds marks nb reached dist lastW par ord paths costs wanted tlen onlyF found steps plen rowW rowS tally wide tall groups tours tourLength rowMany cameBy top east south rolled off kind mark rolls many onward at_ goes firstTour rowWay rowSeen prints homeward hR H locs ls hPc hPm hS hl
  refine lv_aload_n hx hb dL_law_837 rfl (lv_at hl 1 rfl) ?_
  refine lv_aload_n hx hb dL_law_838 rfl (lv_at hl 0 rfl) ?_
  refine lv_iload_n hx hb dL_law_839 rfl (lv_at hl 3 rfl) ?_
  refine lv_iconst (v := 1) hx hb dL_law_840 (by decide) ?_
  refine lv_iadd hx hb dL_law_841 ?_
  refine va_sld hx hb hX hbl hbA hS (lw_ix hi (k := 1) (by decide) hL rfl) dL_law_842 ?_
  refine lv_aload_n hx hb dL_law_843 rfl (lv_at hl 0 rfl) ?_
  refine lv_iload_n hx hb dL_law_844 rfl (lv_at hl 3 rfl) ?_
  refine lv_iconst (v := 2) hx hb dL_law_845 (by decide) ?_
  refine lv_iadd hx hb dL_law_846 ?_
  refine va_sld hx hb hX hbl hbA hS (lw_ix hi (k := 2) (by decide) hL rfl) dL_law_847 ?_
  refine lv_aload_n hx hb dL_law_848 rfl (lv_at hl 0 rfl) ?_
  refine lv_iload_n hx hb dL_law_849 rfl (lv_at hl 3 rfl) ?_
  refine lv_iconst (v := 3) hx hb dL_law_850 (by decide) ?_
  refine lv_iadd hx hb dL_law_851 ?_
  refine va_sld hx hb hX hbl hbA hS (lw_ix hi (k := 3) (by decide) hL rfl) dL_law_852 ?_
  refine lv_aload_n hx hb dL_law_853 rfl (lv_at hl 0 rfl) ?_
  refine lv_iload_n hx hb dL_law_854 rfl (lv_at hl 3 rfl) ?_
  refine lv_iconst (v := 4) hx hb dL_law_855 (by decide) ?_
  refine lv_iadd hx hb dL_law_856 ?_
  refine va_sld hx hb hX hbl hbA hS (lw_ix hi (k := 4) (by decide) hL rfl) dL_law_857 ?_
  obtain ⟨r, oc, om, h1, h2, hR2⟩ := s_tour N hN hR ((xs (nI i + 1).toNatClampNeg)) ((xs (nI i + 2).toNatClampNeg)) ((xs (nI i + 3).toNatClampNeg)) ((xs (nI i + 4).toNatClampNeg))
  refine lx_wi (nx_runV (As := [.int (xs (nI i + 1).toNatClampNeg), .int (xs (nI i + 2).toNatClampNeg), .int (xs (nI i + 3).toNatClampNeg), .int (xs (nI i + 4).toNatClampNeg)]) (rest := []) (b := a 0) X hS hPc (c_X10_tour l N E H.size a size on kinds marks nb reached dist lastW par ord paths costs wanted tlen onlyF found steps plen rowW rowS tally ((xs (nI i + 1).toNatClampNeg)) ((xs (nI i + 2).toNatClampNeg)) ((xs (nI i + 3).toNatClampNeg)) ((xs (nI i + 4).toNatClampNeg)) hI _ h1) (fun q hq => lx_A (z := 0) hS ha q hq) qV_RL_84 ⟨rfl, rfl⟩ ⟨Nat.le_of_ble_eq_true rfl, Nat.le_of_ble_eq_true rfl⟩ ⟨Nat.le_of_ble_eq_true rfl, Nat.le_of_ble_eq_true rfl⟩ 0 rfl rfl rfl rfl hl.1 (Nat.le_of_ble_eq_true rfl) dL_law_858) hS (fun q hq => lx_A (z := 0) hS ha q hq) hPm (lx_ap mW_ad hPm hab) (fun H locs hPc hPm hS => ?_)
  have hPc : va_P E.1 vwCl (cW E a size on kinds marks nb reached dist lastW par ord paths costs oc.1 oc.2.1 oc.2.2.1 oc.2.2.2.1 oc.2.2.2.2 plen rowW rowS tally) H := hPc
  refine lv_aload_n hx hb dL_law_861 rfl (lv_at hl 2 rfl) ?_
  refine lv_aload_n hx hb dL_law_862 rfl (lv_at hl 0 rfl) ?_
  refine lv_iload_n hx hb dL_law_863 rfl (lv_at hl 3 rfl) ?_
  refine lv_iconst (v := 1) hx hb dL_law_864 (by decide) ?_
  refine lv_iadd hx hb dL_law_865 ?_
  refine va_sld hx hb hX hbl hbA hS (lw_ix hi (k := 1) (by decide) hL rfl) dL_law_866 ?_
  refine lv_aload_n hx hb dL_law_867 rfl (lv_at hl 0 rfl) ?_
  refine lv_iload_n hx hb dL_law_868 rfl (lv_at hl 3 rfl) ?_
  refine lv_iconst (v := 2) hx hb dL_law_869 (by decide) ?_
  refine lv_iadd hx hb dL_law_870 ?_
  refine va_sld hx hb hX hbl hbA hS (lw_ix hi (k := 2) (by decide) hL rfl) dL_law_871 ?_
  refine lv_aload_n hx hb dL_law_872 rfl (lv_at hl 0 rfl) ?_
  refine lv_iload_n hx hb dL_law_873 rfl (lv_at hl 3 rfl) ?_
  refine lv_iconst (v := 3) hx hb dL_law_874 (by decide) ?_
  refine lv_iadd hx hb dL_law_875 ?_
  refine va_sld hx hb hX hbl hbA hS (lw_ix hi (k := 3) (by decide) hL rfl) dL_law_876 ?_
  refine lv_aload_n hx hb dL_law_877 rfl (lv_at hl 0 rfl) ?_
  refine lv_iload_n hx hb dL_law_878 rfl (lv_at hl 3 rfl) ?_
  refine lv_iconst (v := 4) hx hb dL_law_879 (by decide) ?_
  refine lv_iadd hx hb dL_law_880 ?_
  refine va_sld hx hb hX hbl hbA hS (lw_ix hi (k := 4) (by decide) hL rfl) dL_law_881 ?_
  refine lx_wi (nx_runV (As := [.int (xs (nI i + 1).toNatClampNeg), .int (xs (nI i + 2).toNatClampNeg), .int (xs (nI i + 3).toNatClampNeg), .int (xs (nI i + 4).toNatClampNeg)]) (rest := [.int r]) (b := a2 0) X hS hPm (c_X11_tour l N E H.size a2 wide tall groups tours tourLength rowMany cameBy top east south rolled off kind mark rolls many onward at_ goes firstTour rowWay rowSeen prints homeward ((xs (nI i + 1).toNatClampNeg)) ((xs (nI i + 2).toNatClampNeg)) ((xs (nI i + 3).toNatClampNeg)) ((xs (nI i + 4).toNatClampNeg)) hI2 _ h2) (fun q hq => lx_A (z := 0) hS ha2 q hq) qV_RL_87 ⟨rfl, rfl⟩ ⟨Nat.le_of_ble_eq_true rfl, Nat.le_of_ble_eq_true rfl⟩ ⟨Nat.le_of_ble_eq_true rfl, Nat.le_of_ble_eq_true rfl⟩ 0 rfl rfl rfl rfl hl.1 (Nat.le_of_ble_eq_true rfl) dL_law_882) hS (fun q hq => lx_A (z := 0) hS ha2 q hq) hPc (lx_ap cW_ad hPc hba) (fun H locs hPm hPc hS => ?_)
  have hPm : va_P E.1 vwCl (mW E a2 wide tall groups om.1 om.2.1 rowMany cameBy top east south rolled off kind mark rolls many onward om.2.2.1 om.2.2.2.1 om.2.2.2.2 rowWay rowSeen prints homeward) H := hPm
  refine lv_icmp_eq (tgt := 1288) hx hb dL_law_885 (by decide) (fun hc => ?_) (fun hc => absurd rfl hc)
  exact hK _ _ _ _ _ _ _ _ _ _ _ _ _ _ _ _ _ _ _ _ _ _ _ _ _ _ _ _ _ _ _ _ _ _ _ _ _ _ _ _ _ _ _ _ _ hR2 H locs ls hPc hPm hS hl
set_option maxHeartbeats 4000000 in
set_option maxRecDepth 100000 in
theorem lc_17 {l : Launch} {e : Env} {E : nx_E} {a a2 : Nat → Nat} {p : Program} {s : State} {m : MethodId} {below : List Frame} {meth : Method} {c : Code} {bq L : Nat} {xs : Nat → Int32} (N : Nat) (hN : NB ≤ N) (hL : L ≤ 3072) (hC : lw_C E a a2 p s m c bq L xs) {i : Nat} (hi : i + 6 ≤ L) (hK : lw_K l e E a a2 p s m below meth c bq i 1288) : lw_K l e E a a2 p s m below meth c bq i 890 := by
  obtain ⟨X, hX, hbl, hI, hI2, ha, ha2, hab, hba⟩ := hC
  obtain ⟨⟨hx, hb, hml, hown, hts⟩, hKK, hSt, hNz⟩ := id X
  have hbA : ¬ lw_A s bq := Nat.not_le.mpr hbl
  intro size on kinds marks nb reached dist lastW par ord paths costs wanted tlen onlyF found steps plen rowW rowS tally wide tall groups tours tourLength rowMany cameBy top east south rolled off kind mark rolls many onward at_ goes firstTour rowWay rowSeen prints homeward hR H locs ls hPc hPm hS hl
  refine lv_aload_n hx hb dL_law_890 rfl (lv_at hl 1 rfl) ?_
  refine lv_aload_n hx hb dL_law_891 rfl (lv_at hl 0 rfl) ?_
  refine lv_iload_n hx hb dL_law_892 rfl (lv_at hl 3 rfl) ?_
  refine lv_iconst (v := 1) hx hb dL_law_893 (by decide) ?_
  refine lv_iadd hx hb dL_law_894 ?_
  refine va_sld hx hb hX hbl hbA hS (lw_ix hi (k := 1) (by decide) hL rfl) dL_law_895 ?_
  refine lv_aload_n hx hb dL_law_896 rfl (lv_at hl 0 rfl) ?_
  refine lv_iload_n hx hb dL_law_897 rfl (lv_at hl 3 rfl) ?_
  refine lv_iconst (v := 2) hx hb dL_law_898 (by decide) ?_
  refine lv_iadd hx hb dL_law_899 ?_
  refine va_sld hx hb hX hbl hbA hS (lw_ix hi (k := 2) (by decide) hL rfl) dL_law_900 ?_
  obtain ⟨r, oc, om, h1, h2, hR2⟩ := s_row N hN hR ((xs (nI i + 1).toNatClampNeg)) ((xs (nI i + 2).toNatClampNeg))
  refine lx_wi (nx_runV (As := [.int (xs (nI i + 1).toNatClampNeg), .int (xs (nI i + 2).toNatClampNeg)]) (rest := []) (b := a 0) X hS hPc (c_X10_row l E H.size a size on kinds marks nb reached dist lastW par ord paths costs wanted tlen onlyF found steps plen rowW rowS tally ((xs (nI i + 1).toNatClampNeg)) ((xs (nI i + 2).toNatClampNeg)) hI _ h1) (fun q hq => lx_A (z := 0) hS ha q hq) qV_RL_88 ⟨rfl, rfl⟩ ⟨Nat.le_of_ble_eq_true rfl, Nat.le_of_ble_eq_true rfl⟩ ⟨Nat.le_of_ble_eq_true rfl, Nat.le_of_ble_eq_true rfl⟩ 0 rfl rfl rfl rfl hl.1 (Nat.le_of_ble_eq_true rfl) dL_law_901) hS (fun q hq => lx_A (z := 0) hS ha q hq) hPm (lx_ap mW_ad hPm hab) (fun H locs hPc hPm hS => ?_)
  have hPc : va_P E.1 vwCl (cW E a size on kinds marks nb reached dist lastW par ord paths costs wanted tlen onlyF found steps oc.1 oc.2.1 oc.2.2 tally) H := hPc
  refine lv_aload_n hx hb dL_law_904 rfl (lv_at hl 2 rfl) ?_
  refine lv_aload_n hx hb dL_law_905 rfl (lv_at hl 0 rfl) ?_
  refine lv_iload_n hx hb dL_law_906 rfl (lv_at hl 3 rfl) ?_
  refine lv_iconst (v := 1) hx hb dL_law_907 (by decide) ?_
  refine lv_iadd hx hb dL_law_908 ?_
  refine va_sld hx hb hX hbl hbA hS (lw_ix hi (k := 1) (by decide) hL rfl) dL_law_909 ?_
  refine lv_aload_n hx hb dL_law_910 rfl (lv_at hl 0 rfl) ?_
  refine lv_iload_n hx hb dL_law_911 rfl (lv_at hl 3 rfl) ?_
  refine lv_iconst (v := 2) hx hb dL_law_912 (by decide) ?_
  refine lv_iadd hx hb dL_law_913 ?_
  refine va_sld hx hb hX hbl hbA hS (lw_ix hi (k := 2) (by decide) hL rfl) dL_law_914 ?_
  refine lx_wi (nx_runV (As := [.int (xs (nI i + 1).toNatClampNeg), .int (xs (nI i + 2).toNatClampNeg)]) (rest := [.int r]) (b := a2 0) X hS hPm (c_X11_row l E H.size a2 wide tall groups tours tourLength rowMany cameBy top east south rolled off kind mark rolls many onward at_ goes firstTour rowWay rowSeen prints homeward ((xs (nI i + 1).toNatClampNeg)) ((xs (nI i + 2).toNatClampNeg)) hI2 _ h2) (fun q hq => lx_A (z := 0) hS ha2 q hq) qV_RL_91 ⟨rfl, rfl⟩ ⟨Nat.le_of_ble_eq_true rfl, Nat.le_of_ble_eq_true rfl⟩ ⟨Nat.le_of_ble_eq_true rfl, Nat.le_of_ble_eq_true rfl⟩ 0 rfl rfl rfl rfl hl.1 (Nat.le_of_ble_eq_true rfl) dL_law_915) hS (fun q hq => lx_A (z := 0) hS ha2 q hq) hPc (lx_ap cW_ad hPc hba) (fun H locs hPm hPc hS => ?_)
  have hPm : va_P E.1 vwCl (mW E a2 wide tall groups tours tourLength om.1 cameBy top east south rolled off kind mark rolls many onward at_ goes firstTour om.2.1 om.2.2 prints homeward) H := hPm
  refine lv_icmp_eq (tgt := 1288) hx hb dL_law_918 (by decide) (fun hc => ?_) (fun hc => absurd rfl hc)
  exact hK _ _ _ _ _ _ _ _ _ _ _ _ _ _ _ _ _ _ _ _ _ _ _ _ _ _ _ _ _ _ _ _ _ _ _ _ _ _ _ _ _ _ _ _ _ hR2 H locs ls hPc hPm hS hl
set_option maxHeartbeats 4000000 in
set_option maxRecDepth 100000 in
theorem lc_18 {l : Launch} {e : Env} {E : nx_E} {a a2 : Nat → Nat} {p : Program} {s : State} {m : MethodId} {below : List Frame} {meth : Method} {c : Code} {bq L : Nat} {xs : Nat → Int32} (N : Nat) (hN : NB ≤ N) (hL : L ≤ 3072) (hC : lw_C E a a2 p s m c bq L xs) {i : Nat} (hi : i + 6 ≤ L) (hK : lw_K l e E a a2 p s m below meth c bq i 1288) : lw_K l e E a a2 p s m below meth c bq i 923 := by
  obtain ⟨X, hX, hbl, hI, hI2, ha, ha2, hab, hba⟩ := hC
  obtain ⟨⟨hx, hb, hml, hown, hts⟩, hKK, hSt, hNz⟩ := id X
  have hbA : ¬ lw_A s bq := Nat.not_le.mpr hbl
  intro size on kinds marks nb reached dist lastW par ord paths costs wanted tlen onlyF found steps plen rowW rowS tally wide tall groups tours tourLength rowMany cameBy top east south rolled off kind mark rolls many onward at_ goes firstTour rowWay rowSeen prints homeward hR H locs ls hPc hPm hS hl
  refine lv_aload_n hx hb dL_law_923 rfl (lv_at hl 1 rfl) ?_
  obtain ⟨r, oc, om, h1, h2, hR2⟩ := s_clear N hN hR
  refine lx_wi (nx_runV (As := []) (rest := []) (b := a 0) X hS hPc (c_X10_clear l E H.size a size on kinds marks nb reached dist lastW par ord paths costs wanted tlen onlyF found steps plen rowW rowS tally hI _ h1) (fun q hq => lx_A (z := 0) hS ha q hq) qV_RL_92 ⟨rfl, rfl⟩ ⟨Nat.le_of_ble_eq_true rfl, Nat.le_of_ble_eq_true rfl⟩ ⟨Nat.le_of_ble_eq_true rfl, Nat.le_of_ble_eq_true rfl⟩ 0 rfl rfl rfl rfl hl.1 (Nat.le_of_ble_eq_true rfl) dL_law_924) hS (fun q hq => lx_A (z := 0) hS ha q hq) hPm (lx_ap mW_ad hPm hab) (fun H locs hPc hPm hS => ?_)
  have hPc : va_P E.1 vwCl (cW E a size on kinds marks nb reached dist lastW par ord paths costs wanted tlen onlyF found steps oc rowW rowS tally) H := hPc
  refine lv_aload_n hx hb dL_law_927 rfl (lv_at hl 2 rfl) ?_
  refine lx_wi (nx_runV (As := []) (rest := [.int r]) (b := a2 0) X hS hPm (c_X11_clear l E H.size a2 wide tall groups tours tourLength rowMany cameBy top east south rolled off kind mark rolls many onward at_ goes firstTour rowWay rowSeen prints homeward hI2 _ h2) (fun q hq => lx_A (z := 0) hS ha2 q hq) qV_RL_96 ⟨rfl, rfl⟩ ⟨Nat.le_of_ble_eq_true rfl, Nat.le_of_ble_eq_true rfl⟩ ⟨Nat.le_of_ble_eq_true rfl, Nat.le_of_ble_eq_true rfl⟩ 0 rfl rfl rfl rfl hl.1 (Nat.le_of_ble_eq_true rfl) dL_law_928) hS (fun q hq => lx_A (z := 0) hS ha2 q hq) hPc (lx_ap cW_ad hPc hba) (fun H locs hPm hPc hS => ?_)
  have hPm : va_P E.1 vwCl (mW E a2 wide tall groups tours tourLength om cameBy top east south rolled off kind mark rolls many onward at_ goes firstTour rowWay rowSeen prints homeward) H := hPm
  refine lv_icmp_eq (tgt := 1288) hx hb dL_law_931 (by decide) (fun hc => ?_) (fun hc => absurd rfl hc)
  exact hK _ _ _ _ _ _ _ _ _ _ _ _ _ _ _ _ _ _ _ _ _ _ _ _ _ _ _ _ _ _ _ _ _ _ _ _ _ _ _ _ _ _ _ _ _ hR2 H locs ls hPc hPm hS hl
set_option maxHeartbeats 4000000 in
set_option maxRecDepth 100000 in
theorem lc_19 {l : Launch} {e : Env} {E : nx_E} {a a2 : Nat → Nat} {p : Program} {s : State} {m : MethodId} {below : List Frame} {meth : Method} {c : Code} {bq L : Nat} {xs : Nat → Int32} (N : Nat) (hN : NB ≤ N) (hL : L ≤ 3072) (hC : lw_C E a a2 p s m c bq L xs) {i : Nat} (hi : i + 6 ≤ L) (hK : lw_K l e E a a2 p s m below meth c bq i 1288) : lw_K l e E a a2 p s m below meth c bq i 936 := by
  obtain ⟨X, hX, hbl, hI, hI2, ha, ha2, hab, hba⟩ := hC
  obtain ⟨⟨hx, hb, hml, hown, hts⟩, hKK, hSt, hNz⟩ := id X
  have hbA : ¬ lw_A s bq := Nat.not_le.mpr hbl
  intro size on kinds marks nb reached dist lastW par ord paths costs wanted tlen onlyF found steps plen rowW rowS tally wide tall groups tours tourLength rowMany cameBy top east south rolled off kind mark rolls many onward at_ goes firstTour rowWay rowSeen prints homeward hR H locs ls hPc hPm hS hl
  refine lv_aload_n hx hb dL_law_936 rfl (lv_at hl 1 rfl) ?_
  obtain ⟨r, h1, h2, hR2⟩ := s_starts N hN hR
  refine lx_i (nx_runV (As := []) (rest := []) (b := a 0) X hS hPc (c_X10_starts l N E H.size a size on kinds marks nb reached dist lastW par ord paths costs wanted tlen onlyF found steps plen rowW rowS tally _ h1) nx_FA qV_RL_97 ⟨rfl, rfl⟩ ⟨Nat.le_of_ble_eq_true rfl, Nat.le_of_ble_eq_true rfl⟩ ⟨Nat.le_of_ble_eq_true rfl, Nat.le_of_ble_eq_true rfl⟩ 0 rfl rfl rfl rfl hl.1 (Nat.le_of_ble_eq_true rfl) dL_law_937) hS nx_FA hPm (fun _ _ _ z => z) (fun H locs hPc hPm hS => ?_)
  refine lv_aload_n hx hb dL_law_940 rfl (lv_at hl 2 rfl) ?_
  refine lx_i (nx_runV (As := []) (rest := [.int r]) (b := a2 0) X hS hPm (c_X11_starts l N E H.size a2 wide tall groups tours tourLength rowMany cameBy top east south rolled off kind mark rolls many onward at_ goes firstTour rowWay rowSeen prints homeward _ h2) nx_FA qV_RL_100 ⟨rfl, rfl⟩ ⟨Nat.le_of_ble_eq_true rfl, Nat.le_of_ble_eq_true rfl⟩ ⟨Nat.le_of_ble_eq_true rfl, Nat.le_of_ble_eq_true rfl⟩ 0 rfl rfl rfl rfl hl.1 (Nat.le_of_ble_eq_true rfl) dL_law_941) hS nx_FA hPc (fun _ _ _ z => z) (fun H locs hPm hPc hS => ?_)
  refine lv_icmp_eq (tgt := 1288) hx hb dL_law_944 (by decide) (fun hc => ?_) (fun hc => absurd rfl hc)
  exact hK _ _ _ _ _ _ _ _ _ _ _ _ _ _ _ _ _ _ _ _ _ _ _ _ _ _ _ _ _ _ _ _ _ _ _ _ _ _ _ _ _ _ _ _ _ hR2 H locs ls hPc hPm hS hl
set_option maxHeartbeats 4000000 in
set_option maxRecDepth 100000 in
theorem lc_20 {l : Launch} {e : Env} {E : nx_E} {a a2 : Nat → Nat} {p : Program} {s : State} {m : MethodId} {below : List Frame} {meth : Method} {c : Code} {bq L : Nat} {xs : Nat → Int32} (N : Nat) (hN : NB ≤ N) (hL : L ≤ 3072) (hC : lw_C E a a2 p s m c bq L xs) {i : Nat} (hi : i + 6 ≤ L) (hK : lw_K l e E a a2 p s m below meth c bq i 1288) : lw_K l e E a a2 p s m below meth c bq i 949 := by
  obtain ⟨X, hX, hbl, hI, hI2, ha, ha2, hab, hba⟩ := hC
  obtain ⟨⟨hx, hb, hml, hown, hts⟩, hKK, hSt, hNz⟩ := id X
  have hbA : ¬ lw_A s bq := Nat.not_le.mpr hbl
  intro size on kinds marks nb reached dist lastW par ord paths costs wanted tlen onlyF found steps plen rowW rowS tally wide tall groups tours tourLength rowMany cameBy top east south rolled off kind mark rolls many onward at_ goes firstTour rowWay rowSeen prints homeward hR H locs ls hPc hPm hS hl
  refine lv_aload_n hx hb dL_law_949 rfl (lv_at hl 1 rfl) ?_
  refine lv_aload_n hx hb dL_law_950 rfl (lv_at hl 0 rfl) ?_
  refine lv_iload_n hx hb dL_law_951 rfl (lv_at hl 3 rfl) ?_
  refine lv_iconst (v := 1) hx hb dL_law_952 (by decide) ?_
  refine lv_iadd hx hb dL_law_953 ?_
  refine va_sld hx hb hX hbl hbA hS (lw_ix hi (k := 1) (by decide) hL rfl) dL_law_954 ?_
  obtain ⟨r, h1, h2, hR2⟩ := s_start N hN hR ((xs (nI i + 1).toNatClampNeg))
  refine lx_i (nx_runV (As := [.int (xs (nI i + 1).toNatClampNeg)]) (rest := []) (b := a 0) X hS hPc (c_X10_start l N E H.size a size on kinds marks nb reached dist lastW par ord paths costs wanted tlen onlyF found steps plen rowW rowS tally ((xs (nI i + 1).toNatClampNeg)) _ h1) nx_FA qV_RL_101 ⟨rfl, rfl⟩ ⟨Nat.le_of_ble_eq_true rfl, Nat.le_of_ble_eq_true rfl⟩ ⟨Nat.le_of_ble_eq_true rfl, Nat.le_of_ble_eq_true rfl⟩ 0 rfl rfl rfl rfl hl.1 (Nat.le_of_ble_eq_true rfl) dL_law_955) hS nx_FA hPm (fun _ _ _ z => z) (fun H locs hPc hPm hS => ?_)
  refine lv_aload_n hx hb dL_law_958 rfl (lv_at hl 2 rfl) ?_
  refine lv_aload_n hx hb dL_law_959 rfl (lv_at hl 0 rfl) ?_
  refine lv_iload_n hx hb dL_law_960 rfl (lv_at hl 3 rfl) ?_
  refine lv_iconst (v := 1) hx hb dL_law_961 (by decide) ?_
  refine lv_iadd hx hb dL_law_962 ?_
  refine va_sld hx hb hX hbl hbA hS (lw_ix hi (k := 1) (by decide) hL rfl) dL_law_963 ?_
  refine lx_i (nx_runV (As := [.int (xs (nI i + 1).toNatClampNeg)]) (rest := [.int r]) (b := a2 0) X hS hPm (c_X11_start l N E H.size a2 wide tall groups tours tourLength rowMany cameBy top east south rolled off kind mark rolls many onward at_ goes firstTour rowWay rowSeen prints homeward ((xs (nI i + 1).toNatClampNeg)) _ h2) nx_FA qV_RL_104 ⟨rfl, rfl⟩ ⟨Nat.le_of_ble_eq_true rfl, Nat.le_of_ble_eq_true rfl⟩ ⟨Nat.le_of_ble_eq_true rfl, Nat.le_of_ble_eq_true rfl⟩ 0 rfl rfl rfl rfl hl.1 (Nat.le_of_ble_eq_true rfl) dL_law_964) hS nx_FA hPc (fun _ _ _ z => z) (fun H locs hPm hPc hS => ?_)
  refine lv_icmp_eq (tgt := 1288) hx hb dL_law_967 (by decide) (fun hc => ?_) (fun hc => absurd rfl hc)
  exact hK _ _ _ _ _ _ _ _ _ _ _ _ _ _ _ _ _ _ _ _ _ _ _ _ _ _ _ _ _ _ _ _ _ _ _ _ _ _ _ _ _ _ _ _ _ hR2 H locs ls hPc hPm hS hl
set_option maxHeartbeats 4000000 in
set_option maxRecDepth 100000 in
theorem lc_21 {l : Launch} {e : Env} {E : nx_E} {a a2 : Nat → Nat} {p : Program} {s : State} {m : MethodId} {below : List Frame} {meth : Method} {c : Code} {bq L : Nat} {xs : Nat → Int32} (N : Nat) (hN : NB ≤ N) (hL : L ≤ 3072) (hC : lw_C E a a2 p s m c bq L xs) {i : Nat} (hi : i + 6 ≤ L) (hK : lw_K l e E a a2 p s m below meth c bq i 1288) : lw_K l e E a a2 p s m below meth c bq i 972 := by
  obtain ⟨X, hX, hbl, hI, hI2, ha, ha2, hab, hba⟩ := hC
  obtain ⟨⟨hx, hb, hml, hown, hts⟩, hKK, hSt, hNz⟩ := id X
  have hbA : ¬ lw_A s bq := Nat.not_le.mpr hbl
  intro size on kinds marks nb reached dist lastW par ord paths costs wanted tlen onlyF found steps plen rowW rowS tally wide tall groups tours tourLength rowMany cameBy top east south rolled off kind mark rolls many onward at_ goes firstTour rowWay rowSeen prints homeward hR H locs ls hPc hPm hS hl
  refine lv_aload_n hx hb dL_law_972 rfl (lv_at hl 1 rfl) ?_
  refine lv_aload_n hx hb dL_law_973 rfl (lv_at hl 0 rfl) ?_
  refine lv_iload_n hx hb dL_law_974 rfl (lv_at hl 3 rfl) ?_
  refine lv_iconst (v := 1) hx hb dL_law_975 (by decide) ?_
  refine lv_iadd hx hb dL_law_976 ?_
  refine va_sld hx hb hX hbl hbA hS (lw_ix hi (k := 1) (by decide) hL rfl) dL_law_977 ?_
  obtain ⟨r, h1, h2, hR2⟩ := s_sure N hN hR ((xs (nI i + 1).toNatClampNeg))
  refine lx_i (nx_runV (As := [.int (xs (nI i + 1).toNatClampNeg)]) (rest := []) (b := a 0) X hS hPc (c_X10_sure l N E H.size a size on kinds marks nb reached dist lastW par ord paths costs wanted tlen onlyF found steps plen rowW rowS tally ((xs (nI i + 1).toNatClampNeg)) _ h1) nx_FA qV_RL_105 ⟨rfl, rfl⟩ ⟨Nat.le_of_ble_eq_true rfl, Nat.le_of_ble_eq_true rfl⟩ ⟨Nat.le_of_ble_eq_true rfl, Nat.le_of_ble_eq_true rfl⟩ 0 rfl rfl rfl rfl hl.1 (Nat.le_of_ble_eq_true rfl) dL_law_978) hS nx_FA hPm (fun _ _ _ z => z) (fun H locs hPc hPm hS => ?_)
  refine lv_aload_n hx hb dL_law_981 rfl (lv_at hl 2 rfl) ?_
  refine lv_aload_n hx hb dL_law_982 rfl (lv_at hl 0 rfl) ?_
  refine lv_iload_n hx hb dL_law_983 rfl (lv_at hl 3 rfl) ?_
  refine lv_iconst (v := 1) hx hb dL_law_984 (by decide) ?_
  refine lv_iadd hx hb dL_law_985 ?_
  refine va_sld hx hb hX hbl hbA hS (lw_ix hi (k := 1) (by decide) hL rfl) dL_law_986 ?_
  refine lx_i (nx_runV (As := [.int (xs (nI i + 1).toNatClampNeg)]) (rest := [.int r]) (b := a2 0) X hS hPm (c_X11_sure l N E H.size a2 wide tall groups tours tourLength rowMany cameBy top east south rolled off kind mark rolls many onward at_ goes firstTour rowWay rowSeen prints homeward ((xs (nI i + 1).toNatClampNeg)) _ h2) nx_FA qV_RL_108 ⟨rfl, rfl⟩ ⟨Nat.le_of_ble_eq_true rfl, Nat.le_of_ble_eq_true rfl⟩ ⟨Nat.le_of_ble_eq_true rfl, Nat.le_of_ble_eq_true rfl⟩ 0 rfl rfl rfl rfl hl.1 (Nat.le_of_ble_eq_true rfl) dL_law_987) hS nx_FA hPc (fun _ _ _ z => z) (fun H locs hPm hPc hS => ?_)
  refine lv_icmp_eq (tgt := 1288) hx hb dL_law_990 (by decide) (fun hc => ?_) (fun hc => absurd rfl hc)
  exact hK _ _ _ _ _ _ _ _ _ _ _ _ _ _ _ _ _ _ _ _ _ _ _ _ _ _ _ _ _ _ _ _ _ _ _ _ _ _ _ _ _ _ _ _ _ hR2 H locs ls hPc hPm hS hl
set_option maxHeartbeats 4000000 in
set_option maxRecDepth 100000 in
theorem lc_22 {l : Launch} {e : Env} {E : nx_E} {a a2 : Nat → Nat} {p : Program} {s : State} {m : MethodId} {below : List Frame} {meth : Method} {c : Code} {bq L : Nat} {xs : Nat → Int32} (N : Nat) (hN : NB ≤ N) (hL : L ≤ 3072) (hC : lw_C E a a2 p s m c bq L xs) {i : Nat} (hi : i + 6 ≤ L) (hK : lw_K l e E a a2 p s m below meth c bq i 1288) : lw_K l e E a a2 p s m below meth c bq i 995 := by
  obtain ⟨X, hX, hbl, hI, hI2, ha, ha2, hab, hba⟩ := hC
  obtain ⟨⟨hx, hb, hml, hown, hts⟩, hKK, hSt, hNz⟩ := id X
  have hbA : ¬ lw_A s bq := Nat.not_le.mpr hbl
  intro size on kinds marks nb reached dist lastW par ord paths costs wanted tlen onlyF found steps plen rowW rowS tally wide tall groups tours tourLength rowMany cameBy top east south rolled off kind mark rolls many onward at_ goes firstTour rowWay rowSeen prints homeward hR H locs ls hPc hPm hS hl
  refine lv_aload_n hx hb dL_law_995 rfl (lv_at hl 1 rfl) ?_
  obtain ⟨r, oc, om, h1, h2, hR2⟩ := s_next N hN hR
  refine lx_wi (nx_runV (As := []) (rest := []) (b := a 0) X hS hPc (c_X10_next l N E H.size a size on kinds marks nb reached dist lastW par ord paths costs wanted tlen onlyF found steps plen rowW rowS tally hI _ h1) (fun q hq => lx_A (z := 0) hS ha q hq) qV_RL_109 ⟨rfl, rfl⟩ ⟨Nat.le_of_ble_eq_true rfl, Nat.le_of_ble_eq_true rfl⟩ ⟨Nat.le_of_ble_eq_true rfl, Nat.le_of_ble_eq_true rfl⟩ 0 rfl rfl rfl rfl hl.1 (Nat.le_of_ble_eq_true rfl) dL_law_996) hS (fun q hq => lx_A (z := 0) hS ha q hq) hPm (lx_ap mW_ad hPm hab) (fun H locs hPc hPm hS => ?_)
  have hPc : va_P E.1 vwCl (cW E a size on kinds marks nb reached dist lastW par ord paths costs wanted tlen onlyF found steps plen rowW rowS oc) H := hPc
  refine lv_aload_n hx hb dL_law_999 rfl (lv_at hl 2 rfl) ?_
  refine lx_wi (nx_runV (As := []) (rest := [.int r]) (b := a2 0) X hS hPm (c_X11_next l N E H.size a2 wide tall groups tours tourLength rowMany cameBy top east south rolled off kind mark rolls many onward at_ goes firstTour rowWay rowSeen prints homeward hI2 _ h2) (fun q hq => lx_A (z := 0) hS ha2 q hq) qV_RL_112 ⟨rfl, rfl⟩ ⟨Nat.le_of_ble_eq_true rfl, Nat.le_of_ble_eq_true rfl⟩ ⟨Nat.le_of_ble_eq_true rfl, Nat.le_of_ble_eq_true rfl⟩ 0 rfl rfl rfl rfl hl.1 (Nat.le_of_ble_eq_true rfl) dL_law_1000) hS (fun q hq => lx_A (z := 0) hS ha2 q hq) hPc (lx_ap cW_ad hPc hba) (fun H locs hPm hPc hS => ?_)
  have hPm : va_P E.1 vwCl (mW E a2 wide tall groups tours tourLength rowMany cameBy top east south rolled off kind mark rolls many onward at_ goes firstTour rowWay rowSeen om homeward) H := hPm
  refine lv_icmp_eq (tgt := 1288) hx hb dL_law_1003 (by decide) (fun hc => ?_) (fun hc => absurd rfl hc)
  exact hK _ _ _ _ _ _ _ _ _ _ _ _ _ _ _ _ _ _ _ _ _ _ _ _ _ _ _ _ _ _ _ _ _ _ _ _ _ _ _ _ _ _ _ _ _ hR2 H locs ls hPc hPm hS hl
set_option maxHeartbeats 4000000 in
set_option maxRecDepth 100000 in
theorem lc_23 {l : Launch} {e : Env} {E : nx_E} {a a2 : Nat → Nat} {p : Program} {s : State} {m : MethodId} {below : List Frame} {meth : Method} {c : Code} {bq L : Nat} {xs : Nat → Int32} (N : Nat) (hN : NB ≤ N) (hL : L ≤ 3072) (hC : lw_C E a a2 p s m c bq L xs) {i : Nat} (hi : i + 6 ≤ L) (hK : lw_K l e E a a2 p s m below meth c bq i 1288) : lw_K l e E a a2 p s m below meth c bq i 1008 := by
  obtain ⟨X, hX, hbl, hI, hI2, ha, ha2, hab, hba⟩ := hC
  obtain ⟨⟨hx, hb, hml, hown, hts⟩, hKK, hSt, hNz⟩ := id X
  have hbA : ¬ lw_A s bq := Nat.not_le.mpr hbl
  intro size on kinds marks nb reached dist lastW par ord paths costs wanted tlen onlyF found steps plen rowW rowS tally wide tall groups tours tourLength rowMany cameBy top east south rolled off kind mark rolls many onward at_ goes firstTour rowWay rowSeen prints homeward hR H locs ls hPc hPm hS hl
  refine lv_aload_n hx hb dL_law_1008 rfl (lv_at hl 1 rfl) ?_
  refine lv_aload_n hx hb dL_law_1009 rfl (lv_at hl 0 rfl) ?_
  refine lv_iload_n hx hb dL_law_1010 rfl (lv_at hl 3 rfl) ?_
  refine lv_iconst (v := 1) hx hb dL_law_1011 (by decide) ?_
  refine lv_iadd hx hb dL_law_1012 ?_
  refine va_sld hx hb hX hbl hbA hS (lw_ix hi (k := 1) (by decide) hL rfl) dL_law_1013 ?_
  obtain ⟨r, h1, h2, hR2⟩ := s_sound N hN hR ((xs (nI i + 1).toNatClampNeg))
  refine lx_i (nx_runV (As := [.int (xs (nI i + 1).toNatClampNeg)]) (rest := []) (b := a 0) X hS hPc (c_X10_sound l E H.size a size on kinds marks nb reached dist lastW par ord paths costs wanted tlen onlyF found steps plen rowW rowS tally ((xs (nI i + 1).toNatClampNeg)) _ h1) nx_FA qV_RL_113 ⟨rfl, rfl⟩ ⟨Nat.le_of_ble_eq_true rfl, Nat.le_of_ble_eq_true rfl⟩ ⟨Nat.le_of_ble_eq_true rfl, Nat.le_of_ble_eq_true rfl⟩ 0 rfl rfl rfl rfl hl.1 (Nat.le_of_ble_eq_true rfl) dL_law_1014) hS nx_FA hPm (fun _ _ _ z => z) (fun H locs hPc hPm hS => ?_)
  refine lv_aload_n hx hb dL_law_1017 rfl (lv_at hl 2 rfl) ?_
  refine lv_aload_n hx hb dL_law_1018 rfl (lv_at hl 0 rfl) ?_
  refine lv_iload_n hx hb dL_law_1019 rfl (lv_at hl 3 rfl) ?_
  refine lv_iconst (v := 1) hx hb dL_law_1020 (by decide) ?_
  refine lv_iadd hx hb dL_law_1021 ?_
  refine va_sld hx hb hX hbl hbA hS (lw_ix hi (k := 1) (by decide) hL rfl) dL_law_1022 ?_
  refine lx_i (nx_runV (As := [.int (xs (nI i + 1).toNatClampNeg)]) (rest := [.int r]) (b := a2 0) X hS hPm (c_X11_sound l E H.size a2 wide tall groups tours tourLength rowMany cameBy top east south rolled off kind mark rolls many onward at_ goes firstTour rowWay rowSeen prints homeward ((xs (nI i + 1).toNatClampNeg)) _ h2) nx_FA qV_RL_116 ⟨rfl, rfl⟩ ⟨Nat.le_of_ble_eq_true rfl, Nat.le_of_ble_eq_true rfl⟩ ⟨Nat.le_of_ble_eq_true rfl, Nat.le_of_ble_eq_true rfl⟩ 0 rfl rfl rfl rfl hl.1 (Nat.le_of_ble_eq_true rfl) dL_law_1023) hS nx_FA hPc (fun _ _ _ z => z) (fun H locs hPm hPc hS => ?_)
  refine lv_icmp_eq (tgt := 1288) hx hb dL_law_1026 (by decide) (fun hc => ?_) (fun hc => absurd rfl hc)
  exact hK _ _ _ _ _ _ _ _ _ _ _ _ _ _ _ _ _ _ _ _ _ _ _ _ _ _ _ _ _ _ _ _ _ _ _ _ _ _ _ _ _ _ _ _ _ hR2 H locs ls hPc hPm hS hl
set_option maxHeartbeats 4000000 in
set_option maxRecDepth 100000 in
theorem lc_24 {l : Launch} {e : Env} {E : nx_E} {a a2 : Nat → Nat} {p : Program} {s : State} {m : MethodId} {below : List Frame} {meth : Method} {c : Code} {bq L : Nat} {xs : Nat → Int32} (N : Nat) (hN : NB ≤ N) (hL : L ≤ 3072) (hC : lw_C E a a2 p s m c bq L xs) {i : Nat} (hi : i + 6 ≤ L) (hK : lw_K l e E a a2 p s m below meth c bq i 1288) : lw_K l e E a a2 p s m below meth c bq i 1031 := by
  obtain ⟨X, hX, hbl, hI, hI2, ha, ha2, hab, hba⟩ := hC
  obtain ⟨⟨hx, hb, hml, hown, hts⟩, hKK, hSt, hNz⟩ := id X
  have hbA : ¬ lw_A s bq := Nat.not_le.mpr hbl
  intro size on kinds marks nb reached dist lastW par ord paths costs wanted tlen onlyF found steps plen rowW rowS tally wide tall groups tours tourLength rowMany cameBy top east south rolled off kind mark rolls many onward at_ goes firstTour rowWay rowSeen prints homeward hR H locs ls hPc hPm hS hl
  refine lv_aload_n hx hb dL_law_1031 rfl (lv_at hl 1 rfl) ?_
  refine lv_aload_n hx hb dL_law_1032 rfl (lv_at hl 0 rfl) ?_
  refine lv_iload_n hx hb dL_law_1033 rfl (lv_at hl 3 rfl) ?_
  refine lv_iconst (v := 1) hx hb dL_law_1034 (by decide) ?_
  refine lv_iadd hx hb dL_law_1035 ?_
  refine va_sld hx hb hX hbl hbA hS (lw_ix hi (k := 1) (by decide) hL rfl) dL_law_1036 ?_
  refine lv_aload_n hx hb dL_law_1037 rfl (lv_at hl 0 rfl) ?_
  refine lv_iload_n hx hb dL_law_1038 rfl (lv_at hl 3 rfl) ?_
  refine lv_iconst (v := 2) hx hb dL_law_1039 (by decide) ?_
  refine lv_iadd hx hb dL_law_1040 ?_
  refine va_sld hx hb hX hbl hbA hS (lw_ix hi (k := 2) (by decide) hL rfl) dL_law_1041 ?_
  obtain ⟨r, h1, h2, hR2⟩ := s_rolls N hN hR ((xs (nI i + 1).toNatClampNeg)) ((xs (nI i + 2).toNatClampNeg))
  refine lx_i (nx_runV (As := [.int (xs (nI i + 1).toNatClampNeg), .int (xs (nI i + 2).toNatClampNeg)]) (rest := []) (b := a 0) X hS hPc (c_X10_rolls l E H.size a size on kinds marks nb reached dist lastW par ord paths costs wanted tlen onlyF found steps plen rowW rowS tally ((xs (nI i + 1).toNatClampNeg)) ((xs (nI i + 2).toNatClampNeg)) _ h1) nx_FA qV_RL_117 ⟨rfl, rfl⟩ ⟨Nat.le_of_ble_eq_true rfl, Nat.le_of_ble_eq_true rfl⟩ ⟨Nat.le_of_ble_eq_true rfl, Nat.le_of_ble_eq_true rfl⟩ 0 rfl rfl rfl rfl hl.1 (Nat.le_of_ble_eq_true rfl) dL_law_1042) hS nx_FA hPm (fun _ _ _ z => z) (fun H locs hPc hPm hS => ?_)
  refine lv_aload_n hx hb dL_law_1045 rfl (lv_at hl 2 rfl) ?_
  refine lv_aload_n hx hb dL_law_1046 rfl (lv_at hl 0 rfl) ?_
  refine lv_iload_n hx hb dL_law_1047 rfl (lv_at hl 3 rfl) ?_
  refine lv_iconst (v := 1) hx hb dL_law_1048 (by decide) ?_
  refine lv_iadd hx hb dL_law_1049 ?_
  refine va_sld hx hb hX hbl hbA hS (lw_ix hi (k := 1) (by decide) hL rfl) dL_law_1050 ?_
  refine lv_aload_n hx hb dL_law_1051 rfl (lv_at hl 0 rfl) ?_
  refine lv_iload_n hx hb dL_law_1052 rfl (lv_at hl 3 rfl) ?_
  refine lv_iconst (v := 2) hx hb dL_law_1053 (by decide) ?_
  refine lv_iadd hx hb dL_law_1054 ?_
  refine va_sld hx hb hX hbl hbA hS (lw_ix hi (k := 2) (by decide) hL rfl) dL_law_1055 ?_
  refine lx_i (nx_runV (As := [.int (xs (nI i + 1).toNatClampNeg), .int (xs (nI i + 2).toNatClampNeg)]) (rest := [.int r]) (b := a2 0) X hS hPm (c_X11_rolls l E H.size a2 wide tall groups tours tourLength rowMany cameBy top east south rolled off kind mark rolls many onward at_ goes firstTour rowWay rowSeen prints homeward ((xs (nI i + 1).toNatClampNeg)) ((xs (nI i + 2).toNatClampNeg)) _ h2) nx_FA qV_RL_120 ⟨rfl, rfl⟩ ⟨Nat.le_of_ble_eq_true rfl, Nat.le_of_ble_eq_true rfl⟩ ⟨Nat.le_of_ble_eq_true rfl, Nat.le_of_ble_eq_true rfl⟩ 0 rfl rfl rfl rfl hl.1 (Nat.le_of_ble_eq_true rfl) dL_law_1056) hS nx_FA hPc (fun _ _ _ z => z) (fun H locs hPm hPc hS => ?_)
  refine lv_icmp_eq (tgt := 1288) hx hb dL_law_1059 (by decide) (fun hc => ?_) (fun hc => absurd rfl hc)
  exact hK _ _ _ _ _ _ _ _ _ _ _ _ _ _ _ _ _ _ _ _ _ _ _ _ _ _ _ _ _ _ _ _ _ _ _ _ _ _ _ _ _ _ _ _ _ hR2 H locs ls hPc hPm hS hl
set_option maxHeartbeats 4000000 in
set_option maxRecDepth 100000 in
theorem lc_25 {l : Launch} {e : Env} {E : nx_E} {a a2 : Nat → Nat} {p : Program} {s : State} {m : MethodId} {below : List Frame} {meth : Method} {c : Code} {bq L : Nat} {xs : Nat → Int32} (N : Nat) (hN : NB ≤ N) (hL : L ≤ 3072) (hC : lw_C E a a2 p s m c bq L xs) {i : Nat} (hi : i + 6 ≤ L) (hK : lw_K l e E a a2 p s m below meth c bq i 1288) : lw_K l e E a a2 p s m below meth c bq i 1064 := by
  obtain ⟨X, hX, hbl, hI, hI2, ha, ha2, hab, hba⟩ := hC
  obtain ⟨⟨hx, hb, hml, hown, hts⟩, hKK, hSt, hNz⟩ := id X
  have hbA : ¬ lw_A s bq := Nat.not_le.mpr hbl
  intro size on kinds marks nb reached dist lastW par ord paths costs wanted tlen onlyF found steps plen rowW rowS tally wide tall groups tours tourLength rowMany cameBy top east south rolled off kind mark rolls many onward at_ goes firstTour rowWay rowSeen prints homeward hR H locs ls hPc hPm hS hl
  refine lv_aload_n hx hb dL_law_1064 rfl (lv_at hl 1 rfl) ?_
  refine lv_aload_n hx hb dL_law_1065 rfl (lv_at hl 0 rfl) ?_
  refine lv_iload_n hx hb dL_law_1066 rfl (lv_at hl 3 rfl) ?_
  refine lv_iconst (v := 1) hx hb dL_law_1067 (by decide) ?_
  refine lv_iadd hx hb dL_law_1068 ?_
  refine va_sld hx hb hX hbl hbA hS (lw_ix hi (k := 1) (by decide) hL rfl) dL_law_1069 ?_
  refine lv_aload_n hx hb dL_law_1070 rfl (lv_at hl 0 rfl) ?_
  refine lv_iload_n hx hb dL_law_1071 rfl (lv_at hl 3 rfl) ?_
  refine lv_iconst (v := 2) hx hb dL_law_1072 (by decide) ?_
  refine lv_iadd hx hb dL_law_1073 ?_
  refine va_sld hx hb hX hbl hbA hS (lw_ix hi (k := 2) (by decide) hL rfl) dL_law_1074 ?_
  obtain ⟨r, oc, om, h1, h2, hR2⟩ := s_home N hN hR ((xs (nI i + 1).toNatClampNeg)) ((xs (nI i + 2).toNatClampNeg))
  refine lx_wi (nx_runV (As := [.int (xs (nI i + 1).toNatClampNeg), .int (xs (nI i + 2).toNatClampNeg)]) (rest := []) (b := a 0) X hS hPc (c_X10_home l N E H.size a size on kinds marks nb reached dist lastW par ord paths costs wanted tlen onlyF found steps plen rowW rowS tally ((xs (nI i + 1).toNatClampNeg)) ((xs (nI i + 2).toNatClampNeg)) hI _ h1) (fun q hq => lx_A (z := 0) hS ha q hq) qV_RL_121 ⟨rfl, rfl⟩ ⟨Nat.le_of_ble_eq_true rfl, Nat.le_of_ble_eq_true rfl⟩ ⟨Nat.le_of_ble_eq_true rfl, Nat.le_of_ble_eq_true rfl⟩ 0 rfl rfl rfl rfl hl.1 (Nat.le_of_ble_eq_true rfl) dL_law_1075) hS (fun q hq => lx_A (z := 0) hS ha q hq) hPm (lx_ap mW_ad hPm hab) (fun H locs hPc hPm hS => ?_)
  have hPc : va_P E.1 vwCl (cW E a size on kinds marks nb oc.1 oc.2.1 oc.2.2.1 oc.2.2.2.1 oc.2.2.2.2.1 oc.2.2.2.2.2 costs wanted tlen onlyF found steps plen rowW rowS tally) H := hPc
  refine lv_aload_n hx hb dL_law_1078 rfl (lv_at hl 2 rfl) ?_
  refine lv_aload_n hx hb dL_law_1079 rfl (lv_at hl 0 rfl) ?_
  refine lv_iload_n hx hb dL_law_1080 rfl (lv_at hl 3 rfl) ?_
  refine lv_iconst (v := 1) hx hb dL_law_1081 (by decide) ?_
  refine lv_iadd hx hb dL_law_1082 ?_
  refine va_sld hx hb hX hbl hbA hS (lw_ix hi (k := 1) (by decide) hL rfl) dL_law_1083 ?_
  refine lv_aload_n hx hb dL_law_1084 rfl (lv_at hl 0 rfl) ?_
  refine lv_iload_n hx hb dL_law_1085 rfl (lv_at hl 3 rfl) ?_
  refine lv_iconst (v := 2) hx hb dL_law_1086 (by decide) ?_
  refine lv_iadd hx hb dL_law_1087 ?_
  refine va_sld hx hb hX hbl hbA hS (lw_ix hi (k := 2) (by decide) hL rfl) dL_law_1088 ?_
  refine lx_wi (nx_runV (As := [.int (xs (nI i + 1).toNatClampNeg), .int (xs (nI i + 2).toNatClampNeg)]) (rest := [.int r]) (b := a2 0) X hS hPm (c_X11_home l N E H.size a2 wide tall groups tours tourLength rowMany cameBy top east south rolled off kind mark rolls many onward at_ goes firstTour rowWay rowSeen prints homeward ((xs (nI i + 1).toNatClampNeg)) ((xs (nI i + 2).toNatClampNeg)) hI2 _ h2) (fun q hq => lx_A (z := 0) hS ha2 q hq) qV_RL_124 ⟨rfl, rfl⟩ ⟨Nat.le_of_ble_eq_true rfl, Nat.le_of_ble_eq_true rfl⟩ ⟨Nat.le_of_ble_eq_true rfl, Nat.le_of_ble_eq_true rfl⟩ 0 rfl rfl rfl rfl hl.1 (Nat.le_of_ble_eq_true rfl) dL_law_1089) hS (fun q hq => lx_A (z := 0) hS ha2 q hq) hPc (lx_ap cW_ad hPc hba) (fun H locs hPm hPc hS => ?_)
  have hPm : va_P E.1 vwCl (mW E a2 wide tall groups tours tourLength rowMany cameBy top east south rolled off kind mark rolls many onward at_ goes firstTour rowWay rowSeen prints om) H := hPm
  refine lv_icmp_eq (tgt := 1288) hx hb dL_law_1092 (by decide) (fun hc => ?_) (fun hc => absurd rfl hc)
  exact hK _ _ _ _ _ _ _ _ _ _ _ _ _ _ _ _ _ _ _ _ _ _ _ _ _ _ _ _ _ _ _ _ _ _ _ _ _ _ _ _ _ _ _ _ _ hR2 H locs ls hPc hPm hS hl
set_option maxHeartbeats 4000000 in
set_option maxRecDepth 100000 in
theorem lc_26 {l : Launch} {e : Env} {E : nx_E} {a a2 : Nat → Nat} {p : Program} {s : State} {m : MethodId} {below : List Frame} {meth : Method} {c : Code} {bq L : Nat} {xs : Nat → Int32} (N : Nat) (hN : NB ≤ N) (hL : L ≤ 3072) (hC : lw_C E a a2 p s m c bq L xs) {i : Nat} (hi : i + 6 ≤ L) (hK : lw_K l e E a a2 p s m below meth c bq i 1288) : lw_K l e E a a2 p s m below meth c bq i 1097 := by
  obtain ⟨X, hX, hbl, hI, hI2, ha, ha2, hab, hba⟩ := hC
  obtain ⟨⟨hx, hb, hml, hown, hts⟩, hKK, hSt, hNz⟩ := id X
  have hbA : ¬ lw_A s bq := Nat.not_le.mpr hbl
  intro size on kinds marks nb reached dist lastW par ord paths costs wanted tlen onlyF found steps plen rowW rowS tally wide tall groups tours tourLength rowMany cameBy top east south rolled off kind mark rolls many onward at_ goes firstTour rowWay rowSeen prints homeward hR H locs ls hPc hPm hS hl
  refine lv_aload_n hx hb dL_law_1097 rfl (lv_at hl 1 rfl) ?_
  refine lv_aload_n hx hb dL_law_1098 rfl (lv_at hl 0 rfl) ?_
  refine lv_iload_n hx hb dL_law_1099 rfl (lv_at hl 3 rfl) ?_
  refine lv_iconst (v := 1) hx hb dL_law_1100 (by decide) ?_
  refine lv_iadd hx hb dL_law_1101 ?_
  refine va_sld hx hb hX hbl hbA hS (lw_ix hi (k := 1) (by decide) hL rfl) dL_law_1102 ?_
  refine lv_aload_n hx hb dL_law_1103 rfl (lv_at hl 0 rfl) ?_
  refine lv_iload_n hx hb dL_law_1104 rfl (lv_at hl 3 rfl) ?_
  refine lv_iconst (v := 2) hx hb dL_law_1105 (by decide) ?_
  refine lv_iadd hx hb dL_law_1106 ?_
  refine va_sld hx hb hX hbl hbA hS (lw_ix hi (k := 2) (by decide) hL rfl) dL_law_1107 ?_
  refine lv_aload_n hx hb dL_law_1108 rfl (lv_at hl 0 rfl) ?_
  refine lv_iload_n hx hb dL_law_1109 rfl (lv_at hl 3 rfl) ?_
  refine lv_iconst (v := 3) hx hb dL_law_1110 (by decide) ?_
  refine lv_iadd hx hb dL_law_1111 ?_
  refine va_sld hx hb hX hbl hbA hS (lw_ix hi (k := 3) (by decide) hL rfl) dL_law_1112 ?_
  obtain ⟨r, oc, om, h1, h2, hR2⟩ := s_homeWay N hN hR ((xs (nI i + 1).toNatClampNeg)) ((xs (nI i + 2).toNatClampNeg)) ((xs (nI i + 3).toNatClampNeg))
  refine lx_wi (nx_runV (As := [.int (xs (nI i + 1).toNatClampNeg), .int (xs (nI i + 2).toNatClampNeg), .int (xs (nI i + 3).toNatClampNeg)]) (rest := []) (b := a 0) X hS hPc (c_X10_homeWay l N E H.size a size on kinds marks nb reached dist lastW par ord paths costs wanted tlen onlyF found steps plen rowW rowS tally ((xs (nI i + 1).toNatClampNeg)) ((xs (nI i + 2).toNatClampNeg)) ((xs (nI i + 3).toNatClampNeg)) hI _ h1) (fun q hq => lx_A (z := 0) hS ha q hq) qV_RL_125 ⟨rfl, rfl⟩ ⟨Nat.le_of_ble_eq_true rfl, Nat.le_of_ble_eq_true rfl⟩ ⟨Nat.le_of_ble_eq_true rfl, Nat.le_of_ble_eq_true rfl⟩ 0 rfl rfl rfl rfl hl.1 (Nat.le_of_ble_eq_true rfl) dL_law_1113) hS (fun q hq => lx_A (z := 0) hS ha q hq) hPm (lx_ap mW_ad hPm hab) (fun H locs hPc hPm hS => ?_)
  have hPc : va_P E.1 vwCl (cW E a size on kinds marks nb oc.1 oc.2.1 oc.2.2.1 oc.2.2.2.1 oc.2.2.2.2.1 oc.2.2.2.2.2 costs wanted tlen onlyF found steps plen rowW rowS tally) H := hPc
  refine lv_aload_n hx hb dL_law_1116 rfl (lv_at hl 2 rfl) ?_
  refine lv_aload_n hx hb dL_law_1117 rfl (lv_at hl 0 rfl) ?_
  refine lv_iload_n hx hb dL_law_1118 rfl (lv_at hl 3 rfl) ?_
  refine lv_iconst (v := 1) hx hb dL_law_1119 (by decide) ?_
  refine lv_iadd hx hb dL_law_1120 ?_
  refine va_sld hx hb hX hbl hbA hS (lw_ix hi (k := 1) (by decide) hL rfl) dL_law_1121 ?_
  refine lv_aload_n hx hb dL_law_1122 rfl (lv_at hl 0 rfl) ?_
  refine lv_iload_n hx hb dL_law_1123 rfl (lv_at hl 3 rfl) ?_
  refine lv_iconst (v := 2) hx hb dL_law_1124 (by decide) ?_
  refine lv_iadd hx hb dL_law_1125 ?_
  refine va_sld hx hb hX hbl hbA hS (lw_ix hi (k := 2) (by decide) hL rfl) dL_law_1126 ?_
  refine lv_aload_n hx hb dL_law_1127 rfl (lv_at hl 0 rfl) ?_
  refine lv_iload_n hx hb dL_law_1128 rfl (lv_at hl 3 rfl) ?_
  refine lv_iconst (v := 3) hx hb dL_law_1129 (by decide) ?_
  refine lv_iadd hx hb dL_law_1130 ?_
  refine va_sld hx hb hX hbl hbA hS (lw_ix hi (k := 3) (by decide) hL rfl) dL_law_1131 ?_
  refine lx_wi (nx_runV (As := [.int (xs (nI i + 1).toNatClampNeg), .int (xs (nI i + 2).toNatClampNeg), .int (xs (nI i + 3).toNatClampNeg)]) (rest := [.int r]) (b := a2 0) X hS hPm (c_X11_homeWay l N E H.size a2 wide tall groups tours tourLength rowMany cameBy top east south rolled off kind mark rolls many onward at_ goes firstTour rowWay rowSeen prints homeward ((xs (nI i + 1).toNatClampNeg)) ((xs (nI i + 2).toNatClampNeg)) ((xs (nI i + 3).toNatClampNeg)) hI2 _ h2) (fun q hq => lx_A (z := 0) hS ha2 q hq) qV_RL_128 ⟨rfl, rfl⟩ ⟨Nat.le_of_ble_eq_true rfl, Nat.le_of_ble_eq_true rfl⟩ ⟨Nat.le_of_ble_eq_true rfl, Nat.le_of_ble_eq_true rfl⟩ 0 rfl rfl rfl rfl hl.1 (Nat.le_of_ble_eq_true rfl) dL_law_1132) hS (fun q hq => lx_A (z := 0) hS ha2 q hq) hPc (lx_ap cW_ad hPc hba) (fun H locs hPm hPc hS => ?_)
  have hPm : va_P E.1 vwCl (mW E a2 wide tall groups tours tourLength rowMany om.1 top east south rolled off kind mark rolls many onward at_ goes firstTour rowWay rowSeen prints om.2) H := hPm
  refine lv_icmp_eq (tgt := 1288) hx hb dL_law_1135 (by decide) (fun hc => ?_) (fun hc => absurd rfl hc)
  exact hK _ _ _ _ _ _ _ _ _ _ _ _ _ _ _ _ _ _ _ _ _ _ _ _ _ _ _ _ _ _ _ _ _ _ _ _ _ _ _ _ _ _ _ _ _ hR2 H locs ls hPc hPm hS hl
set_option maxHeartbeats 4000000 in
set_option maxRecDepth 100000 in
theorem lc_27 {l : Launch} {e : Env} {E : nx_E} {a a2 : Nat → Nat} {p : Program} {s : State} {m : MethodId} {below : List Frame} {meth : Method} {c : Code} {bq L : Nat} {xs : Nat → Int32} (N : Nat) (hN : NB ≤ N) (hL : L ≤ 3072) (hC : lw_C E a a2 p s m c bq L xs) {i : Nat} (hi : i + 6 ≤ L) (hK : lw_K l e E a a2 p s m below meth c bq i 1288) : lw_K l e E a a2 p s m below meth c bq i 1140 := by
  obtain ⟨X, hX, hbl, hI, hI2, ha, ha2, hab, hba⟩ := hC
  obtain ⟨⟨hx, hb, hml, hown, hts⟩, hKK, hSt, hNz⟩ := id X
  have hbA : ¬ lw_A s bq := Nat.not_le.mpr hbl
  intro size on kinds marks nb reached dist lastW par ord paths costs wanted tlen onlyF found steps plen rowW rowS tally wide tall groups tours tourLength rowMany cameBy top east south rolled off kind mark rolls many onward at_ goes firstTour rowWay rowSeen prints homeward hR H locs ls hPc hPm hS hl
  refine lv_aload_n hx hb dL_law_1140 rfl (lv_at hl 1 rfl) ?_
  refine lv_aload_n hx hb dL_law_1141 rfl (lv_at hl 0 rfl) ?_
  refine lv_iload_n hx hb dL_law_1142 rfl (lv_at hl 3 rfl) ?_
  refine lv_iconst (v := 1) hx hb dL_law_1143 (by decide) ?_
  refine lv_iadd hx hb dL_law_1144 ?_
  refine va_sld hx hb hX hbl hbA hS (lw_ix hi (k := 1) (by decide) hL rfl) dL_law_1145 ?_
  refine lv_aload_n hx hb dL_law_1146 rfl (lv_at hl 0 rfl) ?_
  refine lv_iload_n hx hb dL_law_1147 rfl (lv_at hl 3 rfl) ?_
  refine lv_iconst (v := 2) hx hb dL_law_1148 (by decide) ?_
  refine lv_iadd hx hb dL_law_1149 ?_
  refine va_sld hx hb hX hbl hbA hS (lw_ix hi (k := 2) (by decide) hL rfl) dL_law_1150 ?_
  obtain ⟨r, oc, om, h1, h2, hR2⟩ := s_homeGroups N hN hR ((xs (nI i + 1).toNatClampNeg)) ((xs (nI i + 2).toNatClampNeg))
  refine lx_wi (nx_runV (As := [.int (xs (nI i + 1).toNatClampNeg), .int (xs (nI i + 2).toNatClampNeg)]) (rest := []) (b := a 0) X hS hPc (c_X10_homeGroups l N E H.size a size on kinds marks nb reached dist lastW par ord paths costs wanted tlen onlyF found steps plen rowW rowS tally ((xs (nI i + 1).toNatClampNeg)) ((xs (nI i + 2).toNatClampNeg)) hI _ h1) (fun q hq => lx_A (z := 0) hS ha q hq) qV_RL_129 ⟨rfl, rfl⟩ ⟨Nat.le_of_ble_eq_true rfl, Nat.le_of_ble_eq_true rfl⟩ ⟨Nat.le_of_ble_eq_true rfl, Nat.le_of_ble_eq_true rfl⟩ 0 rfl rfl rfl rfl hl.1 (Nat.le_of_ble_eq_true rfl) dL_law_1151) hS (fun q hq => lx_A (z := 0) hS ha q hq) hPm (lx_ap mW_ad hPm hab) (fun H locs hPc hPm hS => ?_)
  have hPc : va_P E.1 vwCl (cW E a size on kinds marks nb oc.1 oc.2.1 oc.2.2.1 oc.2.2.2.1 oc.2.2.2.2.1 oc.2.2.2.2.2 costs wanted tlen onlyF found steps plen rowW rowS tally) H := hPc
  refine lv_aload_n hx hb dL_law_1154 rfl (lv_at hl 2 rfl) ?_
  refine lv_aload_n hx hb dL_law_1155 rfl (lv_at hl 0 rfl) ?_
  refine lv_iload_n hx hb dL_law_1156 rfl (lv_at hl 3 rfl) ?_
  refine lv_iconst (v := 1) hx hb dL_law_1157 (by decide) ?_
  refine lv_iadd hx hb dL_law_1158 ?_
  refine va_sld hx hb hX hbl hbA hS (lw_ix hi (k := 1) (by decide) hL rfl) dL_law_1159 ?_
  refine lv_aload_n hx hb dL_law_1160 rfl (lv_at hl 0 rfl) ?_
  refine lv_iload_n hx hb dL_law_1161 rfl (lv_at hl 3 rfl) ?_
  refine lv_iconst (v := 2) hx hb dL_law_1162 (by decide) ?_
  refine lv_iadd hx hb dL_law_1163 ?_
  refine va_sld hx hb hX hbl hbA hS (lw_ix hi (k := 2) (by decide) hL rfl) dL_law_1164 ?_
  refine lx_wi (nx_runV (As := [.int (xs (nI i + 1).toNatClampNeg), .int (xs (nI i + 2).toNatClampNeg)]) (rest := [.int r]) (b := a2 0) X hS hPm (c_X11_homeGroups l N E H.size a2 wide tall groups tours tourLength rowMany cameBy top east south rolled off kind mark rolls many onward at_ goes firstTour rowWay rowSeen prints homeward ((xs (nI i + 1).toNatClampNeg)) ((xs (nI i + 2).toNatClampNeg)) hI2 _ h2) (fun q hq => lx_A (z := 0) hS ha2 q hq) qV_RL_132 ⟨rfl, rfl⟩ ⟨Nat.le_of_ble_eq_true rfl, Nat.le_of_ble_eq_true rfl⟩ ⟨Nat.le_of_ble_eq_true rfl, Nat.le_of_ble_eq_true rfl⟩ 0 rfl rfl rfl rfl hl.1 (Nat.le_of_ble_eq_true rfl) dL_law_1165) hS (fun q hq => lx_A (z := 0) hS ha2 q hq) hPc (lx_ap cW_ad hPc hba) (fun H locs hPm hPc hS => ?_)
  have hPm : va_P E.1 vwCl (mW E a2 wide tall groups tours tourLength rowMany om.1 top east south rolled off kind mark rolls many onward at_ goes firstTour rowWay rowSeen prints om.2) H := hPm
  refine lv_icmp_eq (tgt := 1288) hx hb dL_law_1168 (by decide) (fun hc => ?_) (fun hc => absurd rfl hc)
  exact hK _ _ _ _ _ _ _ _ _ _ _ _ _ _ _ _ _ _ _ _ _ _ _ _ _ _ _ _ _ _ _ _ _ _ _ _ _ _ _ _ _ _ _ _ _ hR2 H locs ls hPc hPm hS hl
set_option maxHeartbeats 4000000 in
set_option maxRecDepth 100000 in
theorem lc_28 {l : Launch} {e : Env} {E : nx_E} {a a2 : Nat → Nat} {p : Program} {s : State} {m : MethodId} {below : List Frame} {meth : Method} {c : Code} {bq L : Nat} {xs : Nat → Int32} (N : Nat) (hN : NB ≤ N) (hL : L ≤ 3072) (hC : lw_C E a a2 p s m c bq L xs) {i : Nat} (hi : i + 6 ≤ L) (hK : lw_K l e E a a2 p s m below meth c bq i 1288) : lw_K l e E a a2 p s m below meth c bq i 1173 := by
  obtain ⟨X, hX, hbl, hI, hI2, ha, ha2, hab, hba⟩ := hC
  obtain ⟨⟨hx, hb, hml, hown, hts⟩, hKK, hSt, hNz⟩ := id X
  have hbA : ¬ lw_A s bq := Nat.not_le.mpr hbl
  intro size on kinds marks nb reached dist lastW par ord paths costs wanted tlen onlyF found steps plen rowW rowS tally wide tall groups tours tourLength rowMany cameBy top east south rolled off kind mark rolls many onward at_ goes firstTour rowWay rowSeen prints homeward hR H locs ls hPc hPm hS hl
  refine lv_aload_n hx hb dL_law_1173 rfl (lv_at hl 1 rfl) ?_
  refine lv_aload_n hx hb dL_law_1174 rfl (lv_at hl 0 rfl) ?_
  refine lv_iload_n hx hb dL_law_1175 rfl (lv_at hl 3 rfl) ?_
  refine lv_iconst (v := 1) hx hb dL_law_1176 (by decide) ?_
  refine lv_iadd hx hb dL_law_1177 ?_
  refine va_sld hx hb hX hbl hbA hS (lw_ix hi (k := 1) (by decide) hL rfl) dL_law_1178 ?_
  refine lv_aload_n hx hb dL_law_1179 rfl (lv_at hl 0 rfl) ?_
  refine lv_iload_n hx hb dL_law_1180 rfl (lv_at hl 3 rfl) ?_
  refine lv_iconst (v := 2) hx hb dL_law_1181 (by decide) ?_
  refine lv_iadd hx hb dL_law_1182 ?_
  refine va_sld hx hb hX hbl hbA hS (lw_ix hi (k := 2) (by decide) hL rfl) dL_law_1183 ?_
  refine lv_if_eq (tgt := 1191) hx hb dL_law_1184 (by decide) (fun hc => ?_) (fun hc => ?_)
  · have hq := hc
    refine lv_iconst (v := 0) hx hb dL_law_1191 (by decide) ?_
    obtain ⟨r, oc, om, h1, h2, hR2⟩ := s_whence N hN hR ((xs (nI i + 1).toNatClampNeg)) 0 (Or.inl rfl)
    refine lx_wi (nx_runV (As := [.int (xs (nI i + 1).toNatClampNeg), .int 0]) (rest := []) (b := a 0) X hS hPc (c_X10_whence l N E H.size a size on kinds marks nb reached dist lastW par ord paths costs wanted tlen onlyF found steps plen rowW rowS tally ((xs (nI i + 1).toNatClampNeg)) 0 hI _ h1) (fun q hq => lx_A (z := 0) hS ha q hq) qV_RL_133 ⟨rfl, rfl⟩ ⟨Nat.le_of_ble_eq_true rfl, Nat.le_of_ble_eq_true rfl⟩ ⟨Nat.le_of_ble_eq_true rfl, Nat.le_of_ble_eq_true rfl⟩ 0 rfl rfl rfl rfl hl.1 (Nat.le_of_ble_eq_true rfl) dL_law_1192) hS (fun q hq => lx_A (z := 0) hS ha q hq) hPm (lx_ap mW_ad hPm hab) (fun H locs hPc hPm hS => ?_)
    have hPc : va_P E.1 vwCl (cW E a size on kinds marks nb oc.1 oc.2.1 oc.2.2.1 oc.2.2.2.1 oc.2.2.2.2.1 oc.2.2.2.2.2 costs wanted tlen onlyF found steps plen rowW rowS tally) H := hPc
    refine lv_aload_n hx hb dL_law_1195 rfl (lv_at hl 2 rfl) ?_
    refine lv_aload_n hx hb dL_law_1196 rfl (lv_at hl 0 rfl) ?_
    refine lv_iload_n hx hb dL_law_1197 rfl (lv_at hl 3 rfl) ?_
    refine lv_iconst (v := 1) hx hb dL_law_1198 (by decide) ?_
    refine lv_iadd hx hb dL_law_1199 ?_
    refine va_sld hx hb hX hbl hbA hS (lw_ix hi (k := 1) (by decide) hL rfl) dL_law_1200 ?_
    refine lv_aload_n hx hb dL_law_1201 rfl (lv_at hl 0 rfl) ?_
    refine lv_iload_n hx hb dL_law_1202 rfl (lv_at hl 3 rfl) ?_
    refine lv_iconst (v := 2) hx hb dL_law_1203 (by decide) ?_
    refine lv_iadd hx hb dL_law_1204 ?_
    refine va_sld hx hb hX hbl hbA hS (lw_ix hi (k := 2) (by decide) hL rfl) dL_law_1205 ?_
    refine lv_if_eq (tgt := 1213) hx hb dL_law_1206 (by decide) (fun hc => ?_) (fun hc => ?_)
    · have hq := hc
      refine lv_iconst (v := 0) hx hb dL_law_1213 (by decide) ?_
      refine lx_wi (nx_runV (As := [.int (xs (nI i + 1).toNatClampNeg), .int 0]) (rest := [.int r]) (b := a2 0) X hS hPm (c_X11_whence l N E H.size a2 wide tall groups tours tourLength rowMany cameBy top east south rolled off kind mark rolls many onward at_ goes firstTour rowWay rowSeen prints homeward ((xs (nI i + 1).toNatClampNeg)) 0 hI2 _ h2) (fun q hq => lx_A (z := 0) hS ha2 q hq) qV_RL_136 ⟨rfl, rfl⟩ ⟨Nat.le_of_ble_eq_true rfl, Nat.le_of_ble_eq_true rfl⟩ ⟨Nat.le_of_ble_eq_true rfl, Nat.le_of_ble_eq_true rfl⟩ 0 rfl rfl rfl rfl hl.1 (Nat.le_of_ble_eq_true rfl) dL_law_1214) hS (fun q hq => lx_A (z := 0) hS ha2 q hq) hPc (lx_ap cW_ad hPc hba) (fun H locs hPm hPc hS => ?_)
      have hPm : va_P E.1 vwCl (mW E a2 wide tall groups tours tourLength rowMany cameBy top east south rolled off kind mark rolls many onward at_ goes firstTour rowWay rowSeen prints om) H := hPm
      refine lv_icmp_eq (tgt := 1288) hx hb dL_law_1217 (by decide) (fun hc => ?_) (fun hc => absurd rfl hc)
      exact hK _ _ _ _ _ _ _ _ _ _ _ _ _ _ _ _ _ _ _ _ _ _ _ _ _ _ _ _ _ _ _ _ _ _ _ _ _ _ _ _ _ _ _ _ _ hR2 H locs ls hPc hPm hS hl
    · exact absurd hq hc
  · have hq := hc
    refine lv_iconst (v := 1) hx hb dL_law_1187 (by decide) ?_
    refine lv_goto (tgt := 1192) hx hb dL_law_1188 (by decide) ?_
    obtain ⟨r, oc, om, h1, h2, hR2⟩ := s_whence N hN hR ((xs (nI i + 1).toNatClampNeg)) 1 (Or.inr rfl)
    refine lx_wi (nx_runV (As := [.int (xs (nI i + 1).toNatClampNeg), .int 1]) (rest := []) (b := a 0) X hS hPc (c_X10_whence l N E H.size a size on kinds marks nb reached dist lastW par ord paths costs wanted tlen onlyF found steps plen rowW rowS tally ((xs (nI i + 1).toNatClampNeg)) 1 hI _ h1) (fun q hq => lx_A (z := 0) hS ha q hq) qV_RL_133 ⟨rfl, rfl⟩ ⟨Nat.le_of_ble_eq_true rfl, Nat.le_of_ble_eq_true rfl⟩ ⟨Nat.le_of_ble_eq_true rfl, Nat.le_of_ble_eq_true rfl⟩ 0 rfl rfl rfl rfl hl.1 (Nat.le_of_ble_eq_true rfl) dL_law_1192) hS (fun q hq => lx_A (z := 0) hS ha q hq) hPm (lx_ap mW_ad hPm hab) (fun H locs hPc hPm hS => ?_)
    have hPc : va_P E.1 vwCl (cW E a size on kinds marks nb oc.1 oc.2.1 oc.2.2.1 oc.2.2.2.1 oc.2.2.2.2.1 oc.2.2.2.2.2 costs wanted tlen onlyF found steps plen rowW rowS tally) H := hPc
    refine lv_aload_n hx hb dL_law_1195 rfl (lv_at hl 2 rfl) ?_
    refine lv_aload_n hx hb dL_law_1196 rfl (lv_at hl 0 rfl) ?_
    refine lv_iload_n hx hb dL_law_1197 rfl (lv_at hl 3 rfl) ?_
    refine lv_iconst (v := 1) hx hb dL_law_1198 (by decide) ?_
    refine lv_iadd hx hb dL_law_1199 ?_
    refine va_sld hx hb hX hbl hbA hS (lw_ix hi (k := 1) (by decide) hL rfl) dL_law_1200 ?_
    refine lv_aload_n hx hb dL_law_1201 rfl (lv_at hl 0 rfl) ?_
    refine lv_iload_n hx hb dL_law_1202 rfl (lv_at hl 3 rfl) ?_
    refine lv_iconst (v := 2) hx hb dL_law_1203 (by decide) ?_
    refine lv_iadd hx hb dL_law_1204 ?_
    refine va_sld hx hb hX hbl hbA hS (lw_ix hi (k := 2) (by decide) hL rfl) dL_law_1205 ?_
    refine lv_if_eq (tgt := 1213) hx hb dL_law_1206 (by decide) (fun hc => ?_) (fun hc => ?_)
    · exact absurd hc hq
    · have hq := hc
      refine lv_iconst (v := 1) hx hb dL_law_1209 (by decide) ?_
      refine lv_goto (tgt := 1214) hx hb dL_law_1210 (by decide) ?_
      refine lx_wi (nx_runV (As := [.int (xs (nI i + 1).toNatClampNeg), .int 1]) (rest := [.int r]) (b := a2 0) X hS hPm (c_X11_whence l N E H.size a2 wide tall groups tours tourLength rowMany cameBy top east south rolled off kind mark rolls many onward at_ goes firstTour rowWay rowSeen prints homeward ((xs (nI i + 1).toNatClampNeg)) 1 hI2 _ h2) (fun q hq => lx_A (z := 0) hS ha2 q hq) qV_RL_136 ⟨rfl, rfl⟩ ⟨Nat.le_of_ble_eq_true rfl, Nat.le_of_ble_eq_true rfl⟩ ⟨Nat.le_of_ble_eq_true rfl, Nat.le_of_ble_eq_true rfl⟩ 0 rfl rfl rfl rfl hl.1 (Nat.le_of_ble_eq_true rfl) dL_law_1214) hS (fun q hq => lx_A (z := 0) hS ha2 q hq) hPc (lx_ap cW_ad hPc hba) (fun H locs hPm hPc hS => ?_)
      have hPm : va_P E.1 vwCl (mW E a2 wide tall groups tours tourLength rowMany cameBy top east south rolled off kind mark rolls many onward at_ goes firstTour rowWay rowSeen prints om) H := hPm
      refine lv_icmp_eq (tgt := 1288) hx hb dL_law_1217 (by decide) (fun hc => ?_) (fun hc => absurd rfl hc)
      exact hK _ _ _ _ _ _ _ _ _ _ _ _ _ _ _ _ _ _ _ _ _ _ _ _ _ _ _ _ _ _ _ _ _ _ _ _ _ _ _ _ _ _ _ _ _ hR2 H locs ls hPc hPm hS hl
set_option maxHeartbeats 4000000 in
set_option maxRecDepth 100000 in
theorem lc_29 {l : Launch} {e : Env} {E : nx_E} {a a2 : Nat → Nat} {p : Program} {s : State} {m : MethodId} {below : List Frame} {meth : Method} {c : Code} {bq L : Nat} {xs : Nat → Int32} (N : Nat) (hN : NB ≤ N) (hL : L ≤ 3072) (hC : lw_C E a a2 p s m c bq L xs) {i : Nat} (hi : i + 6 ≤ L) (hK : lw_K l e E a a2 p s m below meth c bq i 1288) : lw_K l e E a a2 p s m below meth c bq i 1222 := by
  obtain ⟨X, hX, hbl, hI, hI2, ha, ha2, hab, hba⟩ := hC
  obtain ⟨⟨hx, hb, hml, hown, hts⟩, hKK, hSt, hNz⟩ := id X
  have hbA : ¬ lw_A s bq := Nat.not_le.mpr hbl
  intro size on kinds marks nb reached dist lastW par ord paths costs wanted tlen onlyF found steps plen rowW rowS tally wide tall groups tours tourLength rowMany cameBy top east south rolled off kind mark rolls many onward at_ goes firstTour rowWay rowSeen prints homeward hR H locs ls hPc hPm hS hl
  refine lv_aload_n hx hb dL_law_1222 rfl (lv_at hl 1 rfl) ?_
  refine lv_aload_n hx hb dL_law_1223 rfl (lv_at hl 0 rfl) ?_
  refine lv_iload_n hx hb dL_law_1224 rfl (lv_at hl 3 rfl) ?_
  refine lv_iconst (v := 1) hx hb dL_law_1225 (by decide) ?_
  refine lv_iadd hx hb dL_law_1226 ?_
  refine va_sld hx hb hX hbl hbA hS (lw_ix hi (k := 1) (by decide) hL rfl) dL_law_1227 ?_
  refine lv_aload_n hx hb dL_law_1228 rfl (lv_at hl 0 rfl) ?_
  refine lv_iload_n hx hb dL_law_1229 rfl (lv_at hl 3 rfl) ?_
  refine lv_iconst (v := 2) hx hb dL_law_1230 (by decide) ?_
  refine lv_iadd hx hb dL_law_1231 ?_
  refine va_sld hx hb hX hbl hbA hS (lw_ix hi (k := 2) (by decide) hL rfl) dL_law_1232 ?_
  refine lv_aload_n hx hb dL_law_1233 rfl (lv_at hl 0 rfl) ?_
  refine lv_iload_n hx hb dL_law_1234 rfl (lv_at hl 3 rfl) ?_
  refine lv_iconst (v := 3) hx hb dL_law_1235 (by decide) ?_
  refine lv_iadd hx hb dL_law_1236 ?_
  refine va_sld hx hb hX hbl hbA hS (lw_ix hi (k := 3) (by decide) hL rfl) dL_law_1237 ?_
  obtain ⟨r, oc, om, h1, h2, hR2⟩ := s_must N hN hR ((xs (nI i + 1).toNatClampNeg)) ((xs (nI i + 2).toNatClampNeg)) ((xs (nI i + 3).toNatClampNeg))
  refine lx_wi (nx_runV (As := [.int (xs (nI i + 1).toNatClampNeg), .int (xs (nI i + 2).toNatClampNeg), .int (xs (nI i + 3).toNatClampNeg)]) (rest := []) (b := a 0) X hS hPc (c_X10_must l N E H.size a size on kinds marks nb reached dist lastW par ord paths costs wanted tlen onlyF found steps plen rowW rowS tally ((xs (nI i + 1).toNatClampNeg)) ((xs (nI i + 2).toNatClampNeg)) ((xs (nI i + 3).toNatClampNeg)) hI _ h1) (fun q hq => lx_A (z := 0) hS ha q hq) qV_RL_137 ⟨rfl, rfl⟩ ⟨Nat.le_of_ble_eq_true rfl, Nat.le_of_ble_eq_true rfl⟩ ⟨Nat.le_of_ble_eq_true rfl, Nat.le_of_ble_eq_true rfl⟩ 0 rfl rfl rfl rfl hl.1 (Nat.le_of_ble_eq_true rfl) dL_law_1238) hS (fun q hq => lx_A (z := 0) hS ha q hq) hPm (lx_ap mW_ad hPm hab) (fun H locs hPc hPm hS => ?_)
  have hPc : va_P E.1 vwCl (cW E a size on oc.1 marks nb oc.2.1 oc.2.2.1 oc.2.2.2.1 oc.2.2.2.2.1 oc.2.2.2.2.2.1 oc.2.2.2.2.2.2 costs wanted tlen onlyF found steps plen rowW rowS tally) H := hPc
  refine lv_aload_n hx hb dL_law_1241 rfl (lv_at hl 2 rfl) ?_
  refine lv_aload_n hx hb dL_law_1242 rfl (lv_at hl 0 rfl) ?_
  refine lv_iload_n hx hb dL_law_1243 rfl (lv_at hl 3 rfl) ?_
  refine lv_iconst (v := 1) hx hb dL_law_1244 (by decide) ?_
  refine lv_iadd hx hb dL_law_1245 ?_
  refine va_sld hx hb hX hbl hbA hS (lw_ix hi (k := 1) (by decide) hL rfl) dL_law_1246 ?_
  refine lv_aload_n hx hb dL_law_1247 rfl (lv_at hl 0 rfl) ?_
  refine lv_iload_n hx hb dL_law_1248 rfl (lv_at hl 3 rfl) ?_
  refine lv_iconst (v := 2) hx hb dL_law_1249 (by decide) ?_
  refine lv_iadd hx hb dL_law_1250 ?_
  refine va_sld hx hb hX hbl hbA hS (lw_ix hi (k := 2) (by decide) hL rfl) dL_law_1251 ?_
  refine lv_aload_n hx hb dL_law_1252 rfl (lv_at hl 0 rfl) ?_
  refine lv_iload_n hx hb dL_law_1253 rfl (lv_at hl 3 rfl) ?_
  refine lv_iconst (v := 3) hx hb dL_law_1254 (by decide) ?_
  refine lv_iadd hx hb dL_law_1255 ?_
  refine va_sld hx hb hX hbl hbA hS (lw_ix hi (k := 3) (by decide) hL rfl) dL_law_1256 ?_
  refine lx_wi (nx_runV (As := [.int (xs (nI i + 1).toNatClampNeg), .int (xs (nI i + 2).toNatClampNeg), .int (xs (nI i + 3).toNatClampNeg)]) (rest := [.int r]) (b := a2 0) X hS hPm (c_X11_must l N E H.size a2 wide tall groups tours tourLength rowMany cameBy top east south rolled off kind mark rolls many onward at_ goes firstTour rowWay rowSeen prints homeward ((xs (nI i + 1).toNatClampNeg)) ((xs (nI i + 2).toNatClampNeg)) ((xs (nI i + 3).toNatClampNeg)) hI2 _ h2) (fun q hq => lx_A (z := 0) hS ha2 q hq) qV_RL_140 ⟨rfl, rfl⟩ ⟨Nat.le_of_ble_eq_true rfl, Nat.le_of_ble_eq_true rfl⟩ ⟨Nat.le_of_ble_eq_true rfl, Nat.le_of_ble_eq_true rfl⟩ 0 rfl rfl rfl rfl hl.1 (Nat.le_of_ble_eq_true rfl) dL_law_1257) hS (fun q hq => lx_A (z := 0) hS ha2 q hq) hPc (lx_ap cW_ad hPc hba) (fun H locs hPm hPc hS => ?_)
  have hPm : va_P E.1 vwCl (mW E a2 wide tall groups tours tourLength rowMany cameBy top east south rolled off om.1 mark rolls many onward at_ goes firstTour rowWay rowSeen prints om.2) H := hPm
  refine lv_icmp_eq (tgt := 1288) hx hb dL_law_1260 (by decide) (fun hc => ?_) (fun hc => absurd rfl hc)
  exact hK _ _ _ _ _ _ _ _ _ _ _ _ _ _ _ _ _ _ _ _ _ _ _ _ _ _ _ _ _ _ _ _ _ _ _ _ _ _ _ _ _ _ _ _ _ hR2 H locs ls hPc hPm hS hl
set_option maxHeartbeats 4000000 in
set_option maxRecDepth 100000 in
theorem lc_30 {l : Launch} {e : Env} {E : nx_E} {a a2 : Nat → Nat} {p : Program} {s : State} {m : MethodId} {below : List Frame} {meth : Method} {c : Code} {bq L : Nat} {xs : Nat → Int32} (N : Nat) (hN : NB ≤ N) (hL : L ≤ 3072) (hC : lw_C E a a2 p s m c bq L xs) {i : Nat} (hi : i + 6 ≤ L) (hK : lw_K l e E a a2 p s m below meth c bq i 1288) : lw_K l e E a a2 p s m below meth c bq i 1265 := by
  obtain ⟨X, hX, hbl, hI, hI2, ha, ha2, hab, hba⟩ := hC
  obtain ⟨⟨hx, hb, hml, hown, hts⟩, hKK, hSt, hNz⟩ := id X
  have hbA : ¬ lw_A s bq := Nat.not_le.mpr hbl
  intro size on kinds marks nb reached dist lastW par ord paths costs wanted tlen onlyF found steps plen rowW rowS tally wide tall groups tours tourLength rowMany cameBy top east south rolled off kind mark rolls many onward at_ goes firstTour rowWay rowSeen prints homeward hR H locs ls hPc hPm hS hl
  refine lv_aload_n hx hb dL_law_1265 rfl (lv_at hl 1 rfl) ?_
  refine lv_aload_n hx hb dL_law_1266 rfl (lv_at hl 0 rfl) ?_
  refine lv_iload_n hx hb dL_law_1267 rfl (lv_at hl 3 rfl) ?_
  refine lv_iconst (v := 1) hx hb dL_law_1268 (by decide) ?_
  refine lv_iadd hx hb dL_law_1269 ?_
  refine va_sld hx hb hX hbl hbA hS (lw_ix hi (k := 1) (by decide) hL rfl) dL_law_1270 ?_
  obtain ⟨r, h1, h2, hR2⟩ := s_count N hN hR ((xs (nI i + 1).toNatClampNeg))
  refine lx_i (nx_runV (As := [.int (xs (nI i + 1).toNatClampNeg)]) (rest := []) (b := a 0) X hS hPc (c_X10_count l N E H.size a size on kinds marks nb reached dist lastW par ord paths costs wanted tlen onlyF found steps plen rowW rowS tally ((xs (nI i + 1).toNatClampNeg)) _ h1) nx_FA qV_RL_141 ⟨rfl, rfl⟩ ⟨Nat.le_of_ble_eq_true rfl, Nat.le_of_ble_eq_true rfl⟩ ⟨Nat.le_of_ble_eq_true rfl, Nat.le_of_ble_eq_true rfl⟩ 0 rfl rfl rfl rfl hl.1 (Nat.le_of_ble_eq_true rfl) dL_law_1271) hS nx_FA hPm (fun _ _ _ z => z) (fun H locs hPc hPm hS => ?_)
  refine lv_aload_n hx hb dL_law_1274 rfl (lv_at hl 2 rfl) ?_
  refine lv_aload_n hx hb dL_law_1275 rfl (lv_at hl 0 rfl) ?_
  refine lv_iload_n hx hb dL_law_1276 rfl (lv_at hl 3 rfl) ?_
  refine lv_iconst (v := 1) hx hb dL_law_1277 (by decide) ?_
  refine lv_iadd hx hb dL_law_1278 ?_
  refine va_sld hx hb hX hbl hbA hS (lw_ix hi (k := 1) (by decide) hL rfl) dL_law_1279 ?_
  refine lx_i (nx_runV (As := [.int (xs (nI i + 1).toNatClampNeg)]) (rest := [.int r]) (b := a2 0) X hS hPm (c_X11_count l N E H.size a2 wide tall groups tours tourLength rowMany cameBy top east south rolled off kind mark rolls many onward at_ goes firstTour rowWay rowSeen prints homeward ((xs (nI i + 1).toNatClampNeg)) _ h2) nx_FA qV_RL_144 ⟨rfl, rfl⟩ ⟨Nat.le_of_ble_eq_true rfl, Nat.le_of_ble_eq_true rfl⟩ ⟨Nat.le_of_ble_eq_true rfl, Nat.le_of_ble_eq_true rfl⟩ 0 rfl rfl rfl rfl hl.1 (Nat.le_of_ble_eq_true rfl) dL_law_1280) hS nx_FA hPc (fun _ _ _ z => z) (fun H locs hPm hPc hS => ?_)
  refine lv_icmp_eq (tgt := 1288) hx hb dL_law_1283 (by decide) (fun hc => ?_) (fun hc => absurd rfl hc)
  exact hK _ _ _ _ _ _ _ _ _ _ _ _ _ _ _ _ _ _ _ _ _ _ _ _ _ _ _ _ _ _ _ _ _ _ _ _ _ _ _ _ _ _ _ _ _ hR2 H locs ls hPc hPm hS hl
