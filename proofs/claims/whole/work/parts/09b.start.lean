theorem wo_cl_L_7 : Cond.classLink RL 7 RX10 ∈ nx_T := nx_t1 16 (by decide +kernel) (by decide +kernel)
theorem wo_cl_L_10 : Cond.classLink RL 10 RX11 ∈ nx_T := nx_t1 790 (by decide +kernel) (by decide +kernel)
theorem wo_in_X10 : Cond.instantiable RX10 8 ∈ nx_T := nx_t1 17 (by decide +kernel) (by decide +kernel)
theorem wo_in_X11 : Cond.instantiable RX11 24 ∈ nx_T := nx_t1 791 (by decide +kernel) (by decide +kernel)
theorem wm_RL_9 : Cond.methodLink RL 9 yX10_init ∈ nx_T := nx_t1 18 (by decide +kernel) (by decide +kernel)
theorem wi_X10_init : Cond.instanceMethod yX10_init ∈ nx_T := nx_t1 19 (by decide +kernel) (by decide +kernel)
theorem wc_X10_init : Cond.code yX10_init cX10_init 1 none ∈ nx_T := nx_t1 20 (by decide +kernel) (by decide +kernel)
theorem wm_RL_12 : Cond.methodLink RL 12 yX11_init ∈ nx_T := nx_t1 792 (by decide +kernel) (by decide +kernel)
theorem wi_X11_init : Cond.instanceMethod yX11_init ∈ nx_T := nx_t1 793 (by decide +kernel) (by decide +kernel)
theorem wc_X11_init : Cond.code yX11_init cX11_init 4 none ∈ nx_T := nx_t1 794 (by decide +kernel) (by decide +kernel)
theorem df_X10 : ∀ j, j < 8 → defaultValue (tyX10 j) = vp_V [.null, .null, .null, .null, .null, .null, .null, .null] j := by
  intro j hj
  rcases (show j = 0 ∨ j = 1 ∨ j = 2 ∨ j = 3 ∨ j = 4 ∨ j = 5 ∨ j = 6 ∨ j = 7 by omega) with rfl | rfl | rfl | rfl | rfl | rfl | rfl | rfl <;> rfl
theorem df_X11 : ∀ j, j < 24 → defaultValue (tyX11 j) = vp_V [.null, .null, .null, .null, .null, .int 0, .int 0, .null, .null, .int 0, .null, .null, .null, .null, .null, .null, .int 0, .int 0, .int 0, .null, .null, .null, .null, .int 0] j := by
  intro j hj
  rcases (show j = 0 ∨ j = 1 ∨ j = 2 ∨ j = 3 ∨ j = 4 ∨ j = 5 ∨ j = 6 ∨ j = 7 ∨ j = 8 ∨ j = 9 ∨ j = 10 ∨ j = 11 ∨ j = 12 ∨ j = 13 ∨ j = 14 ∨ j = 15 ∨ j = 16 ∨ j = 17 ∨ j = 18 ∨ j = 19 ∨ j = 20 ∨ j = 21 ∨ j = 22 ∨ j = 23 by omega) with rfl | rfl | rfl | rfl | rfl | rfl | rfl | rfl | rfl | rfl | rfl | rfl | rfl | rfl | rfl | rfl | rfl | rfl | rfl | rfl | rfl | rfl | rfl | rfl <;> rfl
theorem lw_sub6 {L i : Nat} (hL : L ≤ 3072) (hi : i ≤ L + 6) : (nI L - 6 < nI i) ↔ L < i + 6 := by
  have h1 : (nI L - nI 6).toInt = (L : Int) - (6 : Nat) := pk_sub_toInt (by omega) (by omega)
  have h2 : (nI i).toInt = (i : Int) := nI_toInt (by omega)
  show nI L - nI 6 < nI i ↔ _
  rw [Int32.lt_iff_toInt_lt, h1, h2]
  omega
set_option maxHeartbeats 4000000 in
set_option maxRecDepth 100000 in
theorem lw_loop {l : Launch} {e : Env} {E : nx_E} {a a2 : Nat → Nat} {p : Program} {s : State} {m : MethodId} {below : List Frame} {meth : Method} {c : Code} {bq L : Nat} {xs : Nat → Int32} (N : Nat) (hN : NB ≤ N) (hL : L ≤ 3072) (hr : meth.sig.returnType = ret) (hlocks : meth.locks = false) (hC : lw_C E a a2 p s m c bq L xs) : ∀ (n i : Nat), i ≤ L + 6 → L < i + 6 * n → lw_K l e E a a2 p s m below meth c bq i 18 := by
  obtain ⟨X, hX, hbl, hI, hI2, ha, ha2, hab, hba⟩ := id hC
  obtain ⟨⟨hx, hb, hml, hown, hts⟩, hKK, hSt, hNz⟩ := id X
  have hbA : ¬ lw_A s bq := Nat.not_le.mpr hbl
  intro n
  induction n with
  | zero =>
    intro i hi hn
    intro size on kinds marks nb reached dist lastW par ord paths costs wanted tlen onlyF found steps plen rowW rowS tally wide tall groups tours tourLength rowMany cameBy top east south rolled off kind mark rolls many onward at_ goes firstTour rowWay rowSeen prints homeward hR H locs ls hPc hPm hS hl
    refine lv_iload_n hx hb dL_law_18 rfl (lv_at hl 3 rfl) ?_
    refine lv_aload_n hx hb dL_law_19 rfl (lv_at hl 0 rfl) ?_
    refine va_slen hx hb hX hbl hbA hS dL_law_20 ?_
    refine lv_bipush (v := 6) hx hb dL_law_21 (by decide) ?_
    refine lv_isub hx hb dL_law_23 ?_
    refine lv_icmp_gt (tgt := 1294) hx hb dL_law_24 (by decide) (fun hc => ?_) (fun hc => absurd ((lw_sub6 hL hi).mpr (by omega)) hc)
    refine lv_iconst (v := 1) hx hb dL_law_1294 (by decide) ?_
    refine va_forget (fun q hq => hS.2.2 q hq) ?_
    refine W.widen (k := 600000) (n := 7302250) (Nat.le_of_ble_eq_true rfl) (Nat.le_of_ble_eq_true rfl) ?_
    exact lw_ret hx hb hr hlocks dL_law_1295
  | succ n ih =>
    intro i hi hn
    intro size on kinds marks nb reached dist lastW par ord paths costs wanted tlen onlyF found steps plen rowW rowS tally wide tall groups tours tourLength rowMany cameBy top east south rolled off kind mark rolls many onward at_ goes firstTour rowWay rowSeen prints homeward hR H locs ls hPc hPm hS hl
    refine lv_iload_n hx hb dL_law_18 rfl (lv_at hl 3 rfl) ?_
    refine lv_aload_n hx hb dL_law_19 rfl (lv_at hl 0 rfl) ?_
    refine va_slen hx hb hX hbl hbA hS dL_law_20 ?_
    refine lv_bipush (v := 6) hx hb dL_law_21 (by decide) ?_
    refine lv_isub hx hb dL_law_23 ?_
    refine lv_icmp_gt (tgt := 1294) hx hb dL_law_24 (by decide) (fun hc => ?_) (fun hc => ?_)
    · refine lv_iconst (v := 1) hx hb dL_law_1294 (by decide) ?_
      refine va_forget (fun q hq => hS.2.2 q hq) ?_
      refine W.widen (k := 600000) (n := 7302250) (Nat.le_of_ble_eq_true rfl) (Nat.le_of_ble_eq_true rfl) ?_
      exact lw_ret hx hb hr hlocks dL_law_1295
    · have hi6 : i + 6 ≤ L := Nat.not_lt.mp (fun z => hc ((lw_sub6 hL hi).mpr z))
      have hK : lw_K l e E a a2 p s m below meth c bq i 1288 := by
        clear hR hPc hPm hS hl hc
        clear size on kinds marks nb reached dist lastW par ord paths costs wanted tlen onlyF found steps plen rowW rowS tally wide tall groups tours tourLength rowMany cameBy top east south rolled off kind mark rolls many onward at_ goes firstTour rowWay rowSeen prints homeward H locs ls
        intro size on kinds marks nb reached dist lastW par ord paths costs wanted tlen onlyF found steps plen rowW rowS tally wide tall groups tours tourLength rowMany cameBy top east south rolled off kind mark rolls many onward at_ goes firstTour rowWay rowSeen prints homeward hR H locs ls hPc hPm hS hl
        refine lv_iinc (v := nI (i + 6)) (lv' := [(3, .int (nI (i + 6))), (0, .ref bq), (1, .ref (a 0)), (2, .ref (a2 0))]) hx hb dL_law_1288 hl (k := 3) rfl (nI_add i 6) (by decide) rfl (fun ls hl => ?_)
        refine lv_goto (tgt := 18) hx hb dL_law_1291 (by decide) ?_
        exact ih (i + 6) (by omega) (by omega) _ _ _ _ _ _ _ _ _ _ _ _ _ _ _ _ _ _ _ _ _ _ _ _ _ _ _ _ _ _ _ _ _ _ _ _ _ _ _ _ _ _ _ _ _ hR H locs ls hPc hPm hS (lv_sub hl [1, 2, 3, 0] rfl)
      refine lv_aload_n hx hb dL_law_27 rfl (lv_at hl 0 rfl) ?_
      refine lv_iload_n hx hb dL_law_28 rfl (lv_at hl 3 rfl) ?_
      refine va_sld hx hb hX hbl hbA hS (vp_in_nI (by omega) (by omega)) dL_law_29 ?_
      refine lv_bipush (v := 31) hx hb dL_law_30 (by decide) ?_
      refine lv_iand hx hb dL_law_32 ?_
      obtain ⟨j, hj, ej⟩ := pk_andE (xs (nI i).toNatClampNeg) (m := 31) 5 rfl
      rw [ej]
      rcases (show j = 0 ∨ j = 1 ∨ j = 2 ∨ j = 3 ∨ j = 4 ∨ j = 5 ∨ j = 6 ∨ j = 7 ∨ j = 8 ∨ j = 9 ∨ j = 10 ∨ j = 11 ∨ j = 12 ∨ j = 13 ∨ j = 14 ∨ j = 15 ∨ j = 16 ∨ j = 17 ∨ j = 18 ∨ j = 19 ∨ j = 20 ∨ j = 21 ∨ j = 22 ∨ j = 23 ∨ j = 24 ∨ j = 25 ∨ j = 26 ∨ j = 27 ∨ j = 28 ∨ j = 29 ∨ j = 30 ∨ j = 31 by omega) with rfl | rfl | rfl | rfl | rfl | rfl | rfl | rfl | rfl | rfl | rfl | rfl | rfl | rfl | rfl | rfl | rfl | rfl | rfl | rfl | rfl | rfl | rfl | rfl | rfl | rfl | rfl | rfl | rfl | rfl | rfl | rfl
      · refine lv_tableIn (off := 139) (tgt := 172) hx hb dL_law_33 (by decide) (by decide) (by decide) (by decide) ?_
        exact lc_0 N hN hL hC hi6 hK _ _ _ _ _ _ _ _ _ _ _ _ _ _ _ _ _ _ _ _ _ _ _ _ _ _ _ _ _ _ _ _ _ _ _ _ _ _ _ _ _ _ _ _ _ hR H locs ls hPc hPm hS hl
      · refine lv_tableIn (off := 172) (tgt := 205) hx hb dL_law_33 (by decide) (by decide) (by decide) (by decide) ?_
        exact lc_1 N hN hL hC hi6 hK _ _ _ _ _ _ _ _ _ _ _ _ _ _ _ _ _ _ _ _ _ _ _ _ _ _ _ _ _ _ _ _ _ _ _ _ _ _ _ _ _ _ _ _ _ hR H locs ls hPc hPm hS hl
      · refine lv_tableIn (off := 215) (tgt := 248) hx hb dL_law_33 (by decide) (by decide) (by decide) (by decide) ?_
        exact lc_2 N hN hL hC hi6 hK _ _ _ _ _ _ _ _ _ _ _ _ _ _ _ _ _ _ _ _ _ _ _ _ _ _ _ _ _ _ _ _ _ _ _ _ _ _ _ _ _ _ _ _ _ hR H locs ls hPc hPm hS hl
      · refine lv_tableIn (off := 264) (tgt := 297) hx hb dL_law_33 (by decide) (by decide) (by decide) (by decide) ?_
        exact lc_3 N hN hL hC hi6 hK _ _ _ _ _ _ _ _ _ _ _ _ _ _ _ _ _ _ _ _ _ _ _ _ _ _ _ _ _ _ _ _ _ _ _ _ _ _ _ _ _ _ _ _ _ hR H locs ls hPc hPm hS hl
      · refine lv_tableIn (off := 287) (tgt := 320) hx hb dL_law_33 (by decide) (by decide) (by decide) (by decide) ?_
        exact lc_4 N hN hL hC hi6 hK _ _ _ _ _ _ _ _ _ _ _ _ _ _ _ _ _ _ _ _ _ _ _ _ _ _ _ _ _ _ _ _ _ _ _ _ _ _ _ _ _ _ _ _ _ hR H locs ls hPc hPm hS hl
      · refine lv_tableIn (off := 320) (tgt := 353) hx hb dL_law_33 (by decide) (by decide) (by decide) (by decide) ?_
        exact lc_5 N hN hL hC hi6 hK _ _ _ _ _ _ _ _ _ _ _ _ _ _ _ _ _ _ _ _ _ _ _ _ _ _ _ _ _ _ _ _ _ _ _ _ _ _ _ _ _ _ _ _ _ hR H locs ls hPc hPm hS hl
      · refine lv_tableIn (off := 353) (tgt := 386) hx hb dL_law_33 (by decide) (by decide) (by decide) (by decide) ?_
        exact lc_6 N hN hL hC hi6 hK _ _ _ _ _ _ _ _ _ _ _ _ _ _ _ _ _ _ _ _ _ _ _ _ _ _ _ _ _ _ _ _ _ _ _ _ _ _ _ _ _ _ _ _ _ hR H locs ls hPc hPm hS hl
      · refine lv_tableIn (off := 386) (tgt := 419) hx hb dL_law_33 (by decide) (by decide) (by decide) (by decide) ?_
        exact lc_7 N hN hL hC hi6 hK _ _ _ _ _ _ _ _ _ _ _ _ _ _ _ _ _ _ _ _ _ _ _ _ _ _ _ _ _ _ _ _ _ _ _ _ _ _ _ _ _ _ _ _ _ hR H locs ls hPc hPm hS hl
      · refine lv_tableIn (off := 419) (tgt := 452) hx hb dL_law_33 (by decide) (by decide) (by decide) (by decide) ?_
        exact lc_8 N hN hL hC hi6 hK _ _ _ _ _ _ _ _ _ _ _ _ _ _ _ _ _ _ _ _ _ _ _ _ _ _ _ _ _ _ _ _ _ _ _ _ _ _ _ _ _ _ _ _ _ hR H locs ls hPc hPm hS hl
      · refine lv_tableIn (off := 462) (tgt := 495) hx hb dL_law_33 (by decide) (by decide) (by decide) (by decide) ?_
        exact lc_9 N hN hL hC hi6 hK _ _ _ _ _ _ _ _ _ _ _ _ _ _ _ _ _ _ _ _ _ _ _ _ _ _ _ _ _ _ _ _ _ _ _ _ _ _ _ _ _ _ _ _ _ hR H locs ls hPc hPm hS hl
      · refine lv_tableIn (off := 515) (tgt := 548) hx hb dL_law_33 (by decide) (by decide) (by decide) (by decide) ?_
        exact lc_10 N hN hL hC hi6 hK _ _ _ _ _ _ _ _ _ _ _ _ _ _ _ _ _ _ _ _ _ _ _ _ _ _ _ _ _ _ _ _ _ _ _ _ _ _ _ _ _ _ _ _ _ hR H locs ls hPc hPm hS hl
      · refine lv_tableIn (off := 578) (tgt := 611) hx hb dL_law_33 (by decide) (by decide) (by decide) (by decide) ?_
        exact lc_11 N hN hL hC hi6 hK _ _ _ _ _ _ _ _ _ _ _ _ _ _ _ _ _ _ _ _ _ _ _ _ _ _ _ _ _ _ _ _ _ _ _ _ _ _ _ _ _ _ _ _ _ hR H locs ls hPc hPm hS hl
      · refine lv_tableIn (off := 632) (tgt := 665) hx hb dL_law_33 (by decide) (by decide) (by decide) (by decide) ?_
        exact lc_12 N hN hL hC hi6 hK _ _ _ _ _ _ _ _ _ _ _ _ _ _ _ _ _ _ _ _ _ _ _ _ _ _ _ _ _ _ _ _ _ _ _ _ _ _ _ _ _ _ _ _ _ hR H locs ls hPc hPm hS hl
      · refine lv_tableIn (off := 685) (tgt := 718) hx hb dL_law_33 (by decide) (by decide) (by decide) (by decide) ?_
        exact lc_13 N hN hL hC hi6 hK _ _ _ _ _ _ _ _ _ _ _ _ _ _ _ _ _ _ _ _ _ _ _ _ _ _ _ _ _ _ _ _ _ _ _ _ _ _ _ _ _ _ _ _ _ hR H locs ls hPc hPm hS hl
      · refine lv_tableIn (off := 728) (tgt := 761) hx hb dL_law_33 (by decide) (by decide) (by decide) (by decide) ?_
        exact lc_14 N hN hL hC hi6 hK _ _ _ _ _ _ _ _ _ _ _ _ _ _ _ _ _ _ _ _ _ _ _ _ _ _ _ _ _ _ _ _ _ _ _ _ _ _ _ _ _ _ _ _ _ hR H locs ls hPc hPm hS hl
      · refine lv_tableIn (off := 761) (tgt := 794) hx hb dL_law_33 (by decide) (by decide) (by decide) (by decide) ?_
        exact lc_15 N hN hL hC hi6 hK _ _ _ _ _ _ _ _ _ _ _ _ _ _ _ _ _ _ _ _ _ _ _ _ _ _ _ _ _ _ _ _ _ _ _ _ _ _ _ _ _ _ _ _ _ hR H locs ls hPc hPm hS hl
      · refine lv_tableIn (off := 804) (tgt := 837) hx hb dL_law_33 (by decide) (by decide) (by decide) (by decide) ?_
        exact lc_16 N hN hL hC hi6 hK _ _ _ _ _ _ _ _ _ _ _ _ _ _ _ _ _ _ _ _ _ _ _ _ _ _ _ _ _ _ _ _ _ _ _ _ _ _ _ _ _ _ _ _ _ hR H locs ls hPc hPm hS hl
      · refine lv_tableIn (off := 857) (tgt := 890) hx hb dL_law_33 (by decide) (by decide) (by decide) (by decide) ?_
        exact lc_17 N hN hL hC hi6 hK _ _ _ _ _ _ _ _ _ _ _ _ _ _ _ _ _ _ _ _ _ _ _ _ _ _ _ _ _ _ _ _ _ _ _ _ _ _ _ _ _ _ _ _ _ hR H locs ls hPc hPm hS hl
      · refine lv_tableIn (off := 890) (tgt := 923) hx hb dL_law_33 (by decide) (by decide) (by decide) (by decide) ?_
        exact lc_18 N hN hL hC hi6 hK _ _ _ _ _ _ _ _ _ _ _ _ _ _ _ _ _ _ _ _ _ _ _ _ _ _ _ _ _ _ _ _ _ _ _ _ _ _ _ _ _ _ _ _ _ hR H locs ls hPc hPm hS hl
      · refine lv_tableIn (off := 903) (tgt := 936) hx hb dL_law_33 (by decide) (by decide) (by decide) (by decide) ?_
        exact lc_19 N hN hL hC hi6 hK _ _ _ _ _ _ _ _ _ _ _ _ _ _ _ _ _ _ _ _ _ _ _ _ _ _ _ _ _ _ _ _ _ _ _ _ _ _ _ _ _ _ _ _ _ hR H locs ls hPc hPm hS hl
      · refine lv_tableIn (off := 916) (tgt := 949) hx hb dL_law_33 (by decide) (by decide) (by decide) (by decide) ?_
        exact lc_20 N hN hL hC hi6 hK _ _ _ _ _ _ _ _ _ _ _ _ _ _ _ _ _ _ _ _ _ _ _ _ _ _ _ _ _ _ _ _ _ _ _ _ _ _ _ _ _ _ _ _ _ hR H locs ls hPc hPm hS hl
      · refine lv_tableIn (off := 939) (tgt := 972) hx hb dL_law_33 (by decide) (by decide) (by decide) (by decide) ?_
        exact lc_21 N hN hL hC hi6 hK _ _ _ _ _ _ _ _ _ _ _ _ _ _ _ _ _ _ _ _ _ _ _ _ _ _ _ _ _ _ _ _ _ _ _ _ _ _ _ _ _ _ _ _ _ hR H locs ls hPc hPm hS hl
      · refine lv_tableIn (off := 962) (tgt := 995) hx hb dL_law_33 (by decide) (by decide) (by decide) (by decide) ?_
        exact lc_22 N hN hL hC hi6 hK _ _ _ _ _ _ _ _ _ _ _ _ _ _ _ _ _ _ _ _ _ _ _ _ _ _ _ _ _ _ _ _ _ _ _ _ _ _ _ _ _ _ _ _ _ hR H locs ls hPc hPm hS hl
      · refine lv_tableIn (off := 975) (tgt := 1008) hx hb dL_law_33 (by decide) (by decide) (by decide) (by decide) ?_
        exact lc_23 N hN hL hC hi6 hK _ _ _ _ _ _ _ _ _ _ _ _ _ _ _ _ _ _ _ _ _ _ _ _ _ _ _ _ _ _ _ _ _ _ _ _ _ _ _ _ _ _ _ _ _ hR H locs ls hPc hPm hS hl
      · refine lv_tableIn (off := 998) (tgt := 1031) hx hb dL_law_33 (by decide) (by decide) (by decide) (by decide) ?_
        exact lc_24 N hN hL hC hi6 hK _ _ _ _ _ _ _ _ _ _ _ _ _ _ _ _ _ _ _ _ _ _ _ _ _ _ _ _ _ _ _ _ _ _ _ _ _ _ _ _ _ _ _ _ _ hR H locs ls hPc hPm hS hl
      · refine lv_tableIn (off := 1031) (tgt := 1064) hx hb dL_law_33 (by decide) (by decide) (by decide) (by decide) ?_
        exact lc_25 N hN hL hC hi6 hK _ _ _ _ _ _ _ _ _ _ _ _ _ _ _ _ _ _ _ _ _ _ _ _ _ _ _ _ _ _ _ _ _ _ _ _ _ _ _ _ _ _ _ _ _ hR H locs ls hPc hPm hS hl
      · refine lv_tableIn (off := 1064) (tgt := 1097) hx hb dL_law_33 (by decide) (by decide) (by decide) (by decide) ?_
        exact lc_26 N hN hL hC hi6 hK _ _ _ _ _ _ _ _ _ _ _ _ _ _ _ _ _ _ _ _ _ _ _ _ _ _ _ _ _ _ _ _ _ _ _ _ _ _ _ _ _ _ _ _ _ hR H locs ls hPc hPm hS hl
      · refine lv_tableIn (off := 1107) (tgt := 1140) hx hb dL_law_33 (by decide) (by decide) (by decide) (by decide) ?_
        exact lc_27 N hN hL hC hi6 hK _ _ _ _ _ _ _ _ _ _ _ _ _ _ _ _ _ _ _ _ _ _ _ _ _ _ _ _ _ _ _ _ _ _ _ _ _ _ _ _ _ _ _ _ _ hR H locs ls hPc hPm hS hl
      · refine lv_tableIn (off := 1140) (tgt := 1173) hx hb dL_law_33 (by decide) (by decide) (by decide) (by decide) ?_
        exact lc_28 N hN hL hC hi6 hK _ _ _ _ _ _ _ _ _ _ _ _ _ _ _ _ _ _ _ _ _ _ _ _ _ _ _ _ _ _ _ _ _ _ _ _ _ _ _ _ _ _ _ _ _ hR H locs ls hPc hPm hS hl
      · refine lv_tableIn (off := 1189) (tgt := 1222) hx hb dL_law_33 (by decide) (by decide) (by decide) (by decide) ?_
        exact lc_29 N hN hL hC hi6 hK _ _ _ _ _ _ _ _ _ _ _ _ _ _ _ _ _ _ _ _ _ _ _ _ _ _ _ _ _ _ _ _ _ _ _ _ _ _ _ _ _ _ _ _ _ hR H locs ls hPc hPm hS hl
      · refine lv_tableIn (off := 1232) (tgt := 1265) hx hb dL_law_33 (by decide) (by decide) (by decide) (by decide) ?_
        exact lc_30 N hN hL hC hi6 hK _ _ _ _ _ _ _ _ _ _ _ _ _ _ _ _ _ _ _ _ _ _ _ _ _ _ _ _ _ _ _ _ _ _ _ _ _ _ _ _ _ _ _ _ _ hR H locs ls hPc hPm hS hl
      · refine lv_tableOut (tgt := 1288) hx hb dL_law_33 (by decide) (by decide) ?_
        exact hK _ _ _ _ _ _ _ _ _ _ _ _ _ _ _ _ _ _ _ _ _ _ _ _ _ _ _ _ _ _ _ _ _ _ _ _ _ _ _ _ _ _ _ _ _ hR H locs ls hPc hPm hS hl
set_option maxHeartbeats 4000000 in
set_option maxRecDepth 100000 in
theorem lw_EAST {args : Array Value} {s : State} {A : Nat → Prop} (hs : ∀ c ∈ flatC (Jvm.Cond.and given_1 narrow_1), c.before args s = true) (hA : ∀ a : Nat, a < s.heap.size → ¬ A a) : ∃ t : Nat, (Term.static RX3 "EAST" "[I").eval args s none [] s = some (.ref t) ∧ va_T .int t 24 (fun j => .int (nx_east j)) A s s.heap := by
  refine va_Tof (by decide) (hs (Cond.arrayOf (Term.static RX3 "EAST" "[I") .int) (by decide +kernel)) (va_eqt (hs (Cond.eq (Term.length (Term.static RX3 "EAST" "[I")) (.int 24)) (by decide +kernel))) (fun j hj => ?_) hA
  rcases (show j = 0 ∨ j = 1 ∨ j = 2 ∨ j = 3 ∨ j = 4 ∨ j = 5 ∨ j = 6 ∨ j = 7 ∨ j = 8 ∨ j = 9 ∨ j = 10 ∨ j = 11 ∨ j = 12 ∨ j = 13 ∨ j = 14 ∨ j = 15 ∨ j = 16 ∨ j = 17 ∨ j = 18 ∨ j = 19 ∨ j = 20 ∨ j = 21 ∨ j = 22 ∨ j = 23 by omega) with rfl | rfl | rfl | rfl | rfl | rfl | rfl | rfl | rfl | rfl | rfl | rfl | rfl | rfl | rfl | rfl | rfl | rfl | rfl | rfl | rfl | rfl | rfl | rfl
  · exact va_eqt (hs (Cond.eq (Term.elem (Term.static RX3 "EAST" "[I") (.int 0)) (.int 2)) (by decide +kernel))
  · exact va_eqt (hs (Cond.eq (Term.elem (Term.static RX3 "EAST" "[I") (.int 1)) (.int 3)) (by decide +kernel))
  · exact va_eqt (hs (Cond.eq (Term.elem (Term.static RX3 "EAST" "[I") (.int 2)) (.int 4)) (by decide +kernel))
  · exact va_eqt (hs (Cond.eq (Term.elem (Term.static RX3 "EAST" "[I") (.int 3)) (.int 5)) (by decide +kernel))
  · exact va_eqt (hs (Cond.eq (Term.elem (Term.static RX3 "EAST" "[I") (.int 4)) (.int 1)) (by decide +kernel))
  · exact va_eqt (hs (Cond.eq (Term.elem (Term.static RX3 "EAST" "[I") (.int 5)) (.int 3)) (by decide +kernel))
  · exact va_eqt (hs (Cond.eq (Term.elem (Term.static RX3 "EAST" "[I") (.int 6)) (.int 4)) (by decide +kernel))
  · exact va_eqt (hs (Cond.eq (Term.elem (Term.static RX3 "EAST" "[I") (.int 7)) (.int 6)) (by decide +kernel))
  · exact va_eqt (hs (Cond.eq (Term.elem (Term.static RX3 "EAST" "[I") (.int 8)) (.int 1)) (by decide +kernel))
  · exact va_eqt (hs (Cond.eq (Term.elem (Term.static RX3 "EAST" "[I") (.int 9)) (.int 2)) (by decide +kernel))
  · exact va_eqt (hs (Cond.eq (Term.elem (Term.static RX3 "EAST" "[I") (.int 10)) (.int 5)) (by decide +kernel))
  · exact va_eqt (hs (Cond.eq (Term.elem (Term.static RX3 "EAST" "[I") (.int 11)) (.int 6)) (by decide +kernel))
  · exact va_eqt (hs (Cond.eq (Term.elem (Term.static RX3 "EAST" "[I") (.int 12)) (.int 1)) (by decide +kernel))
  · exact va_eqt (hs (Cond.eq (Term.elem (Term.static RX3 "EAST" "[I") (.int 13)) (.int 2)) (by decide +kernel))
  · exact va_eqt (hs (Cond.eq (Term.elem (Term.static RX3 "EAST" "[I") (.int 14)) (.int 5)) (by decide +kernel))
  · exact va_eqt (hs (Cond.eq (Term.elem (Term.static RX3 "EAST" "[I") (.int 15)) (.int 6)) (by decide +kernel))
  · exact va_eqt (hs (Cond.eq (Term.elem (Term.static RX3 "EAST" "[I") (.int 16)) (.int 1)) (by decide +kernel))
  · exact va_eqt (hs (Cond.eq (Term.elem (Term.static RX3 "EAST" "[I") (.int 17)) (.int 3)) (by decide +kernel))
  · exact va_eqt (hs (Cond.eq (Term.elem (Term.static RX3 "EAST" "[I") (.int 18)) (.int 4)) (by decide +kernel))
  · exact va_eqt (hs (Cond.eq (Term.elem (Term.static RX3 "EAST" "[I") (.int 19)) (.int 6)) (by decide +kernel))
  · exact va_eqt (hs (Cond.eq (Term.elem (Term.static RX3 "EAST" "[I") (.int 20)) (.int 2)) (by decide +kernel))
  · exact va_eqt (hs (Cond.eq (Term.elem (Term.static RX3 "EAST" "[I") (.int 21)) (.int 3)) (by decide +kernel))
  · exact va_eqt (hs (Cond.eq (Term.elem (Term.static RX3 "EAST" "[I") (.int 22)) (.int 4)) (by decide +kernel))
  · exact va_eqt (hs (Cond.eq (Term.elem (Term.static RX3 "EAST" "[I") (.int 23)) (.int 5)) (by decide +kernel))
set_option maxHeartbeats 4000000 in
set_option maxRecDepth 100000 in
theorem lw_SOUTH {args : Array Value} {s : State} {A : Nat → Prop} (hs : ∀ c ∈ flatC (Jvm.Cond.and given_1 narrow_1), c.before args s = true) (hA : ∀ a : Nat, a < s.heap.size → ¬ A a) : ∃ t : Nat, (Term.static RX3 "SOUTH" "[I").eval args s none [] s = some (.ref t) ∧ va_T .int t 24 (fun j => .int (nx_south j)) A s s.heap := by
  refine va_Tof (by decide) (hs (Cond.arrayOf (Term.static RX3 "SOUTH" "[I") .int) (by decide +kernel)) (va_eqt (hs (Cond.eq (Term.length (Term.static RX3 "SOUTH" "[I")) (.int 24)) (by decide +kernel))) (fun j hj => ?_) hA
  rcases (show j = 0 ∨ j = 1 ∨ j = 2 ∨ j = 3 ∨ j = 4 ∨ j = 5 ∨ j = 6 ∨ j = 7 ∨ j = 8 ∨ j = 9 ∨ j = 10 ∨ j = 11 ∨ j = 12 ∨ j = 13 ∨ j = 14 ∨ j = 15 ∨ j = 16 ∨ j = 17 ∨ j = 18 ∨ j = 19 ∨ j = 20 ∨ j = 21 ∨ j = 22 ∨ j = 23 by omega) with rfl | rfl | rfl | rfl | rfl | rfl | rfl | rfl | rfl | rfl | rfl | rfl | rfl | rfl | rfl | rfl | rfl | rfl | rfl | rfl | rfl | rfl | rfl | rfl
  · exact va_eqt (hs (Cond.eq (Term.elem (Term.static RX3 "SOUTH" "[I") (.int 0)) (.int 4)) (by decide +kernel))
  · exact va_eqt (hs (Cond.eq (Term.elem (Term.static RX3 "SOUTH" "[I") (.int 1)) (.int 2)) (by decide +kernel))
  · exact va_eqt (hs (Cond.eq (Term.elem (Term.static RX3 "SOUTH" "[I") (.int 2)) (.int 5)) (by decide +kernel))
  · exact va_eqt (hs (Cond.eq (Term.elem (Term.static RX3 "SOUTH" "[I") (.int 3)) (.int 3)) (by decide +kernel))
  · exact va_eqt (hs (Cond.eq (Term.elem (Term.static RX3 "SOUTH" "[I") (.int 4)) (.int 3)) (by decide +kernel))
  · exact va_eqt (hs (Cond.eq (Term.elem (Term.static RX3 "SOUTH" "[I") (.int 5)) (.int 6)) (by decide +kernel))
  · exact va_eqt (hs (Cond.eq (Term.elem (Term.static RX3 "SOUTH" "[I") (.int 6)) (.int 1)) (by decide +kernel))
  · exact va_eqt (hs (Cond.eq (Term.elem (Term.static RX3 "SOUTH" "[I") (.int 7)) (.int 4)) (by decide +kernel))
  · exact va_eqt (hs (Cond.eq (Term.elem (Term.static RX3 "SOUTH" "[I") (.int 8)) (.int 5)) (by decide +kernel))
  · exact va_eqt (hs (Cond.eq (Term.elem (Term.static RX3 "SOUTH" "[I") (.int 9)) (.int 1)) (by decide +kernel))
  · exact va_eqt (hs (Cond.eq (Term.elem (Term.static RX3 "SOUTH" "[I") (.int 10)) (.int 6)) (by decide +kernel))
  · exact va_eqt (hs (Cond.eq (Term.elem (Term.static RX3 "SOUTH" "[I") (.int 11)) (.int 2)) (by decide +kernel))
  · exact va_eqt (hs (Cond.eq (Term.elem (Term.static RX3 "SOUTH" "[I") (.int 12)) (.int 2)) (by decide +kernel))
  · exact va_eqt (hs (Cond.eq (Term.elem (Term.static RX3 "SOUTH" "[I") (.int 13)) (.int 6)) (by decide +kernel))
  · exact va_eqt (hs (Cond.eq (Term.elem (Term.static RX3 "SOUTH" "[I") (.int 14)) (.int 1)) (by decide +kernel))
  · exact va_eqt (hs (Cond.eq (Term.elem (Term.static RX3 "SOUTH" "[I") (.int 15)) (.int 5)) (by decide +kernel))
  · exact va_eqt (hs (Cond.eq (Term.elem (Term.static RX3 "SOUTH" "[I") (.int 16)) (.int 4)) (by decide +kernel))
  · exact va_eqt (hs (Cond.eq (Term.elem (Term.static RX3 "SOUTH" "[I") (.int 17)) (.int 1)) (by decide +kernel))
  · exact va_eqt (hs (Cond.eq (Term.elem (Term.static RX3 "SOUTH" "[I") (.int 18)) (.int 6)) (by decide +kernel))
  · exact va_eqt (hs (Cond.eq (Term.elem (Term.static RX3 "SOUTH" "[I") (.int 19)) (.int 3)) (by decide +kernel))
  · exact va_eqt (hs (Cond.eq (Term.elem (Term.static RX3 "SOUTH" "[I") (.int 20)) (.int 3)) (by decide +kernel))
  · exact va_eqt (hs (Cond.eq (Term.elem (Term.static RX3 "SOUTH" "[I") (.int 21)) (.int 5)) (by decide +kernel))
  · exact va_eqt (hs (Cond.eq (Term.elem (Term.static RX3 "SOUTH" "[I") (.int 22)) (.int 2)) (by decide +kernel))
  · exact va_eqt (hs (Cond.eq (Term.elem (Term.static RX3 "SOUTH" "[I") (.int 23)) (.int 4)) (by decide +kernel))
theorem lw_mem {w : Cond} (i : Nat) (h : tables_1[i]? = some w) : w ∈ lw_tbl := List.mem_append_right _ (List.mem_of_getElem? h)
theorem lw_arr {args : Array Value} {s : State} {ty : FieldType} (h : (Cond.arrayClass ty).before args s = true) : ∃ cA : ClassId, ArrOfT s cA ty ∧ s.vm.findClass ("[" ++ ty.toString) = some cA := by
  obtain ⟨c, k, comp, h1, h2, h3⟩ := Cond.arrayClass_spec h
  exact ⟨c, fun n z => ⟨fun k h => (by cases h), k, h2, comp, h3⟩, h1⟩
theorem lw_nz {args : Array Value} {s : State} (hts : ∀ w ∈ lw_tbl, w.before args s = true) : nx_Z s := by
  refine ⟨fun q hq => ?_, va_Nw.of rfl (hts _ (lw_mem 359 (by decide +kernel)))⟩
  simp only [nx_L, List.mem_cons, List.not_mem_nil, or_false] at hq
  rcases hq with rfl | rfl | rfl | rfl | rfl | rfl | rfl | rfl | rfl | rfl | rfl | rfl | rfl | rfl
  · exact va_Nw.of rfl (hts _ (lw_mem 59 (by decide +kernel)))
  · exact va_Nw.of rfl (hts _ (lw_mem 69 (by decide +kernel)))
  · exact va_Nw.of rfl (hts _ (lw_mem 183 (by decide +kernel)))
  · exact va_Nw.of rfl (hts _ (lw_mem 767 (by decide +kernel)))
  · exact va_Nw.of rfl (hts _ (lw_mem 721 (by decide +kernel)))
  · exact va_Nw.of rfl (hts _ (lw_mem 34 (by decide +kernel)))
  · exact va_Nw.of rfl (hts _ (lw_mem 562 (by decide +kernel)))
  · exact va_Nw.of rfl (hts _ (lw_mem 300 (by decide +kernel)))
  · exact va_Nw.of rfl (hts _ (lw_mem 62 (by decide +kernel)))
  · exact va_Nw.of rfl (hts _ (lw_mem 98 (by decide +kernel)))
  · exact va_Nw.of rfl (hts _ (lw_mem 472 (by decide +kernel)))
  · exact va_Nw.of rfl (hts _ (lw_mem 534 (by decide +kernel)))
  · exact va_Nw.of rfl (hts _ (lw_mem 628 (by decide +kernel)))
  · exact va_Nw.of rfl (hts _ (lw_mem 579 (by decide +kernel)))
set_option maxHeartbeats 4000000 in
theorem lw_kn {args : Array Value} {s : State} (hts : ∀ w ∈ nx_T, w.before args s = true) : ∃ D : va_G, ∀ (k : Nat) (q : vw_C), vwCl[k]? = some q → u_Kn s q.1 q.2.1 q.2.2 (D.1 k) (D.2 k) := by
  obtain ⟨c0, i0, k0⟩ := u_known (C := RX0) (T := TX0) (N := 2) (n := 2) hts uw_X0 (hts _ wo_in_X0)
  obtain ⟨c1, i1, k1⟩ := u_known (C := RX1) (T := TX1) (N := 4) (n := 4) hts uw_X1 (hts _ wo_in_X1)
  obtain ⟨c2, i2, k2⟩ := u_known (C := RX2) (T := TX2) (N := 5) (n := 5) hts uw_X2 (hts _ wo_in_X2)
  obtain ⟨c3, i3, k3⟩ := u_known (C := RX3) (T := TX3) (N := 0) (n := 0) hts (fun w h => absurd h (by simp [u_ws])) (hts _ wo_in_X3)
  obtain ⟨c4, i4, k4⟩ := u_known (C := RX4) (T := TX4) (N := 1) (n := 1) hts uw_X4 (hts _ wo_in_X4)
  obtain ⟨c5, i5, k5⟩ := u_known (C := RX5) (T := TX5) (N := 3) (n := 3) hts uw_X5 (hts _ wo_in_X5)
  obtain ⟨c6, i6, k6⟩ := u_known (C := RX7) (T := TX7) (N := 6) (n := 6) hts uw_X7 (hts _ wo_in_X7)
  obtain ⟨c7, i7, k7⟩ := u_known (C := RX8) (T := TX8) (N := 6) (n := 6) hts uw_X8 (hts _ wo_in_X8)
  obtain ⟨c8, i8, k8⟩ := u_known (C := RX9) (T := TX9) (N := 7) (n := 7) hts uw_X9 (hts _ wo_in_X9)
  obtain ⟨c9, i9, k9⟩ := u_known (C := RX10) (T := TX10) (N := 8) (n := 8) hts uw_X10 (hts _ wo_in_X10)
  obtain ⟨c10, i10, k10⟩ := u_known (C := RX11) (T := TX11) (N := 24) (n := 24) hts uw_X11 (hts _ wo_in_X11)
  refine ⟨(fun k => if k = 0 then c0 else if k = 1 then c1 else if k = 2 then c2 else if k = 3 then c3 else if k = 4 then c4 else if k = 5 then c5 else if k = 6 then c6 else if k = 7 then c7 else if k = 8 then c8 else if k = 9 then c9 else c10, fun k => if k = 0 then i0 else if k = 1 then i1 else if k = 2 then i2 else if k = 3 then i3 else if k = 4 then i4 else if k = 5 then i5 else if k = 6 then i6 else if k = 7 then i7 else if k = 8 then i8 else if k = 9 then i9 else i10), ?_⟩
  intro k q hq
  match k, hq with
  | 0, hq => cases hq; exact k0
  | 1, hq => cases hq; exact k1
  | 2, hq => cases hq; exact k2
  | 3, hq => cases hq; exact k3
  | 4, hq => cases hq; exact k4
  | 5, hq => cases hq; exact k5
  | 6, hq => cases hq; exact k6
  | 7, hq => cases hq; exact k7
  | 8, hq => cases hq; exact k8
  | 9, hq => cases hq; exact k9
  | 10, hq => cases hq; exact k10
  | k + 11, hq => simp [vwCl] at hq
set_option maxHeartbeats 8000000 in
set_option maxRecDepth 100000 in
theorem whole_start {p : Program} {e : Env} {s : State} {m : MethodId} {below : List Frame} {meth : Method} {c : Code} (l : Launch) {b L : Nat} {xs : Nat → Int32} (hL : L ≤ 3072) (C0 : lw_At p s m meth c b L xs) : W p l e room_1 s m #[Value.ref b] below meth c s.heap [] 0 0 (lw_Z below #[Value.ref b] s) (entryFrame m ([Value.ref b] : List Value).toArray 4) := by
  obtain ⟨hx, hb, hr, hml, hown, hts0, hX, hbl, hlocks, hgv⟩ := id C0
  have hts : ∀ w ∈ nx_T, w.before #[Value.ref b] s = true := fun w hw => hts0 w (List.mem_filter.mp hw).1
  obtain ⟨D, hD0⟩ := lw_kn hts
  obtain ⟨cI, aI, rI⟩ := lw_arr (hts _ wo_ai)
  obtain ⟨cJ, aJ, rJ⟩ := lw_arr (hts _ wo_aj)
  have hsf := flat_of_before _ hgv
  have hAs : ∀ a : Nat, a < s.heap.size → ¬ lw_A s a := fun a h => Nat.not_le.mpr h
  obtain ⟨tE, eE, hTE⟩ := lw_EAST (A := lw_A s) hsf hAs
  obtain ⟨tS, eS, hTS⟩ := lw_SOUTH (A := lw_A s) hsf hAs
  obtain ⟨E, hE⟩ : ∃ E : nx_E, E = (D, cI, cJ, tE, tS) := ⟨_, rfl⟩
  have hK : va_K E.1 vwCl (nx_ty E) s := by
    rw [hE]
    refine ⟨hD0, fun k q hk => ?_⟩
    match k, hk with
    | 0, hk => cases hk; exact ⟨aI, rI⟩
    | 1, hk => cases hk; exact ⟨aJ, rJ⟩
    | k + 2, hk => simp at hk
  have hSt : nx_S E (lw_A s) s s.heap := by
    rw [hE]
    exact ⟨va_Zof (hts0 _ (lw_mem 302 (by decide +kernel))) (hts _ wn_RX3) eE hAs, va_Zof (hts0 _ (lw_mem 307 (by decide +kernel))) (hts _ wn_RX3) eS hAs, hTE, hTS⟩
  clear hE
  have X : nx_C E (lw_A s) p s m c cL_law 4 RL #[Value.ref b] := ⟨⟨hx, hb, hml, hown, hts⟩, hK, hSt, lw_nz hts0⟩
  obtain ⟨o, o2, ho, ho2, hR⟩ := s_init
  have hA : ∀ q : Nat, s.heap.size ≤ q → lw_A s q := fun _ h => h
  have hS : va_S (lw_A s) s.heap s.heap [] := va_S.rf
  have hP : va_P E.1 vwCl [] s.heap := fun k q h => by simp at h
  have hD : va_D (lw_A s) [] := ⟨fun i j p q h => by simp at h, fun k q h => by simp at h⟩
  have hl := lv_entry ([.ref b]) (n := 4) (Nat.le_of_ble_eq_true rfl)
  rw [lg_entry_eq]
  generalize (lg_sl ([.ref b]) ++ List.replicate (4 - (lg_sl ([.ref b])).length) Slot.unset).toArray = ls at hl ⊢
  have hl : lv_has ls 4 [(0, .ref b)] := hl
  refine nx_nw (fs := [.null, .null, .null, .null, .null, .null, .null, .null]) X hP hD hS hA uw_X10 tyX10 tyX10_ok wo_cl_L_7 wo_in_X10 wn_RX10 (ci := 9) rfl df_X10 (Nat.le_of_ble_eq_true rfl) (Nat.le_of_ble_eq_true rfl) dL_law_0 (fun q1 H hP hD hS => ?_)
  refine W.widen (k := 1) (n := 8) (Nat.le_of_ble_eq_true rfl) (Nat.le_of_ble_eq_true rfl) ?_
  refine lv_dup hx hb dL_law_3 rfl ?_
  have hA1 : ∀ q, nx_A (fun _ => q1) 1 H.size q → lw_A s q := fun q hq => hq.elim (fun ⟨_, _, e⟩ => by rw [e]; exact hD.2 0 _ rfl) (fun z => Nat.le_trans hS.1 z)
  refine va_callv (nx_rI (wr := []) (n := 0) (b := q1) (As := []) (rest := [.ref q1]) X hP hS (k_X10 l 200 E H.size q1 o ho) wm_RL_9 wi_X10_init wn_RX10 wc_X10_init rfl (by decide +kernel) ⟨rfl, rfl⟩ ⟨Nat.le_of_ble_eq_true rfl, Nat.le_of_ble_eq_true rfl⟩ rfl rfl hl.1 (Nat.le_of_ble_eq_true rfl) dL_law_4 ⟨Nat.le_of_ble_eq_true rfl, Nat.le_of_ble_eq_true rfl⟩ hA1) hS (fun q _ h => hA1 q h) hA1 (fun u t H1 locs1 ht hvm hp hB hz hk hS1 => ?_)
  obtain ⟨hu0, hI, hAu, hPc⟩ := hB
  rw [ht] at hPc
  have ha : ∀ k, k < 24 → s.heap.size ≤ u k := fun k hk => hA1 _ (hAu k hk)
  refine W.widen (k := 24) (n := 3878) (Nat.le_of_ble_eq_true rfl) (Nat.le_of_ble_eq_true rfl) ?_
  refine lv_astore_n (lv' := [(1, .ref q1), (0, .ref b)]) hx hb dL_law_7 rfl hl (by decide) rfl (fun ls hl => ?_)
  have hDc : va_D (lw_A s) (cW E u o.1 o.2.1 o.2.2.1 o.2.2.2.1 o.2.2.2.2 0 (fun _ => 0) (fun _ => 0) (fun _ => 0) (fun _ => 0) (fun _ => 0) (fun _ => 0) 0 0 0 0 (fun _ => 0) 0 (fun _ => 0) (fun _ => 0) (fun _ => 0)) := nx_Dof (a := u) (n := 24) hI ha cW_ad
  refine nx_nw (fs := [.null, .null, .null, .null, .null, .int 0, .int 0, .null, .null, .int 0, .null, .null, .null, .null, .null, .null, .int 0, .int 0, .int 0, .null, .null, .null, .null, .int 0]) X hPc hDc hS1 hA uw_X11 tyX11 tyX11_ok wo_cl_L_10 wo_in_X11 wn_RX11 (ci := 10) rfl df_X11 (Nat.le_of_ble_eq_true rfl) (Nat.le_of_ble_eq_true rfl) dL_law_8 (fun q2 H2 hP2 hD2 hS2 => ?_)
  refine W.widen (k := 25) (n := 3902) (Nat.le_of_ble_eq_true rfl) (Nat.le_of_ble_eq_true rfl) ?_
  refine lv_dup hx hb dL_law_11 rfl ?_
  have hq2 : ((cW E u o.1 o.2.1 o.2.2.1 o.2.2.2.1 o.2.2.2.2 0 (fun _ => 0) (fun _ => 0) (fun _ => 0) (fun _ => 0) (fun _ => 0) (fun _ => 0) 0 0 0 0 (fun _ => 0) 0 (fun _ => 0) (fun _ => 0) (fun _ => 0)) ++ [(q2, .inr (10, [.null, .null, .null, .null, .null, .int 0, .int 0, .null, .null, .int 0, .null, .null, .null, .null, .null, .null, .int 0, .int 0, .int 0, .null, .null, .null, .null, .int 0]))])[24]? = some (q2, .inr (10, [.null, .null, .null, .null, .null, .int 0, .int 0, .null, .null, .int 0, .null, .null, .null, .null, .null, .null, .int 0, .int 0, .int 0, .null, .null, .null, .null, .int 0])) := rfl
  have hA2 : ∀ q, nx_A (fun _ => q2) 1 H2.size q → lw_A s q := fun q hq => hq.elim (fun ⟨_, _, e⟩ => by rw [e]; exact hD2.2 24 _ hq2) (fun z => Nat.le_trans hS2.1 z)
  have hk2 : ∀ k, k < 24 → u k ≠ q2 ∧ u k < H2.size := fun k hk => by
    obtain ⟨x, hx⟩ := nx_ad_get (cW_ad (E := E) (a := u)) hk
    have h1 : ((cW E u o.1 o.2.1 o.2.2.1 o.2.2.2.1 o.2.2.2.2 0 (fun _ => 0) (fun _ => 0) (fun _ => 0) (fun _ => 0) (fun _ => 0) (fun _ => 0) 0 0 0 0 (fun _ => 0) 0 (fun _ => 0) (fun _ => 0) (fun _ => 0)) ++ [(q2, .inr (10, [.null, .null, .null, .null, .null, .int 0, .int 0, .null, .null, .int 0, .null, .null, .null, .null, .null, .null, .int 0, .int 0, .int 0, .null, .null, .null, .null, .int 0]))])[k]? = some (u k, x) := by rw [List.getElem?_append_left (by exact hk)]; exact hx
    exact ⟨fun e => absurd (hD2.1 k 24 _ _ h1 hq2 e) (by omega), (hP2 k _ h1).lt⟩
  refine va_callv (nx_rI (wr := (cW E u o.1 o.2.1 o.2.2.1 o.2.2.2.1 o.2.2.2.2 0 (fun _ => 0) (fun _ => 0) (fun _ => 0) (fun _ => 0) (fun _ => 0) (fun _ => 0) 0 0 0 0 (fun _ => 0) 0 (fun _ => 0) (fun _ => 0) (fun _ => 0))) (n := 0) (b := q2) (As := []) (rest := [.ref q2]) X hP2 hS2 (k_X11 l 200 E H2.size q2 o2 ho2) wm_RL_12 wi_X11_init wn_RX11 wc_X11_init rfl (by decide +kernel) ⟨rfl, rfl⟩ ⟨Nat.le_of_ble_eq_true rfl, Nat.le_of_ble_eq_true rfl⟩ rfl rfl hl.1 (Nat.le_of_ble_eq_true rfl) dL_law_12 ⟨Nat.le_of_ble_eq_true rfl, Nat.le_of_ble_eq_true rfl⟩ hA2) hS2 (fun q _ h => hA2 q h) hA2 (fun u2 t2 H3 locs3 ht2 hvm2 hp2 hB2 hz2 hk3 hS3 => ?_)
  obtain ⟨hv0, hI2, hAv, hPm⟩ := hB2
  rw [ht2] at hPm
  have hab : ∀ i j, i < 24 → j < 18 → u i ≠ u2 j := fun i j hi hj e => by
    obtain ⟨h1, h2⟩ := hk2 i hi
    rcases hAv j hj with ⟨_, _, z⟩ | z
    · exact h1 (e.trans z)
    · rw [← e] at z; exact absurd h2 (Nat.not_lt.mpr z)
  have hPc3 : va_P E.1 vwCl (cW E u o.1 o.2.1 o.2.2.1 o.2.2.2.1 o.2.2.2.2 0 (fun _ => 0) (fun _ => 0) (fun _ => 0) (fun _ => 0) (fun _ => 0) (fun _ => 0) 0 0 0 0 (fun _ => 0) 0 (fun _ => 0) (fun _ => 0) (fun _ => 0)) H3 := nx_keepP (fun k q hk => hP2 k q (by rw [List.getElem?_append_left (by exact (nx_ad_at cW_ad hk).1)]; exact hk)) hk3 (fun k q hk z => by
    obtain ⟨h1, h2⟩ := nx_ad_at cW_ad hk
    obtain ⟨h3, h4⟩ := hk2 k h1
    rcases z with ⟨_, _, z⟩ | z
    · exact h3 (by rw [← h2]; exact z)
    · rw [h2] at z; exact absurd h4 (Nat.not_lt.mpr z))
  refine W.widen (k := 42) (n := 6641) (Nat.le_of_ble_eq_true rfl) (Nat.le_of_ble_eq_true rfl) ?_
  refine lv_astore_n (lv' := [(2, .ref q2), (1, .ref q1), (0, .ref b)]) hx hb dL_law_15 rfl hl (by decide) rfl (fun ls hl => ?_)
  refine lv_iconst (v := 0) hx hb dL_law_16 (by decide) ?_
  refine lv_istore_n (lv' := [(3, .int 0), (2, .ref q2), (1, .ref q1), (0, .ref b)]) hx hb dL_law_17 rfl hl (by decide) rfl (fun ls hl => ?_)
  have hC : lw_C E u u2 p s m c b L xs := ⟨X, hX, hbl, hI, hI2, ha, fun k hk => hA2 _ (hAv k hk), hab, fun i j hi hj z => hab j i hj hi z.symm⟩
  subst hu0 hv0
  exact lw_loop NB (Nat.le_refl _) hL hr hlocks hC (L + 1) 0 (by omega) (by omega) _ _ _ _ _ _ _ _ _ _ _ _ _ _ _ _ _ _ _ _ _ _ _ _ _ _ _ _ _ _ _ _ _ _ _ _ _ _ _ _ _ _ _ _ _ hR H3 locs3 ls hPc3 hPm hS3 (lv_sub hl [3, 2, 1, 0] rfl)
set_option maxHeartbeats 4000000 in
theorem lw_walk (l : Launch) (b : Addr) (xs : List Int32) : MetFree l x (headSpec (Jvm.Cond.code x code maxLocals ret :: tables_1) room_1) (lw_P b xs) (fun _ _ _ _ _ => True) lw_Q := by
  refine MetFree.of_bodyS (code := code) (maxLocals := maxLocals) (ret := ret) (by decide) ?_ ?_
  · intro args s m h hn
    obtain ⟨meth, c, h1, h2, h3, h4, h5, h6, -, -⟩ := Cond.code_spec hn (atoms_spec (ws := Jvm.Cond.code x code maxLocals ret :: tables_1) h _ List.mem_cons_self)
    exact ⟨meth, c, h1, h2, h3, h4, h5, h6⟩
  · intro p e s m args below meth c s₁ B hml0 hP _
    obtain ⟨rfl, hx, hbd, hgv⟩ := hP
    obtain ⟨scr, harrAt, hlist, hof, hsmall⟩ := hx
    obtain ⟨hcb, hkn, -, -⟩ := State.arrayAt?_spec harrAt
    have hown : s.vm.findClass R_law = some m.cls := findClass_of_methodNamed B.named
    have hts0 : ∀ c ∈ (Jvm.Cond.code x code maxLocals ret :: tables_1), c.before #[Value.ref b] s = true := atoms_spec (ws := Jvm.Cond.code x code maxLocals ret :: tables_1) B.pre
    have hts : ∀ w ∈ lw_tbl, w.before #[Value.ref b] s = true := k2_hts_sels lw_privs (fun w hw => hts0 w (List.mem_cons_of_mem _ hw)) lw_privs_ok
    have hml : c.maxLocals = 4 := B.maxLocals_eq (hts0 _ List.mem_cons_self)
    have X₀ : Stand p l e room_1 s m #[Value.ref b] below meth c s₁ [] 0 0 := Stand.of_body B
    have hh0 : s₁.heap = s.heap := by rw [B.state]; rfl
    have hsz : scr.slots.size = xs.length := by rw [← Array.length_toList, hlist, List.length_map]
    have hval : ∀ j : Nat, j < xs.length → scr.slots[j]? = some (.int (xs.getD j 0)) := fun j hj => by
      rw [← Array.getElem?_toList, hlist]
      simp [hj]
    have hbl : b < s.heap.size := (Array.getElem?_eq_some_iff.mp hcb).1
    have hX : va_X b xs.length (fun j => xs.getD j 0) s s.heap := ⟨scr, hcb, hof, hkn, hsz, hval⟩
    have K : W p l e room_1 s m #[Value.ref b] below meth c s₁.heap [] 0 0 (lw_Z below #[Value.ref b] s) (entryFrame m ([Value.ref b] : List Value).toArray 4) := by
      rw [hh0]
      exact whole_start l hbd ⟨B.exec, B.bytes, B.returns, hml, hown, hts, hX, hbl, B.notSynchronized, hgv⟩
    obtain ⟨t, a1, o, b1, b2, b3⟩ := K s₁ rfl X₀
    exact ⟨t, o, a1, b1, b2, b3⟩
theorem lw_pre_spec {args : Array Value} {s : State} (h : (Jvm.Cond.and given_1 narrow_1).before args s = true) (hr : rest_1_c.before args s = true) : ∃ (b : Addr) (xs : List Int32), lw_P b xs args s := by
  have hs := flat_of_before _ h
  have hq := flat_of_before _ hr
  have hc : (Cond.count 1).before args s = true := hs _ (by decide +kernel)
  have harr : (Cond.arrayOf (.arg 0) .int).before args s = true := hs _ (by decide +kernel)
  have hle : (Cond.le (.length (.arg 0)) (.int 3072)).before args s = true := hs _ (by decide +kernel)
  have hlen : (Cond.isInt (.length (.arg 0))).before args s = true := hq _ (by decide +kernel)
  have hall : (Cond.all (.arg 0) (.isInt (.elem (.arg 0) (.index 0)))).before args s = true := hq _ (by decide +kernel)
  obtain ⟨b, xs, hb, hx⟩ := State.ints_of_pre rfl harr hlen hall
  have hsm : xs.length < 2 ^ 31 := hx.choose_spec.2.2.2
  have hev : (Term.length (.arg 0)).eval args s none [] s = some (.int xs.length.toInt32) := hx.length_eval hb
  have hv := Cond.le_ints hev (show (Term.int 3072).eval args s none [] s = some (.int 3072) from rfl)
  have hd : xs.length.toInt32 ≤ 3072 := by
    simpa [Cond.before, Cond.holds, hv] using hle
  have hN : xs.length ≤ 3072 := (Int32.ofNat_le_ofNat hsm (by decide)).mp (show Int32.ofNat xs.length ≤ Int32.ofNat 3072 from hd)
  exact ⟨b, xs, Cond.one_arg hc (show args[0]? = some (.ref b) from hb), hx, hN, h⟩
theorem lw_comes (l : Launch) : Comes l x (Jvm.Cond.code x code maxLocals ret :: tables_1) room_1 (fun tb e args s => Calls_1 tb e args s ∧ rest_1 tb e args s ∧ Pre_1 tb e args s)
    (fun _ _ args s o t => lw_Q args s o t) := by
  intro p e ha hc hk s m args below hf hfit hheap happ hpre
  obtain ⟨b, xs, hP⟩ := lw_pre_spec hpre.2.2 hpre.2.1
  obtain ⟨k, o, h1, h2, h3, hQ⟩ := lw_walk l b xs p e ha hc hk s m args below hf ((Spec.applies_iff_loose hf).mp happ).1 hP trivial
  exact ⟨k, o, h1, h2, h3, hQ⟩
theorem lw_frame {s t : State} {o : Outcome} {args : Array Value} (h : Framed s o t [] 600000 7302250) :
    Framed s o t (fieldLocs frame_1_writes args s ++ arrayLocs frame_1_arrays args s ++ staticLocs frame_1_statics s) 600000 7302250 := h
theorem lw_limb (L : Cond) (hL : ∀ (args : Array Value) (s t : State), L.after args s (.returned (some (.int 1))) t = true) :
    ArmFor flags0 classFile x code maxLocals ret World_1 tables_1 room_1 Calls_1 rest_1 Pre_1
      (fun tb e a s o t => postC L tb e a s o t ∧ Framed s o t (fieldLocs frame_1_writes a s ++ arrayLocs frame_1_arrays a s ++ staticLocs frame_1_statics s) 600000 7302250) := by
  intro l _ _ _ p e ha hc hk s m args below hf hfit hheap happ hpre
  obtain ⟨k, o, h1, h2, h3, rfl, hF⟩ := lw_comes l p e ha hc hk s m args below hf hfit hheap happ hpre
  exact ⟨k, _, h1, h2, h3, hL args s _, lw_frame hF⟩
theorem i_vc : Claimed_1_1 ∧ Claimed_1_2 := ⟨lw_limb limb_1_1 (fun args s t => by simp [limb_1_1, Cond.after, Cond.holds, Cond.value]), lw_limb limb_1_2 (fun args s t => Cond.after_iff.mpr (by
  first | (rw [show limb_1_2 = Cond.eq .result (.int 1) from rfl, Cond.eq_ints (x := 1) (y := 1) rfl rfl]; simp; done) | (simp [limb_1_2, Cond.value, Term.eval]; done)))⟩


