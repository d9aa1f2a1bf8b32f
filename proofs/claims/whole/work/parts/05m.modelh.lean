def f_X11_greatestBy_b2 (x1 : Int32) (rec : (Int32 × (Nat → Int32)) → Option ((Nat → Int32))) (x2 : Int32) (prints : Nat → Int32) : Option ((Nat → Int32)) :=
  if 7 ≤ x2 then (some prints) else ((nx_ck 7 x2).bind fun _ => rec ((x2 + 1), (upd prints x2.toNatClampNeg 0)))
def f_X11_greatestBy_l2 (x1 : Int32) : Nat → (Int32 × (Nat → Int32)) → Option ((Nat → Int32)) := nx_lp (fun rec z => f_X11_greatestBy_b2 x1 rec z.1 z.2)
def f_X11_greatestBy_b26 (N : Nat) (x1 : Int32) (wide : Int32) (tall : Int32) (groups : Int32) (rowMany : Int32) (top : Nat → Int32) (rolled : Nat → Int32) (kind : Nat → Int32) (mark : Nat → Int32) (rowWay : Nat → Int32) (rowSeen : Nat → Int32) (rec : (Int32 × Int32 × (Nat → Int32)) → Option ((Int32 × ((Nat → Int32))) ⊕ (Int32 × (Nat → Int32)))) (x2 : Int32) (x3 : Int32) (prints : Nat → Int32) : Option ((Int32 × ((Nat → Int32))) ⊕ (Int32 × (Nat → Int32))) :=
  (f_X11_cells wide tall).bind fun r_3 => if (24 * r_3) ≤ x3 then (some (.inr (x2, prints))) else ((f_X11_behind N x3 wide tall groups rowMany top rolled kind mark rowWay rowSeen).bind fun r_5 => if r_5 = (-9) then (rec (x2, (x3 + 1), prints)) else ((f_X11_rollOf r_5 x1 wide tall groups top rolled kind mark).bind fun r_7 => if r_7 = (-9) then (some (.inl ((-9), prints))) else ((f_X11_print r_7 top).bind fun r_9 => (nx_rd prints 7 r_9).bind fun _ => (nx_ck 7 r_9).bind fun _ => (f_X11_print r_7 top).bind fun r_14 => (nx_rd (upd prints r_9.toNatClampNeg ((prints r_9.toNatClampNeg) + 1)) 7 r_14).bind fun _ => if ((upd prints r_9.toNatClampNeg ((prints r_9.toNatClampNeg) + 1)) r_14.toNatClampNeg) ≤ x2 then (rec (x2, (x3 + 1), (upd prints r_9.toNatClampNeg ((prints r_9.toNatClampNeg) + 1)))) else ((f_X11_print r_7 top).bind fun r_18 => (nx_rd (upd prints r_9.toNatClampNeg ((prints r_9.toNatClampNeg) + 1)) 7 r_18).bind fun _ => rec (((upd prints r_9.toNatClampNeg ((prints r_9.toNatClampNeg) + 1)) r_18.toNatClampNeg), (x3 + 1), (upd prints r_9.toNatClampNeg ((prints r_9.toNatClampNeg) + 1)))))))
def f_X11_greatestBy_l26 (N : Nat) (x1 : Int32) (wide : Int32) (tall : Int32) (groups : Int32) (rowMany : Int32) (top : Nat → Int32) (rolled : Nat → Int32) (kind : Nat → Int32) (mark : Nat → Int32) (rowWay : Nat → Int32) (rowSeen : Nat → Int32) : Nat → (Int32 × Int32 × (Nat → Int32)) → Option ((Int32 × ((Nat → Int32))) ⊕ (Int32 × (Nat → Int32))) := nx_lp (fun rec z => f_X11_greatestBy_b26 N x1 wide tall groups rowMany top rolled kind mark rowWay rowSeen rec z.1 z.2.1 z.2.2)
def f_X11_greatestBy (N : Nat) (x1 : Int32) (wide : Int32) (tall : Int32) (groups : Int32) (rowMany : Int32) (top : Nat → Int32) (rolled : Nat → Int32) (kind : Nat → Int32) (mark : Nat → Int32) (rowWay : Nat → Int32) (rowSeen : Nat → Int32) (prints : Nat → Int32) : Option (Int32 × ((Nat → Int32))) :=
  (f_X11_greatestBy_l2 x1 N (0, prints)).bind fun z_21 => (f_X11_greatestBy_l26 N x1 wide tall groups rowMany top rolled kind mark rowWay rowSeen N ((-9), 0, z_21)).bind fun z_23 => Sum.elim (fun rr => some rr) (fun y_25 => some (y_25.1, y_25.2)) z_23
set_option maxHeartbeats 4000000 in
set_option maxRecDepth 100000 in
theorem c_X11_greatestBy (l : Launch) (N : Nat) (E : nx_E) (sz : Nat) (a : Nat → Nat) (wide : Int32) (tall : Int32) (groups : Int32) (tours : Int32) (tourLength : Int32) (rowMany : Int32) (cameBy : Int32) (top : Nat → Int32) (east : Nat → Int32) (south : Nat → Int32) (rolled : Nat → Int32) (off : Nat → Int32) (kind : Nat → Int32) (mark : Nat → Int32) (rolls : Nat → Int32) (many : Nat → Int64) (onward : Nat → Int32) (at_ : Nat → Int32) (goes : Nat → Int32) (firstTour : Nat → Int32) (rowWay : Nat → Int32) (rowSeen : Nat → Int32) (prints : Nat → Int32) (homeward : Nat → Int32) (x1 : Int32) (hI : nx_inj a 18) (o : Int32 × ((Nat → Int32))) (h : f_X11_greatestBy N x1 wide tall groups rowMany top rolled kind mark rowWay rowSeen prints = some o) : Met l yX11_greatestBy (.code yX11_greatestBy cX11_greatestBy 6 (some .int) :: nx_T) (nx_rm 4 96) (va_Pc [.ref (a 0), .int x1] (nx_P E (nx_A a 18 sz) sz (mW E a wide tall groups tours tourLength rowMany cameBy top east south rolled off kind mark rolls many onward at_ goes firstTour rowWay rowSeen prints homeward))) (va_Qi (fun v u => (v, u) = o) (fun u t => va_P E.1 vwCl (mW E a wide tall groups tours tourLength rowMany cameBy top east south rolled off kind mark rolls many onward at_ goes firstTour rowWay rowSeen u homeward) t.heap) (nx_A a 18 sz)) 0 0 (nx_A a 18 sz) := by
  refine nx_enI (fun v u => (v, u) = o) (fun (u : (Nat → Int32)) => (mW E a wide tall groups tours tourLength rowMany cameBy top east south rolled off kind mark rolls many onward at_ goes firstTour rowWay rowSeen u homeward)) (by decide) (Nat.le_of_ble_eq_true rfl) ?_
  intro p e s m below meth c Q X kr hsz hP ls hl
  subst hsz
  generalize hargs : (List.toArray [.ref (a 0), .int x1] : Array Value) = args at X kr ⊢
  clear hargs
  obtain ⟨⟨hx, hb, hml, hown, hts⟩, hK, hSt, hNz⟩ := id X
  have hS : va_S (nx_A a 18 s.heap.size) s.heap s.heap [] := va_S.rf
  have hl : lv_has ls 6 [(0, .ref (a 0)), (1, .int x1)] := hl
  have L2 : ∀ (x1 : Int32) (n : Nat) (x2 : Int32) (prints : Nat → Int32) (z : ((Nat → Int32))), f_X11_greatestBy_l2 x1 n (x2, prints) = some z → ∀ (H : Heap) (locs : List Loc) (ls : Array Slot), va_P E.1 vwCl (mW E a wide tall groups tours tourLength rowMany cameBy top east south rolled off kind mark rolls many onward at_ goes firstTour rowWay rowSeen prints homeward) H → va_S (nx_A a 18 s.heap.size) s.heap H locs → lv_has ls 6 [(0, .ref (a 0)), (1, .int x1), (2, .int x2)] → ∀ (kR : ∀ (H : Heap) (locs : List Loc) (ls : Array Slot), va_P E.1 vwCl (mW E a wide tall groups tours tourLength rowMany cameBy top east south rolled off kind mark rolls many onward at_ goes firstTour rowWay rowSeen z homeward) H → va_S (nx_A a 18 s.heap.size) s.heap H locs → lv_has ls 6 [(0, .ref (a 0)), (1, .int x1)] → W p l e (nx_rm 4 96) s m args below meth c H locs 0 0 Q (F0 m 21 ls [])), W p l e (nx_rm 4 96) s m args below meth c H locs 0 0 Q (F0 m 2 ls []) := by
   intro x1 n
   induction n with
   | zero => intro x2 prints z h; exact nomatch (show none = some z from h)
   | succ n ih =>
    intro x2 prints z h H locs ls hP hS hl kR
    have h : f_X11_greatestBy_b2 x1 (f_X11_greatestBy_l2 x1 n) x2 prints = some z := h
    unfold f_X11_greatestBy_b2 at h
    refine lv_iload_n hx hb dX11_greatestBy_2 rfl (lv_at hl 2 rfl) ?_
    refine lv_bipush (v := 7) hx hb dX11_greatestBy_3 (by decide) ?_
    refine lv_icmp_ge (tgt := 21) hx hb dX11_greatestBy_5 (by decide) (fun hc => ?_) (fun hc => ?_)
    · have h := nx_it h hc
      obtain rfl := Option.some.inj h
      exact kR H locs ls hP hS (lv_sub hl [0, 1] rfl)
    · have h := nx_if h hc
      refine lv_aload_n hx hb dX11_greatestBy_8 rfl (lv_at hl 0 rfl) ?_
      refine nx_gf X hP uw_X11 (ci := 10) rfl 0 rfl 21 (by decide) wf_RX11_63 rfl dX11_greatestBy_9 ?_
      refine lv_iload_n hx hb dX11_greatestBy_12 rfl (lv_at hl 2 rfl) ?_
      refine lv_iconst (v := 0) hx hb dX11_greatestBy_13 (by decide) ?_
      obtain ⟨hv_1, h⟩ := nx_cb h
      refine nx_st X hI mW_ad hP hS 16 rfl hv_1 dX11_greatestBy_14 (fun H locs hP hS => ?_)
      have hP : va_P E.1 vwCl (mW E a wide tall groups tours tourLength rowMany cameBy top east south rolled off kind mark rolls many onward at_ goes firstTour rowWay rowSeen (upd prints x2.toNatClampNeg 0) homeward) H := hP
      refine lv_iinc (v := (x2 + 1)) (lv' := [(2, .int (x2 + 1)), (0, .ref (a 0)), (1, .int x1)]) hx hb dX11_greatestBy_15 hl (k := 2) rfl rfl (by decide) rfl (fun ls hl => ?_)
      refine lv_goto (tgt := 2) hx hb dX11_greatestBy_18 (by decide) ?_
      exact ih _ _ z h H locs ls hP hS (lv_sub hl [1, 2, 0] rfl) kR
  have L26 : ∀ (x1 : Int32) (n : Nat) (x2 : Int32) (x3 : Int32) (prints : Nat → Int32) (z : ((Int32 × ((Nat → Int32))) ⊕ (Int32 × (Nat → Int32)))), f_X11_greatestBy_l26 N x1 wide tall groups rowMany top rolled kind mark rowWay rowSeen n (x2, x3, prints) = some z → ∀ (H : Heap) (locs : List Loc) (ls : Array Slot), va_P E.1 vwCl (mW E a wide tall groups tours tourLength rowMany cameBy top east south rolled off kind mark rolls many onward at_ goes firstTour rowWay rowSeen prints homeward) H → va_S (nx_A a 18 s.heap.size) s.heap H locs → lv_has ls 6 [(0, .ref (a 0)), (1, .int x1), (2, .int x2), (3, .int x3)] → ∀ (kL : ∀ r, z = .inl r → ∀ (pc : Nat) (ls : Array Slot) (v : Int32) (u : (Nat → Int32)) (H : Heap) (locs : List Loc), decode cX11_greatestBy pc = .ok (.ireturn, 1) → (v, u) = r → va_P E.1 vwCl (mW E a wide tall groups tours tourLength rowMany cameBy top east south rolled off kind mark rolls many onward at_ goes firstTour rowWay rowSeen u homeward) H → va_S (nx_A a 18 s.heap.size) s.heap H locs → W p l e (nx_rm 4 96) s m args below meth c H locs 0 0 Q (F0 m pc ls [.int v])) (kR : ∀ y, z = .inr y → ∀ (H : Heap) (locs : List Loc) (ls : Array Slot), va_P E.1 vwCl (mW E a wide tall groups tours tourLength rowMany cameBy top east south rolled off kind mark rolls many onward at_ goes firstTour rowWay rowSeen (y.2) homeward) H → va_S (nx_A a 18 s.heap.size) s.heap H locs → lv_has ls 6 [(0, .ref (a 0)), (2, .int y.1)] → W p l e (nx_rm 4 96) s m args below meth c H locs 0 0 Q (F0 m 122 ls [])), W p l e (nx_rm 4 96) s m args below meth c H locs 0 0 Q (F0 m 26 ls []) := by
   intro x1 n
   induction n with
   | zero => intro x2 x3 prints z h; exact nomatch (show none = some z from h)
   | succ n ih =>
    intro x2 x3 prints z h H locs ls hP hS hl kL kR
    have h : f_X11_greatestBy_b26 N x1 wide tall groups rowMany top rolled kind mark rowWay rowSeen (f_X11_greatestBy_l26 N x1 wide tall groups rowMany top rolled kind mark rowWay rowSeen n) x2 x3 prints = some z := h
    unfold f_X11_greatestBy_b26 at h
    refine lv_iload_n hx hb dX11_greatestBy_26 rfl (lv_at hl 3 rfl) ?_
    refine lv_bipush (v := 24) hx hb dX11_greatestBy_27 (by decide) ?_
    refine lv_aload_n hx hb dX11_greatestBy_29 rfl (lv_at hl 0 rfl) ?_
    obtain ⟨r_3, hc_2, h⟩ := nx_bd h
    refine nx_ki (nx_runV (As := []) (rest := [.int 24, .int x3]) X hS hP (c_X11_cells l E H.size a wide tall groups tours tourLength rowMany cameBy top east south rolled off kind mark rolls many onward at_ goes firstTour rowWay rowSeen prints homeward _ hc_2) nx_FA qV_RX11_100 ⟨rfl, rfl⟩ ⟨Nat.le_of_ble_eq_true rfl, Nat.le_of_ble_eq_true rfl⟩ ⟨Nat.zero_le _, Nat.zero_le _⟩ 0 rfl rfl rfl rfl hl.1 (Nat.le_of_ble_eq_true rfl) dX11_greatestBy_30) hS nx_FA (fun H locs hP hS => ?_)
    refine lv_imul hx hb dX11_greatestBy_33 ?_
    refine lv_icmp_ge (tgt := 122) hx hb dX11_greatestBy_34 (by decide) (fun hc => ?_) (fun hc => ?_)
    · have h := nx_it h hc
      exact kR _ (Option.some.inj h).symm H locs ls hP hS (lv_sub hl [0, 2] rfl)
    · have h := nx_if h hc
      refine lv_aload_n hx hb dX11_greatestBy_37 rfl (lv_at hl 0 rfl) ?_
      refine lv_iload_n hx hb dX11_greatestBy_38 rfl (lv_at hl 3 rfl) ?_
      obtain ⟨r_5, hc_4, h⟩ := nx_bd h
      refine nx_ki (nx_runV (As := [.int x3]) (rest := []) X hS hP (c_X11_behind l N E H.size a wide tall groups tours tourLength rowMany cameBy top east south rolled off kind mark rolls many onward at_ goes firstTour rowWay rowSeen prints homeward x3 _ hc_4) nx_FA qV_RX11_178 ⟨rfl, rfl⟩ ⟨Nat.le_of_ble_eq_true rfl, Nat.le_of_ble_eq_true rfl⟩ ⟨Nat.zero_le _, Nat.zero_le _⟩ 0 rfl rfl rfl rfl hl.1 (Nat.le_of_ble_eq_true rfl) dX11_greatestBy_39) hS nx_FA (fun H locs hP hS => ?_)
      refine lv_istore (lv' := [(4, .int r_5), (0, .ref (a 0)), (1, .int x1), (2, .int x2), (3, .int x3)]) hx hb dX11_greatestBy_42 hl (by decide) rfl (fun ls hl => ?_)
      refine lv_iload hx hb dX11_greatestBy_44 (lv_at hl 0 rfl) ?_
      refine lv_bipush (v := (-9)) hx hb dX11_greatestBy_46 (by decide) ?_
      refine lv_icmp_eq (tgt := 116) hx hb dX11_greatestBy_48 (by decide) (fun hc => ?_) (fun hc => ?_)
      · have h := nx_it h hc
        refine lv_iinc (v := (x3 + 1)) (lv' := [(3, .int (x3 + 1)), (4, .int r_5), (0, .ref (a 0)), (1, .int x1), (2, .int x2)]) hx hb dX11_greatestBy_116 hl (k := 4) rfl rfl (by decide) rfl (fun ls hl => ?_)
        refine lv_goto (tgt := 26) hx hb dX11_greatestBy_119 (by decide) ?_
        exact ih _ _ _ z h H locs ls hP hS (lv_sub hl [2, 3, 4, 0] rfl) kL kR
      · have h := nx_if h hc
        refine lv_aload_n hx hb dX11_greatestBy_51 rfl (lv_at hl 1 rfl) ?_
        refine lv_iload hx hb dX11_greatestBy_52 (lv_at hl 0 rfl) ?_
        refine lv_iload_n hx hb dX11_greatestBy_54 rfl (lv_at hl 2 rfl) ?_
        obtain ⟨r_7, hc_6, h⟩ := nx_bd h
        refine nx_ki (nx_runV (As := [.int r_5, .int x1]) (rest := []) X hS hP (c_X11_rollOf l E H.size a wide tall groups tours tourLength rowMany cameBy top east south rolled off kind mark rolls many onward at_ goes firstTour rowWay rowSeen prints homeward r_5 x1 _ hc_6) nx_FA qV_RX11_123 ⟨rfl, rfl⟩ ⟨Nat.le_of_ble_eq_true rfl, Nat.le_of_ble_eq_true rfl⟩ ⟨Nat.zero_le _, Nat.zero_le _⟩ 0 rfl rfl rfl rfl hl.1 (Nat.le_of_ble_eq_true rfl) dX11_greatestBy_55) hS nx_FA (fun H locs hP hS => ?_)
        refine lv_istore (lv' := [(5, .int r_7), (4, .int r_5), (0, .ref (a 0)), (1, .int x1), (2, .int x2), (3, .int x3)]) hx hb dX11_greatestBy_58 hl (by decide) rfl (fun ls hl => ?_)
        refine lv_iload hx hb dX11_greatestBy_60 (lv_at hl 0 rfl) ?_
        refine lv_bipush (v := (-9)) hx hb dX11_greatestBy_62 (by decide) ?_
        refine lv_icmp_ne (tgt := 70) hx hb dX11_greatestBy_64 (by decide) (fun hc => ?_) (fun hc => ?_)
        · have h := nx_if h hc
          refine lv_aload_n hx hb dX11_greatestBy_70 rfl (lv_at hl 2 rfl) ?_
          refine nx_gf X hP uw_X11 (ci := 10) rfl 0 rfl 21 (by decide) wf_RX11_63 rfl dX11_greatestBy_71 ?_
          refine lv_aload_n hx hb dX11_greatestBy_74 rfl (lv_at hl 2 rfl) ?_
          refine lv_iload hx hb dX11_greatestBy_75 (lv_at hl 0 rfl) ?_
          obtain ⟨r_9, hc_8, h⟩ := nx_bd h
          refine nx_ki (nx_runV (As := [.int r_7]) (rest := [.ref (a 16)]) X hS hP (c_X11_print l E H.size a wide tall groups tours tourLength rowMany cameBy top east south rolled off kind mark rolls many onward at_ goes firstTour rowWay rowSeen prints homeward r_7 _ hc_8) nx_FA qV_RX11_152 ⟨rfl, rfl⟩ ⟨Nat.le_of_ble_eq_true rfl, Nat.le_of_ble_eq_true rfl⟩ ⟨Nat.zero_le _, Nat.zero_le _⟩ 0 rfl rfl rfl rfl hl.1 (Nat.le_of_ble_eq_true rfl) dX11_greatestBy_77) hS nx_FA (fun H locs hP hS => ?_)
          refine lv_dup2_11 hx hb dX11_greatestBy_80 rfl rfl ?_
          obtain ⟨hv_10, h⟩ := nx_rb h
          refine nx_ld X hP 16 rfl hv_10 dX11_greatestBy_81 ?_
          refine lv_iconst (v := 1) hx hb dX11_greatestBy_82 (by decide) ?_
          refine lv_iadd hx hb dX11_greatestBy_83 ?_
          obtain ⟨hv_12, h⟩ := nx_cb h
          refine nx_st X hI mW_ad hP hS 16 rfl hv_12 dX11_greatestBy_84 (fun H locs hP hS => ?_)
          have hP : va_P E.1 vwCl (mW E a wide tall groups tours tourLength rowMany cameBy top east south rolled off kind mark rolls many onward at_ goes firstTour rowWay rowSeen (upd prints r_9.toNatClampNeg ((prints r_9.toNatClampNeg) + 1)) homeward) H := hP
          refine lv_aload_n hx hb dX11_greatestBy_85 rfl (lv_at hl 2 rfl) ?_
          refine nx_gf X hP uw_X11 (ci := 10) rfl 0 rfl 21 (by decide) wf_RX11_63 rfl dX11_greatestBy_86 ?_
          refine lv_aload_n hx hb dX11_greatestBy_89 rfl (lv_at hl 2 rfl) ?_
          refine lv_iload hx hb dX11_greatestBy_90 (lv_at hl 0 rfl) ?_
          obtain ⟨r_14, hc_13, h⟩ := nx_bd h
          refine nx_ki (nx_runV (As := [.int r_7]) (rest := [.ref (a 16)]) X hS hP (c_X11_print l E H.size a wide tall groups tours tourLength rowMany cameBy top east south rolled off kind mark rolls many onward at_ goes firstTour rowWay rowSeen (upd prints r_9.toNatClampNeg ((prints r_9.toNatClampNeg) + 1)) homeward r_7 _ hc_13) nx_FA qV_RX11_152 ⟨rfl, rfl⟩ ⟨Nat.le_of_ble_eq_true rfl, Nat.le_of_ble_eq_true rfl⟩ ⟨Nat.zero_le _, Nat.zero_le _⟩ 0 rfl rfl rfl rfl hl.1 (Nat.le_of_ble_eq_true rfl) dX11_greatestBy_92) hS nx_FA (fun H locs hP hS => ?_)
          obtain ⟨hv_15, h⟩ := nx_rb h
          refine nx_ld X hP 16 rfl hv_15 dX11_greatestBy_95 ?_
          refine lv_iload_n hx hb dX11_greatestBy_96 rfl (lv_at hl 4 rfl) ?_
          refine lv_icmp_le (tgt := 114) hx hb dX11_greatestBy_97 (by decide) (fun hc => ?_) (fun hc => ?_)
          · have h := nx_it h hc
            refine lv_iload_n hx hb dX11_greatestBy_114 rfl (lv_at hl 4 rfl) ?_
            refine lv_istore_n (lv' := [(2, .int x2), (5, .int r_7), (4, .int r_5), (0, .ref (a 0)), (1, .int x1), (3, .int x3)]) hx hb dX11_greatestBy_115 rfl hl (by decide) rfl (fun ls hl => ?_)
            refine lv_iinc (v := (x3 + 1)) (lv' := [(3, .int (x3 + 1)), (2, .int x2), (5, .int r_7), (4, .int r_5), (0, .ref (a 0)), (1, .int x1)]) hx hb dX11_greatestBy_116 hl (k := 5) rfl rfl (by decide) rfl (fun ls hl => ?_)
            refine lv_goto (tgt := 26) hx hb dX11_greatestBy_119 (by decide) ?_
            exact ih _ _ _ z h H locs ls hP hS (lv_sub hl [4, 5, 1, 0] rfl) kL kR
          · have h := nx_if h hc
            refine lv_aload_n hx hb dX11_greatestBy_100 rfl (lv_at hl 2 rfl) ?_
            refine nx_gf X hP uw_X11 (ci := 10) rfl 0 rfl 21 (by decide) wf_RX11_63 rfl dX11_greatestBy_101 ?_
            refine lv_aload_n hx hb dX11_greatestBy_104 rfl (lv_at hl 2 rfl) ?_
            refine lv_iload hx hb dX11_greatestBy_105 (lv_at hl 0 rfl) ?_
            obtain ⟨r_18, hc_17, h⟩ := nx_bd h
            refine nx_ki (nx_runV (As := [.int r_7]) (rest := [.ref (a 16)]) X hS hP (c_X11_print l E H.size a wide tall groups tours tourLength rowMany cameBy top east south rolled off kind mark rolls many onward at_ goes firstTour rowWay rowSeen (upd prints r_9.toNatClampNeg ((prints r_9.toNatClampNeg) + 1)) homeward r_7 _ hc_17) nx_FA qV_RX11_152 ⟨rfl, rfl⟩ ⟨Nat.le_of_ble_eq_true rfl, Nat.le_of_ble_eq_true rfl⟩ ⟨Nat.zero_le _, Nat.zero_le _⟩ 0 rfl rfl rfl rfl hl.1 (Nat.le_of_ble_eq_true rfl) dX11_greatestBy_107) hS nx_FA (fun H locs hP hS => ?_)
            obtain ⟨hv_19, h⟩ := nx_rb h
            refine nx_ld X hP 16 rfl hv_19 dX11_greatestBy_110 ?_
            refine lv_goto (tgt := 115) hx hb dX11_greatestBy_111 (by decide) ?_
            refine lv_istore_n (lv' := [(2, .int ((upd prints r_9.toNatClampNeg ((prints r_9.toNatClampNeg) + 1)) r_18.toNatClampNeg)), (5, .int r_7), (4, .int r_5), (0, .ref (a 0)), (1, .int x1), (3, .int x3)]) hx hb dX11_greatestBy_115 rfl hl (by decide) rfl (fun ls hl => ?_)
            refine lv_iinc (v := (x3 + 1)) (lv' := [(3, .int (x3 + 1)), (2, .int ((upd prints r_9.toNatClampNeg ((prints r_9.toNatClampNeg) + 1)) r_18.toNatClampNeg)), (5, .int r_7), (4, .int r_5), (0, .ref (a 0)), (1, .int x1)]) hx hb dX11_greatestBy_116 hl (k := 5) rfl rfl (by decide) rfl (fun ls hl => ?_)
            refine lv_goto (tgt := 26) hx hb dX11_greatestBy_119 (by decide) ?_
            exact ih _ _ _ z h H locs ls hP hS (lv_sub hl [4, 5, 1, 0] rfl) kL kR
        · have h := nx_it h hc
          refine lv_bipush (v := (-9)) hx hb dX11_greatestBy_67 (by decide) ?_
          exact kL _ (Option.some.inj h).symm 69 ls (-9) prints H locs dX11_greatestBy_69 rfl hP hS
  unfold f_X11_greatestBy at h
  suffices hw : ∀ (H : Heap) (locs : List Loc), va_P E.1 vwCl (mW E a wide tall groups tours tourLength rowMany cameBy top east south rolled off kind mark rolls many onward at_ goes firstTour rowWay rowSeen prints homeward) H → va_S (nx_A a 18 s.heap.size) s.heap H locs → W p l e (nx_rm 4 96) s m args below meth c H locs 0 0 Q (F0 m 0 ls []) from hw _ _ hP va_S.rf
  intro H locs hP hS
  refine lv_iconst (v := 0) hx hb dX11_greatestBy_0 (by decide) ?_
  refine lv_istore_n (lv' := [(2, .int 0), (0, .ref (a 0)), (1, .int x1)]) hx hb dX11_greatestBy_1 rfl hl (by decide) rfl (fun ls hl => ?_)
  obtain ⟨z_21, hz_22, h⟩ := nx_bd h
  refine L2 _ N _ _ _ hz_22 H locs ls hP hS (lv_sub hl [1, 2, 0] rfl) (fun H locs ls hP hS hl => ?_)
  refine lv_bipush (v := (-9)) hx hb dX11_greatestBy_21 (by decide) ?_
  refine lv_istore_n (lv' := [(2, .int (-9)), (0, .ref (a 0)), (1, .int x1)]) hx hb dX11_greatestBy_23 rfl hl (by decide) rfl (fun ls hl => ?_)
  refine lv_iconst (v := 0) hx hb dX11_greatestBy_24 (by decide) ?_
  refine lv_istore_n (lv' := [(3, .int 0), (2, .int (-9)), (0, .ref (a 0)), (1, .int x1)]) hx hb dX11_greatestBy_25 rfl hl (by decide) rfl (fun ls hl => ?_)
  obtain ⟨z_23, hz_24, h⟩ := nx_bd h
  refine L26 _ N _ _ _ _ hz_24 H locs ls hP hS (lv_sub hl [2, 3, 1, 0] rfl) ?_ ?_
  · intro rr hr
    subst hr
    have h := Option.some.inj h; subst h
    exact kr
  intro y_25 hr H locs ls hP hS hl
  subst hr
  refine lv_iload_n hx hb dX11_greatestBy_122 rfl (lv_at hl 1 rfl) ?_
  exact kr 123 ls y_25.1 y_25.2 H locs dX11_greatestBy_123 (Option.some.inj h) hP hS
def f_X11_next_j38 (rec : (Int32 × Int32 × Int32 × (Nat → Int32)) → Option (Int32 × (Nat → Int32))) (x2 : Int32) (x3 : Int32) (x4 : Int32) (s0 : Int32) (prints : Nat → Int32) : Option (Int32 × (Nat → Int32)) :=
  if x4 = (-9) then (rec (s0, x2, (x3 + 1), prints)) else (if x2 ≤ x4 then (rec (s0, x2, (x3 + 1), prints)) else (rec (s0, x4, (x3 + 1), prints)))
def f_X11_next_b8 (N : Nat) (wide : Int32) (tall : Int32) (groups : Int32) (rowMany : Int32) (top : Nat → Int32) (rolled : Nat → Int32) (kind : Nat → Int32) (mark : Nat → Int32) (rowWay : Nat → Int32) (rowSeen : Nat → Int32) (rec : (Int32 × Int32 × Int32 × (Nat → Int32)) → Option (Int32 × (Nat → Int32))) (x1 : Int32) (x2 : Int32) (x3 : Int32) (prints : Nat → Int32) : Option (Int32 × (Nat → Int32)) :=
  if 4 ≤ x3 then (some (x1, prints)) else ((f_X11_greatestBy N x3 wide tall groups rowMany top rolled kind mark rowWay rowSeen prints).bind fun t_4 => if t_4.1 = (-9) then (f_X11_next_j38 rec x2 x3 t_4.1 x1 t_4.2) else (if x2 ≤ t_4.1 then (f_X11_next_j38 rec x2 x3 t_4.1 x1 t_4.2) else (f_X11_next_j38 rec x2 x3 t_4.1 x3 t_4.2)))
def f_X11_next_l8 (N : Nat) (wide : Int32) (tall : Int32) (groups : Int32) (rowMany : Int32) (top : Nat → Int32) (rolled : Nat → Int32) (kind : Nat → Int32) (mark : Nat → Int32) (rowWay : Nat → Int32) (rowSeen : Nat → Int32) : Nat → (Int32 × Int32 × Int32 × (Nat → Int32)) → Option (Int32 × (Nat → Int32)) := nx_lp (fun rec z => f_X11_next_b8 N wide tall groups rowMany top rolled kind mark rowWay rowSeen rec z.1 z.2.1 z.2.2.1 z.2.2.2)
def f_X11_next (N : Nat)  (wide : Int32) (tall : Int32) (groups : Int32) (rowMany : Int32) (top : Nat → Int32) (rolled : Nat → Int32) (kind : Nat → Int32) (mark : Nat → Int32) (rowWay : Nat → Int32) (rowSeen : Nat → Int32) (prints : Nat → Int32) : Option (Int32 × ((Nat → Int32))) :=
  (f_X11_next_l8 N wide tall groups rowMany top rolled kind mark rowWay rowSeen N ((-9), 100000000, 0, prints)).bind fun z_5 => some (z_5.1, z_5.2)
set_option maxHeartbeats 4000000 in
set_option maxRecDepth 100000 in
theorem c_X11_next (l : Launch) (N : Nat) (E : nx_E) (sz : Nat) (a : Nat → Nat) (wide : Int32) (tall : Int32) (groups : Int32) (tours : Int32) (tourLength : Int32) (rowMany : Int32) (cameBy : Int32) (top : Nat → Int32) (east : Nat → Int32) (south : Nat → Int32) (rolled : Nat → Int32) (off : Nat → Int32) (kind : Nat → Int32) (mark : Nat → Int32) (rolls : Nat → Int32) (many : Nat → Int64) (onward : Nat → Int32) (at_ : Nat → Int32) (goes : Nat → Int32) (firstTour : Nat → Int32) (rowWay : Nat → Int32) (rowSeen : Nat → Int32) (prints : Nat → Int32) (homeward : Nat → Int32)  (hI : nx_inj a 18) (o : Int32 × ((Nat → Int32))) (h : f_X11_next N wide tall groups rowMany top rolled kind mark rowWay rowSeen prints = some o) : Met l yX11_next (.code yX11_next cX11_next 5 (some .int) :: nx_T) (nx_rm 5 121) (va_Pc [.ref (a 0)] (nx_P E (nx_A a 18 sz) sz (mW E a wide tall groups tours tourLength rowMany cameBy top east south rolled off kind mark rolls many onward at_ goes firstTour rowWay rowSeen prints homeward))) (va_Qi (fun v u => (v, u) = o) (fun u t => va_P E.1 vwCl (mW E a wide tall groups tours tourLength rowMany cameBy top east south rolled off kind mark rolls many onward at_ goes firstTour rowWay rowSeen u homeward) t.heap) (nx_A a 18 sz)) 0 0 (nx_A a 18 sz) := by
  refine nx_enI (fun v u => (v, u) = o) (fun (u : (Nat → Int32)) => (mW E a wide tall groups tours tourLength rowMany cameBy top east south rolled off kind mark rolls many onward at_ goes firstTour rowWay rowSeen u homeward)) (by decide) (Nat.le_of_ble_eq_true rfl) ?_
  intro p e s m below meth c Q X kr hsz hP ls hl
  subst hsz
  generalize hargs : (List.toArray [.ref (a 0)] : Array Value) = args at X kr ⊢
  clear hargs
  obtain ⟨⟨hx, hb, hml, hown, hts⟩, hK, hSt, hNz⟩ := id X
  have hS : va_S (nx_A a 18 s.heap.size) s.heap s.heap [] := va_S.rf
  have hl : lv_has ls 5 [(0, .ref (a 0))] := hl
  have L8 : ∀ (n : Nat) (x1 : Int32) (x2 : Int32) (x3 : Int32) (prints : Nat → Int32) (z : (Int32 × (Nat → Int32))), f_X11_next_l8 N wide tall groups rowMany top rolled kind mark rowWay rowSeen n (x1, x2, x3, prints) = some z → ∀ (H : Heap) (locs : List Loc) (ls : Array Slot), va_P E.1 vwCl (mW E a wide tall groups tours tourLength rowMany cameBy top east south rolled off kind mark rolls many onward at_ goes firstTour rowWay rowSeen prints homeward) H → va_S (nx_A a 18 s.heap.size) s.heap H locs → lv_has ls 5 [(0, .ref (a 0)), (1, .int x1), (2, .int x2), (3, .int x3)] → ∀ (kR : ∀ (H : Heap) (locs : List Loc) (ls : Array Slot), va_P E.1 vwCl (mW E a wide tall groups tours tourLength rowMany cameBy top east south rolled off kind mark rolls many onward at_ goes firstTour rowWay rowSeen (z.2) homeward) H → va_S (nx_A a 18 s.heap.size) s.heap H locs → lv_has ls 5 [(0, .ref (a 0)), (1, .int z.1)] → W p l e (nx_rm 5 121) s m args below meth c H locs 0 0 Q (F0 m 65 ls [])), W p l e (nx_rm 5 121) s m args below meth c H locs 0 0 Q (F0 m 8 ls []) := by
   intro  n
   induction n with
   | zero => intro x1 x2 x3 prints z h; exact nomatch (show none = some z from h)
   | succ n ih =>
    intro x1 x2 x3 prints z h H locs ls hP hS hl kR
    have h : f_X11_next_b8 N wide tall groups rowMany top rolled kind mark rowWay rowSeen (f_X11_next_l8 N wide tall groups rowMany top rolled kind mark rowWay rowSeen n) x1 x2 x3 prints = some z := h
    have J38 : ∀ (x2 : Int32) (x3 : Int32) (x4 : Int32) (s0 : Int32) (prints : Nat → Int32), f_X11_next_j38 (f_X11_next_l8 N wide tall groups rowMany top rolled kind mark rowWay rowSeen n) x2 x3 x4 s0 prints = some z → ∀ (H : Heap) (locs : List Loc) (ls : Array Slot), va_P E.1 vwCl (mW E a wide tall groups tours tourLength rowMany cameBy top east south rolled off kind mark rolls many onward at_ goes firstTour rowWay rowSeen prints homeward) H → va_S (nx_A a 18 s.heap.size) s.heap H locs → lv_has ls 5 [(0, .ref (a 0)), (2, .int x2), (3, .int x3), (4, .int x4)] → W p l e (nx_rm 5 121) s m args below meth c H locs 0 0 Q (F0 m 38 ls [.int s0]) := by
      intro x2 x3 x4 s0 prints h H locs ls hP hS hl
      unfold f_X11_next_j38 at h
      refine lv_istore_n (lv' := [(1, .int s0), (0, .ref (a 0)), (2, .int x2), (3, .int x3), (4, .int x4)]) hx hb dX11_next_38 rfl hl (by decide) rfl (fun ls hl => ?_)
      refine lv_iload hx hb dX11_next_39 (lv_at hl 4 rfl) ?_
      refine lv_bipush (v := (-9)) hx hb dX11_next_41 (by decide) ?_
      refine lv_icmp_eq (tgt := 57) hx hb dX11_next_43 (by decide) (fun hc => ?_) (fun hc => ?_)
      · have h := nx_it h hc
        refine lv_iload_n hx hb dX11_next_57 rfl (lv_at hl 2 rfl) ?_
        refine lv_istore_n (lv' := [(2, .int x2), (1, .int s0), (0, .ref (a 0)), (3, .int x3), (4, .int x4)]) hx hb dX11_next_58 rfl hl (by decide) rfl (fun ls hl => ?_)
        refine lv_iinc (v := (x3 + 1)) (lv' := [(3, .int (x3 + 1)), (2, .int x2), (1, .int s0), (0, .ref (a 0)), (4, .int x4)]) hx hb dX11_next_59 hl (k := 3) rfl rfl (by decide) rfl (fun ls hl => ?_)
        refine lv_goto (tgt := 8) hx hb dX11_next_62 (by decide) ?_
        exact ih _ _ _ _ z h H locs ls hP hS (lv_sub hl [3, 2, 1, 0] rfl) kR
      · have h := nx_if h hc
        refine lv_iload hx hb dX11_next_46 (lv_at hl 4 rfl) ?_
        refine lv_iload_n hx hb dX11_next_48 rfl (lv_at hl 2 rfl) ?_
        refine lv_icmp_ge (tgt := 57) hx hb dX11_next_49 (by decide) (fun hc => ?_) (fun hc => ?_)
        · have h := nx_it h hc
          refine lv_iload_n hx hb dX11_next_57 rfl (lv_at hl 2 rfl) ?_
          refine lv_istore_n (lv' := [(2, .int x2), (1, .int s0), (0, .ref (a 0)), (3, .int x3), (4, .int x4)]) hx hb dX11_next_58 rfl hl (by decide) rfl (fun ls hl => ?_)
          refine lv_iinc (v := (x3 + 1)) (lv' := [(3, .int (x3 + 1)), (2, .int x2), (1, .int s0), (0, .ref (a 0)), (4, .int x4)]) hx hb dX11_next_59 hl (k := 3) rfl rfl (by decide) rfl (fun ls hl => ?_)
          refine lv_goto (tgt := 8) hx hb dX11_next_62 (by decide) ?_
          exact ih _ _ _ _ z h H locs ls hP hS (lv_sub hl [3, 2, 1, 0] rfl) kR
        · have h := nx_if h hc
          refine lv_iload hx hb dX11_next_52 (lv_at hl 4 rfl) ?_
          refine lv_goto (tgt := 58) hx hb dX11_next_54 (by decide) ?_
          refine lv_istore_n (lv' := [(2, .int x4), (1, .int s0), (0, .ref (a 0)), (3, .int x3), (4, .int x4)]) hx hb dX11_next_58 rfl hl (by decide) rfl (fun ls hl => ?_)
          refine lv_iinc (v := (x3 + 1)) (lv' := [(3, .int (x3 + 1)), (2, .int x4), (1, .int s0), (0, .ref (a 0)), (4, .int x4)]) hx hb dX11_next_59 hl (k := 3) rfl rfl (by decide) rfl (fun ls hl => ?_)
          refine lv_goto (tgt := 8) hx hb dX11_next_62 (by decide) ?_
          exact ih _ _ _ _ z h H locs ls hP hS (lv_sub hl [3, 2, 1, 0] rfl) kR
    unfold f_X11_next_b8 at h
    refine lv_iload_n hx hb dX11_next_8 rfl (lv_at hl 3 rfl) ?_
    refine lv_iconst (v := 4) hx hb dX11_next_9 (by decide) ?_
    refine lv_icmp_ge (tgt := 65) hx hb dX11_next_10 (by decide) (fun hc => ?_) (fun hc => ?_)
    · have h := nx_it h hc
      obtain rfl := Option.some.inj h
      exact kR H locs ls hP hS (lv_sub hl [0, 1] rfl)
    · have h := nx_if h hc
      refine lv_aload_n hx hb dX11_next_13 rfl (lv_at hl 0 rfl) ?_
      refine lv_iload_n hx hb dX11_next_14 rfl (lv_at hl 3 rfl) ?_
      obtain ⟨⟨r_2, k_3⟩, hc_1, h⟩ := nx_bd h
      refine nx_kwi (nx_runV (As := [.int x3]) (rest := []) X hS hP (c_X11_greatestBy l N E H.size a wide tall groups tours tourLength rowMany cameBy top east south rolled off kind mark rolls many onward at_ goes firstTour rowWay rowSeen prints homeward x3 hI _ hc_1) (nx_Am hS.1) qV_RX11_181 ⟨rfl, rfl⟩ ⟨Nat.le_of_ble_eq_true rfl, Nat.le_of_ble_eq_true rfl⟩ ⟨Nat.zero_le _, Nat.zero_le _⟩ 0 rfl rfl rfl rfl hl.1 (Nat.le_of_ble_eq_true rfl) dX11_next_15) hS (nx_Am hS.1) (fun H locs hP hS => ?_)
      have hP : va_P E.1 vwCl (mW E a wide tall groups tours tourLength rowMany cameBy top east south rolled off kind mark rolls many onward at_ goes firstTour rowWay rowSeen k_3 homeward) H := hP
      refine lv_istore (lv' := [(4, .int r_2), (0, .ref (a 0)), (1, .int x1), (2, .int x2), (3, .int x3)]) hx hb dX11_next_18 hl (by decide) rfl (fun ls hl => ?_)
      refine lv_iload hx hb dX11_next_20 (lv_at hl 0 rfl) ?_
      refine lv_bipush (v := (-9)) hx hb dX11_next_22 (by decide) ?_
      refine lv_icmp_eq (tgt := 37) hx hb dX11_next_24 (by decide) (fun hc => ?_) (fun hc => ?_)
      · have h := nx_it h hc
        refine lv_iload_n hx hb dX11_next_37 rfl (lv_at hl 2 rfl) ?_
        exact J38 _ _ _ _ _ h H locs ls hP hS (lv_sub hl [1, 3, 4, 0] rfl)
      · have h := nx_if h hc
        refine lv_iload hx hb dX11_next_27 (lv_at hl 0 rfl) ?_
        refine lv_iload_n hx hb dX11_next_29 rfl (lv_at hl 3 rfl) ?_
        refine lv_icmp_ge (tgt := 37) hx hb dX11_next_30 (by decide) (fun hc => ?_) (fun hc => ?_)
        · have h := nx_it h hc
          refine lv_iload_n hx hb dX11_next_37 rfl (lv_at hl 2 rfl) ?_
          exact J38 _ _ _ _ _ h H locs ls hP hS (lv_sub hl [1, 3, 4, 0] rfl)
        · have h := nx_if h hc
          refine lv_iload_n hx hb dX11_next_33 rfl (lv_at hl 4 rfl) ?_
          refine lv_goto (tgt := 38) hx hb dX11_next_34 (by decide) ?_
          exact J38 _ _ _ _ _ h H locs ls hP hS (lv_sub hl [1, 3, 4, 0] rfl)
  unfold f_X11_next at h
  suffices hw : ∀ (H : Heap) (locs : List Loc), va_P E.1 vwCl (mW E a wide tall groups tours tourLength rowMany cameBy top east south rolled off kind mark rolls many onward at_ goes firstTour rowWay rowSeen prints homeward) H → va_S (nx_A a 18 s.heap.size) s.heap H locs → W p l e (nx_rm 5 121) s m args below meth c H locs 0 0 Q (F0 m 0 ls []) from hw _ _ hP va_S.rf
  intro H locs hP hS
  refine lv_bipush (v := (-9)) hx hb dX11_next_0 (by decide) ?_
  refine lv_istore_n (lv' := [(1, .int (-9)), (0, .ref (a 0))]) hx hb dX11_next_2 rfl hl (by decide) rfl (fun ls hl => ?_)
  refine lv_ldc hx hb hown (hts _ wk_RX11_99) dX11_next_3 ?_
  refine lv_istore_n (lv' := [(2, .int 100000000), (1, .int (-9)), (0, .ref (a 0))]) hx hb dX11_next_5 rfl hl (by decide) rfl (fun ls hl => ?_)
  refine lv_iconst (v := 0) hx hb dX11_next_6 (by decide) ?_
  refine lv_istore_n (lv' := [(3, .int 0), (2, .int 100000000), (1, .int (-9)), (0, .ref (a 0))]) hx hb dX11_next_7 rfl hl (by decide) rfl (fun ls hl => ?_)
  obtain ⟨z_5, hz_6, h⟩ := nx_bd h
  refine L8  N _ _ _ _ _ hz_6 H locs ls hP hS (lv_sub hl [3, 2, 1, 0] rfl) (fun H locs ls hP hS hl => ?_)
  refine lv_iload_n hx hb dX11_next_65 rfl (lv_at hl 1 rfl) ?_
  exact kr 66 ls z_5.1 z_5.2 H locs dX11_next_66 (Option.some.inj h) hP hS
def f_X11_isPlace (x1 : Int32) (wide : Int32) (tall : Int32) : Option (Int32) :=
  (f_X11_cells wide tall).bind fun r_2 => (f_X11_in ((x1 : Int32).toInt64) 0 ((((3 * r_2) - 1) : Int32).toInt64)).bind fun r_4 => (nx_b r_4).bind fun _ => some r_4
set_option maxHeartbeats 4000000 in
set_option maxRecDepth 100000 in
theorem c_X11_isPlace (l : Launch) (E : nx_E) (sz : Nat) (a : Nat → Nat) (wide : Int32) (tall : Int32) (groups : Int32) (tours : Int32) (tourLength : Int32) (rowMany : Int32) (cameBy : Int32) (top : Nat → Int32) (east : Nat → Int32) (south : Nat → Int32) (rolled : Nat → Int32) (off : Nat → Int32) (kind : Nat → Int32) (mark : Nat → Int32) (rolls : Nat → Int32) (many : Nat → Int64) (onward : Nat → Int32) (at_ : Nat → Int32) (goes : Nat → Int32) (firstTour : Nat → Int32) (rowWay : Nat → Int32) (rowSeen : Nat → Int32) (prints : Nat → Int32) (homeward : Nat → Int32) (x1 : Int32) (o : Int32) (h : f_X11_isPlace x1 wide tall = some o) : Met l yX11_isPlace (.code yX11_isPlace cX11_isPlace 2 (some .boolean) :: nx_T) (nx_rm 1 25) (va_Pc [.ref (a 0), .int x1] (nx_P E (nx_F) sz (mW E a wide tall groups tours tourLength rowMany cameBy top east south rolled off kind mark rolls many onward at_ goes firstTour rowWay rowSeen prints homeward))) (va_Qi (fun v (_ : Unit) => v = o) (fun _ t => va_P E.1 vwCl (mW E a wide tall groups tours tourLength rowMany cameBy top east south rolled off kind mark rolls many onward at_ goes firstTour rowWay rowSeen prints homeward) t.heap) (nx_F)) 0 0 (nx_F) := by
  refine nx_enZ (fun v (_ : Unit) => v = o) (fun (_ : Unit) => (mW E a wide tall groups tours tourLength rowMany cameBy top east south rolled off kind mark rolls many onward at_ goes firstTour rowWay rowSeen prints homeward)) (by decide) (Nat.le_of_ble_eq_true rfl) ?_
  intro p e s m below meth c Q X kr hsz hP ls hl
  subst hsz
  generalize hargs : (List.toArray [.ref (a 0), .int x1] : Array Value) = args at X kr ⊢
  clear hargs
  obtain ⟨⟨hx, hb, hml, hown, hts⟩, hK, hSt, hNz⟩ := id X
  have hS : va_S (nx_F) s.heap s.heap [] := va_S.rf
  have hl : lv_has ls 2 [(0, .ref (a 0)), (1, .int x1)] := hl
  unfold f_X11_isPlace at h
  suffices hw : ∀ (H : Heap) (locs : List Loc), va_P E.1 vwCl (mW E a wide tall groups tours tourLength rowMany cameBy top east south rolled off kind mark rolls many onward at_ goes firstTour rowWay rowSeen prints homeward) H → va_S (nx_F) s.heap H locs → W p l e (nx_rm 1 25) s m args below meth c H locs 0 0 Q (F0 m 0 ls []) from hw _ _ hP va_S.rf
  intro H locs hP hS
  refine lv_iload_n hx hb dX11_isPlace_0 rfl (lv_at hl 1 rfl) ?_
  refine lv_i2l (v := (x1 : Int32).toInt64) hx hb dX11_isPlace_1 rfl ?_
  refine lv_lconst (v := 0) hx hb dX11_isPlace_2 (by decide) ?_
  refine lv_iconst (v := 3) hx hb dX11_isPlace_3 (by decide) ?_
  refine lv_aload_n hx hb dX11_isPlace_4 rfl (lv_at hl 0 rfl) ?_
  obtain ⟨r_2, hc_1, h⟩ := nx_bd h
  refine nx_ki (nx_runV (As := []) (rest := [.int 3, .long 0, .long ((x1 : Int32).toInt64)]) X hS hP (c_X11_cells l E H.size a wide tall groups tours tourLength rowMany cameBy top east south rolled off kind mark rolls many onward at_ goes firstTour rowWay rowSeen prints homeward _ hc_1) nx_FA qV_RX11_100 ⟨rfl, rfl⟩ ⟨Nat.le_of_ble_eq_true rfl, Nat.le_of_ble_eq_true rfl⟩ ⟨Nat.zero_le _, Nat.zero_le _⟩ 0 rfl rfl rfl rfl hl.1 (Nat.le_of_ble_eq_true rfl) dX11_isPlace_5) hS nx_FA (fun H locs hP hS => ?_)
  refine lv_imul hx hb dX11_isPlace_8 ?_
  refine lv_iconst (v := 1) hx hb dX11_isPlace_9 (by decide) ?_
  refine lv_isub hx hb dX11_isPlace_10 ?_
  refine lv_i2l (v := (((3 * r_2) - 1) : Int32).toInt64) hx hb dX11_isPlace_11 rfl ?_
  obtain ⟨r_4, hc_3, h⟩ := nx_bd h
  refine nx_ki (nx_runS (As := [.long ((x1 : Int32).toInt64), .long 0, .long ((((3 * r_2) - 1) : Int32).toInt64)]) (rest := []) X hS hP (c_X11_in l E H.size a wide tall groups tours tourLength rowMany cameBy top east south rolled off kind mark rolls many onward at_ goes firstTour rowWay rowSeen prints homeward ((x1 : Int32).toInt64) 0 ((((3 * r_2) - 1) : Int32).toInt64) _ hc_3) nx_FA qS_RX11_84 ⟨rfl, rfl⟩ ⟨Nat.le_of_ble_eq_true rfl, Nat.le_of_ble_eq_true rfl⟩ ⟨Nat.zero_le _, Nat.zero_le _⟩ rfl rfl hl.1 (Nat.le_of_ble_eq_true rfl) dX11_isPlace_12) hS nx_FA (fun H locs hP hS => ?_)
  obtain ⟨hz, h⟩ := nx_bb h
  exact kr 15 ls r_4 () H locs dX11_isPlace_15 hz (Option.some.inj h) hP hS
def f_X11_otherOf_j28 (s0 : Int32) (s1 : Int32) (wide : Int32) (tall : Int32) : Option (Int32) :=
  (f_X11_beside s1 s0 wide tall).bind fun r_2 => some r_2
def f_X11_otherOf (x1 : Int32) (wide : Int32) (tall : Int32) : Option (Int32) :=
  if (x1 - x1 / 3 * 3) = 0 then (some (x1 / 3)) else (if (x1 - x1 / 3 * 3) = 1 then (f_X11_otherOf_j28 0 (x1 / 3) wide tall) else (f_X11_otherOf_j28 1 (x1 / 3) wide tall))
set_option maxHeartbeats 4000000 in
set_option maxRecDepth 100000 in
theorem c_X11_otherOf (l : Launch) (E : nx_E) (sz : Nat) (a : Nat → Nat) (wide : Int32) (tall : Int32) (groups : Int32) (tours : Int32) (tourLength : Int32) (rowMany : Int32) (cameBy : Int32) (top : Nat → Int32) (east : Nat → Int32) (south : Nat → Int32) (rolled : Nat → Int32) (off : Nat → Int32) (kind : Nat → Int32) (mark : Nat → Int32) (rolls : Nat → Int32) (many : Nat → Int64) (onward : Nat → Int32) (at_ : Nat → Int32) (goes : Nat → Int32) (firstTour : Nat → Int32) (rowWay : Nat → Int32) (rowSeen : Nat → Int32) (prints : Nat → Int32) (homeward : Nat → Int32) (x1 : Int32) (o : Int32) (h : f_X11_otherOf x1 wide tall = some o) : Met l yX11_otherOf (.code yX11_otherOf cX11_otherOf 2 (some .int) :: nx_T) (nx_rm 2 49) (va_Pc [.ref (a 0), .int x1] (nx_P E (nx_F) sz (mW E a wide tall groups tours tourLength rowMany cameBy top east south rolled off kind mark rolls many onward at_ goes firstTour rowWay rowSeen prints homeward))) (va_Qi (fun v (_ : Unit) => v = o) (fun _ t => va_P E.1 vwCl (mW E a wide tall groups tours tourLength rowMany cameBy top east south rolled off kind mark rolls many onward at_ goes firstTour rowWay rowSeen prints homeward) t.heap) (nx_F)) 0 0 (nx_F) := by
  refine nx_enI (fun v (_ : Unit) => v = o) (fun (_ : Unit) => (mW E a wide tall groups tours tourLength rowMany cameBy top east south rolled off kind mark rolls many onward at_ goes firstTour rowWay rowSeen prints homeward)) (by decide) (Nat.le_of_ble_eq_true rfl) ?_
  intro p e s m below meth c Q X kr hsz hP ls hl
  subst hsz
  generalize hargs : (List.toArray [.ref (a 0), .int x1] : Array Value) = args at X kr ⊢
  clear hargs
  obtain ⟨⟨hx, hb, hml, hown, hts⟩, hK, hSt, hNz⟩ := id X
  have hS : va_S (nx_F) s.heap s.heap [] := va_S.rf
  have hl : lv_has ls 2 [(0, .ref (a 0)), (1, .int x1)] := hl
  have J28 : ∀ (s0 : Int32) (s1 : Int32), f_X11_otherOf_j28 s0 s1 wide tall = some o → ∀ (H : Heap) (locs : List Loc) (ls : Array Slot), va_P E.1 vwCl (mW E a wide tall groups tours tourLength rowMany cameBy top east south rolled off kind mark rolls many onward at_ goes firstTour rowWay rowSeen prints homeward) H → va_S (nx_F) s.heap H locs → lv_has ls 2 [(0, .ref (a 0))] → W p l e (nx_rm 2 49) s m args below meth c H locs 0 0 Q (F0 m 28 ls [.int s0, .int s1, .ref (a 0)]) := by
    intro s0 s1 h H locs ls hP hS hl
    unfold f_X11_otherOf_j28 at h
    obtain ⟨r_2, hc_1, h⟩ := nx_bd h
    refine nx_ki (nx_runV (As := [.int s1, .int s0]) (rest := []) X hS hP (c_X11_beside l E H.size a wide tall groups tours tourLength rowMany cameBy top east south rolled off kind mark rolls many onward at_ goes firstTour rowWay rowSeen prints homeward s1 s0 _ hc_1) nx_FA qV_RX11_120 ⟨rfl, rfl⟩ ⟨Nat.le_of_ble_eq_true rfl, Nat.le_of_ble_eq_true rfl⟩ ⟨Nat.zero_le _, Nat.zero_le _⟩ 0 rfl rfl rfl rfl hl.1 (Nat.le_of_ble_eq_true rfl) dX11_otherOf_28) hS nx_FA (fun H locs hP hS => ?_)
    exact kr 31 ls r_2 () H locs dX11_otherOf_31 (Option.some.inj h) hP hS
  unfold f_X11_otherOf at h
  suffices hw : ∀ (H : Heap) (locs : List Loc), va_P E.1 vwCl (mW E a wide tall groups tours tourLength rowMany cameBy top east south rolled off kind mark rolls many onward at_ goes firstTour rowWay rowSeen prints homeward) H → va_S (nx_F) s.heap H locs → W p l e (nx_rm 2 49) s m args below meth c H locs 0 0 Q (F0 m 0 ls []) from hw _ _ hP va_S.rf
  intro H locs hP hS
  refine lv_iload_n hx hb dX11_otherOf_0 rfl (lv_at hl 1 rfl) ?_
  refine lv_iconst (v := 3) hx hb dX11_otherOf_1 (by decide) ?_
  refine lv_irem hx hb dX11_otherOf_2 (by decide) ?_
  refine lv_if_ne (tgt := 12) hx hb dX11_otherOf_3 (by decide) (fun hc => ?_) (fun hc => ?_)
  · have h := nx_if h hc
    refine lv_aload_n hx hb dX11_otherOf_12 rfl (lv_at hl 0 rfl) ?_
    refine lv_iload_n hx hb dX11_otherOf_13 rfl (lv_at hl 1 rfl) ?_
    refine lv_iconst (v := 3) hx hb dX11_otherOf_14 (by decide) ?_
    refine lv_idiv hx hb dX11_otherOf_15 (by decide) ?_
    refine lv_iload_n hx hb dX11_otherOf_16 rfl (lv_at hl 1 rfl) ?_
    refine lv_iconst (v := 3) hx hb dX11_otherOf_17 (by decide) ?_
    refine lv_irem hx hb dX11_otherOf_18 (by decide) ?_
    refine lv_iconst (v := 1) hx hb dX11_otherOf_19 (by decide) ?_
    refine lv_icmp_ne (tgt := 27) hx hb dX11_otherOf_20 (by decide) (fun hc => ?_) (fun hc => ?_)
    · have h := nx_if h hc
      refine lv_iconst (v := 1) hx hb dX11_otherOf_27 (by decide) ?_
      exact J28 _ _ h H locs ls hP hS (lv_sub hl [0] rfl)
    · have h := nx_it h hc
      refine lv_iconst (v := 0) hx hb dX11_otherOf_23 (by decide) ?_
      refine lv_goto (tgt := 28) hx hb dX11_otherOf_24 (by decide) ?_
      exact J28 _ _ h H locs ls hP hS (lv_sub hl [0] rfl)
  · have h := nx_it h hc
    refine lv_iload_n hx hb dX11_otherOf_6 rfl (lv_at hl 1 rfl) ?_
    refine lv_iconst (v := 3) hx hb dX11_otherOf_7 (by decide) ?_
    refine lv_idiv hx hb dX11_otherOf_8 (by decide) ?_
    refine lv_goto (tgt := 31) hx hb dX11_otherOf_9 (by decide) ?_
    exact kr 31 ls (x1 / 3) () H locs dX11_otherOf_31 (Option.some.inj h) hP hS
def f_X11_isSound (x1 : Int32) (x2 : Int32) (wide : Int32) (tall : Int32) (kind : Nat → Int32) : Option (Int32) :=
  (f_X11_otherOf x1 wide tall).bind fun r_2 => if r_2 = (-9) then (some 0) else ((f_X11_isOpen (x1 / 3) x2 kind).bind fun r_4 => if r_4 = 0 then (some 0) else ((f_X11_isOpen r_2 x2 kind).bind fun r_6 => if r_6 = 0 then (some 0) else (if (x1 - x1 / 3 * 3) = 0 then ((nx_rd kind 25 (x1 / 3)).bind fun _ => if (kind (x1 / 3).toNatClampNeg) = 2 then (some 0) else (some 1)) else (some 1))))
set_option maxHeartbeats 4000000 in
set_option maxRecDepth 100000 in
theorem c_X11_isSound (l : Launch) (E : nx_E) (sz : Nat) (a : Nat → Nat) (wide : Int32) (tall : Int32) (groups : Int32) (tours : Int32) (tourLength : Int32) (rowMany : Int32) (cameBy : Int32) (top : Nat → Int32) (east : Nat → Int32) (south : Nat → Int32) (rolled : Nat → Int32) (off : Nat → Int32) (kind : Nat → Int32) (mark : Nat → Int32) (rolls : Nat → Int32) (many : Nat → Int64) (onward : Nat → Int32) (at_ : Nat → Int32) (goes : Nat → Int32) (firstTour : Nat → Int32) (rowWay : Nat → Int32) (rowSeen : Nat → Int32) (prints : Nat → Int32) (homeward : Nat → Int32) (x1 : Int32) (x2 : Int32) (o : Int32) (h : f_X11_isSound x1 x2 wide tall kind = some o) : Met l yX11_isSound (.code yX11_isSound cX11_isSound 4 (some .boolean) :: nx_T) (nx_rm 3 70) (va_Pc [.ref (a 0), .int x1, .int x2] (nx_P E (nx_F) sz (mW E a wide tall groups tours tourLength rowMany cameBy top east south rolled off kind mark rolls many onward at_ goes firstTour rowWay rowSeen prints homeward))) (va_Qi (fun v (_ : Unit) => v = o) (fun _ t => va_P E.1 vwCl (mW E a wide tall groups tours tourLength rowMany cameBy top east south rolled off kind mark rolls many onward at_ goes firstTour rowWay rowSeen prints homeward) t.heap) (nx_F)) 0 0 (nx_F) := by
  refine nx_enZ (fun v (_ : Unit) => v = o) (fun (_ : Unit) => (mW E a wide tall groups tours tourLength rowMany cameBy top east south rolled off kind mark rolls many onward at_ goes firstTour rowWay rowSeen prints homeward)) (by decide) (Nat.le_of_ble_eq_true rfl) ?_
  intro p e s m below meth c Q X kr hsz hP ls hl
  subst hsz
  generalize hargs : (List.toArray [.ref (a 0), .int x1, .int x2] : Array Value) = args at X kr ⊢
  clear hargs
  obtain ⟨⟨hx, hb, hml, hown, hts⟩, hK, hSt, hNz⟩ := id X
  have hS : va_S (nx_F) s.heap s.heap [] := va_S.rf
  have hl : lv_has ls 4 [(0, .ref (a 0)), (1, .int x1), (2, .int x2)] := hl
  unfold f_X11_isSound at h
  suffices hw : ∀ (H : Heap) (locs : List Loc), va_P E.1 vwCl (mW E a wide tall groups tours tourLength rowMany cameBy top east south rolled off kind mark rolls many onward at_ goes firstTour rowWay rowSeen prints homeward) H → va_S (nx_F) s.heap H locs → W p l e (nx_rm 3 70) s m args below meth c H locs 0 0 Q (F0 m 0 ls []) from hw _ _ hP va_S.rf
  intro H locs hP hS
  refine lv_aload_n hx hb dX11_isSound_0 rfl (lv_at hl 0 rfl) ?_
  refine lv_iload_n hx hb dX11_isSound_1 rfl (lv_at hl 1 rfl) ?_
  obtain ⟨r_2, hc_1, h⟩ := nx_bd h
  refine nx_ki (nx_runV (As := [.int x1]) (rest := []) X hS hP (c_X11_otherOf l E H.size a wide tall groups tours tourLength rowMany cameBy top east south rolled off kind mark rolls many onward at_ goes firstTour rowWay rowSeen prints homeward x1 _ hc_1) nx_FA qV_RX11_184 ⟨rfl, rfl⟩ ⟨Nat.le_of_ble_eq_true rfl, Nat.le_of_ble_eq_true rfl⟩ ⟨Nat.zero_le _, Nat.zero_le _⟩ 0 rfl rfl rfl rfl hl.1 (Nat.le_of_ble_eq_true rfl) dX11_isSound_2) hS nx_FA (fun H locs hP hS => ?_)
  refine lv_istore_n (lv' := [(3, .int r_2), (0, .ref (a 0)), (1, .int x1), (2, .int x2)]) hx hb dX11_isSound_5 rfl hl (by decide) rfl (fun ls hl => ?_)
  refine lv_iload_n hx hb dX11_isSound_6 rfl (lv_at hl 0 rfl) ?_
  refine lv_bipush (v := (-9)) hx hb dX11_isSound_7 (by decide) ?_
  refine lv_icmp_eq (tgt := 32) hx hb dX11_isSound_9 (by decide) (fun hc => ?_) (fun hc => ?_)
  · have h := nx_it h hc
    refine lv_iconst (v := 0) hx hb dX11_isSound_32 (by decide) ?_
    exact kr 33 ls 0 () H locs dX11_isSound_33 (Or.inl rfl) (Option.some.inj h) hP hS
  · have h := nx_if h hc
    refine lv_aload_n hx hb dX11_isSound_12 rfl (lv_at hl 1 rfl) ?_
    refine lv_iload_n hx hb dX11_isSound_13 rfl (lv_at hl 2 rfl) ?_
    refine lv_iconst (v := 3) hx hb dX11_isSound_14 (by decide) ?_
    refine lv_idiv hx hb dX11_isSound_15 (by decide) ?_
    refine lv_iload_n hx hb dX11_isSound_16 rfl (lv_at hl 3 rfl) ?_
    obtain ⟨r_4, hc_3, h⟩ := nx_bd h
    refine nx_ki (nx_runV (As := [.int (x1 / 3), .int x2]) (rest := []) X hS hP (c_X11_isOpen l E H.size a wide tall groups tours tourLength rowMany cameBy top east south rolled off kind mark rolls many onward at_ goes firstTour rowWay rowSeen prints homeward (x1 / 3) x2 _ hc_3) nx_FA qV_RX11_116 ⟨rfl, rfl⟩ ⟨Nat.le_of_ble_eq_true rfl, Nat.le_of_ble_eq_true rfl⟩ ⟨Nat.zero_le _, Nat.zero_le _⟩ 0 rfl rfl rfl rfl hl.1 (Nat.le_of_ble_eq_true rfl) dX11_isSound_17) hS nx_FA (fun H locs hP hS => ?_)
    refine lv_if_eq (tgt := 32) hx hb dX11_isSound_20 (by decide) (fun hc => ?_) (fun hc => ?_)
    · have h := nx_it h hc
      refine lv_iconst (v := 0) hx hb dX11_isSound_32 (by decide) ?_
      exact kr 33 ls 0 () H locs dX11_isSound_33 (Or.inl rfl) (Option.some.inj h) hP hS
    · have h := nx_if h hc
      refine lv_aload_n hx hb dX11_isSound_23 rfl (lv_at hl 1 rfl) ?_
      refine lv_iload_n hx hb dX11_isSound_24 rfl (lv_at hl 0 rfl) ?_
      refine lv_iload_n hx hb dX11_isSound_25 rfl (lv_at hl 3 rfl) ?_
      obtain ⟨r_6, hc_5, h⟩ := nx_bd h
      refine nx_ki (nx_runV (As := [.int r_2, .int x2]) (rest := []) X hS hP (c_X11_isOpen l E H.size a wide tall groups tours tourLength rowMany cameBy top east south rolled off kind mark rolls many onward at_ goes firstTour rowWay rowSeen prints homeward r_2 x2 _ hc_5) nx_FA qV_RX11_116 ⟨rfl, rfl⟩ ⟨Nat.le_of_ble_eq_true rfl, Nat.le_of_ble_eq_true rfl⟩ ⟨Nat.zero_le _, Nat.zero_le _⟩ 0 rfl rfl rfl rfl hl.1 (Nat.le_of_ble_eq_true rfl) dX11_isSound_26) hS nx_FA (fun H locs hP hS => ?_)
      refine lv_if_ne (tgt := 34) hx hb dX11_isSound_29 (by decide) (fun hc => ?_) (fun hc => ?_)
      · have h := nx_if h hc
        refine lv_iload_n hx hb dX11_isSound_34 rfl (lv_at hl 2 rfl) ?_
        refine lv_iconst (v := 3) hx hb dX11_isSound_35 (by decide) ?_
        refine lv_irem hx hb dX11_isSound_36 (by decide) ?_
        refine lv_if_ne (tgt := 52) hx hb dX11_isSound_37 (by decide) (fun hc => ?_) (fun hc => ?_)
        · have h := nx_if h hc
          refine lv_iconst (v := 1) hx hb dX11_isSound_52 (by decide) ?_
          refine lv_goto (tgt := 57) hx hb dX11_isSound_53 (by decide) ?_
          exact kr 57 ls 1 () H locs dX11_isSound_57 (Or.inr rfl) (Option.some.inj h) hP hS
        · have h := nx_it h hc
          refine lv_aload_n hx hb dX11_isSound_40 rfl (lv_at hl 1 rfl) ?_
          refine nx_gf X hP uw_X11 (ci := 10) rfl 0 rfl 7 (by decide) wf_RX11_32 rfl dX11_isSound_41 ?_
          refine lv_iload_n hx hb dX11_isSound_44 rfl (lv_at hl 2 rfl) ?_
          refine lv_iconst (v := 3) hx hb dX11_isSound_45 (by decide) ?_
          refine lv_idiv hx hb dX11_isSound_46 (by decide) ?_
          obtain ⟨hv_7, h⟩ := nx_rb h
          refine nx_ld X hP 6 rfl hv_7 dX11_isSound_47 ?_
          refine lv_iconst (v := 2) hx hb dX11_isSound_48 (by decide) ?_
          refine lv_icmp_eq (tgt := 56) hx hb dX11_isSound_49 (by decide) (fun hc => ?_) (fun hc => ?_)
          · have h := nx_it h hc
            refine lv_iconst (v := 0) hx hb dX11_isSound_56 (by decide) ?_
            exact kr 57 ls 0 () H locs dX11_isSound_57 (Or.inl rfl) (Option.some.inj h) hP hS
          · have h := nx_if h hc
            refine lv_iconst (v := 1) hx hb dX11_isSound_52 (by decide) ?_
            refine lv_goto (tgt := 57) hx hb dX11_isSound_53 (by decide) ?_
            exact kr 57 ls 1 () H locs dX11_isSound_57 (Or.inr rfl) (Option.some.inj h) hP hS
      · have h := nx_it h hc
        refine lv_iconst (v := 0) hx hb dX11_isSound_32 (by decide) ?_
        exact kr 33 ls 0 () H locs dX11_isSound_33 (Or.inl rfl) (Option.some.inj h) hP hS
def f_X11_sound (x1 : Int32) (wide : Int32) (tall : Int32) (groups : Int32) (kind : Nat → Int32) : Option (Int32) :=
  (f_X11_isPlace x1 wide tall).bind fun r_2 => if r_2 = 0 then (some (-1)) else ((f_X11_isSound x1 groups wide tall kind).bind fun r_4 => if r_4 = 0 then (some 0) else (some 1))
set_option maxHeartbeats 4000000 in
set_option maxRecDepth 100000 in
theorem c_X11_sound (l : Launch) (E : nx_E) (sz : Nat) (a : Nat → Nat) (wide : Int32) (tall : Int32) (groups : Int32) (tours : Int32) (tourLength : Int32) (rowMany : Int32) (cameBy : Int32) (top : Nat → Int32) (east : Nat → Int32) (south : Nat → Int32) (rolled : Nat → Int32) (off : Nat → Int32) (kind : Nat → Int32) (mark : Nat → Int32) (rolls : Nat → Int32) (many : Nat → Int64) (onward : Nat → Int32) (at_ : Nat → Int32) (goes : Nat → Int32) (firstTour : Nat → Int32) (rowWay : Nat → Int32) (rowSeen : Nat → Int32) (prints : Nat → Int32) (homeward : Nat → Int32) (x1 : Int32) (o : Int32) (h : f_X11_sound x1 wide tall groups kind = some o) : Met l yX11_sound (.code yX11_sound cX11_sound 2 (some .int) :: nx_T) (nx_rm 4 93) (va_Pc [.ref (a 0), .int x1] (nx_P E (nx_F) sz (mW E a wide tall groups tours tourLength rowMany cameBy top east south rolled off kind mark rolls many onward at_ goes firstTour rowWay rowSeen prints homeward))) (va_Qi (fun v (_ : Unit) => v = o) (fun _ t => va_P E.1 vwCl (mW E a wide tall groups tours tourLength rowMany cameBy top east south rolled off kind mark rolls many onward at_ goes firstTour rowWay rowSeen prints homeward) t.heap) (nx_F)) 0 0 (nx_F) := by
  refine nx_enI (fun v (_ : Unit) => v = o) (fun (_ : Unit) => (mW E a wide tall groups tours tourLength rowMany cameBy top east south rolled off kind mark rolls many onward at_ goes firstTour rowWay rowSeen prints homeward)) (by decide) (Nat.le_of_ble_eq_true rfl) ?_
  intro p e s m below meth c Q X kr hsz hP ls hl
  subst hsz
  generalize hargs : (List.toArray [.ref (a 0), .int x1] : Array Value) = args at X kr ⊢
  clear hargs
  obtain ⟨⟨hx, hb, hml, hown, hts⟩, hK, hSt, hNz⟩ := id X
  have hS : va_S (nx_F) s.heap s.heap [] := va_S.rf
  have hl : lv_has ls 2 [(0, .ref (a 0)), (1, .int x1)] := hl
  unfold f_X11_sound at h
  suffices hw : ∀ (H : Heap) (locs : List Loc), va_P E.1 vwCl (mW E a wide tall groups tours tourLength rowMany cameBy top east south rolled off kind mark rolls many onward at_ goes firstTour rowWay rowSeen prints homeward) H → va_S (nx_F) s.heap H locs → W p l e (nx_rm 4 93) s m args below meth c H locs 0 0 Q (F0 m 0 ls []) from hw _ _ hP va_S.rf
  intro H locs hP hS
  refine lv_aload_n hx hb dX11_sound_0 rfl (lv_at hl 0 rfl) ?_
  refine lv_iload_n hx hb dX11_sound_1 rfl (lv_at hl 1 rfl) ?_
  obtain ⟨r_2, hc_1, h⟩ := nx_bd h
  refine nx_ki (nx_runV (As := [.int x1]) (rest := []) X hS hP (c_X11_isPlace l E H.size a wide tall groups tours tourLength rowMany cameBy top east south rolled off kind mark rolls many onward at_ goes firstTour rowWay rowSeen prints homeward x1 _ hc_1) nx_FA qV_RX11_187 ⟨rfl, rfl⟩ ⟨Nat.le_of_ble_eq_true rfl, Nat.le_of_ble_eq_true rfl⟩ ⟨Nat.zero_le _, Nat.zero_le _⟩ 0 rfl rfl rfl rfl hl.1 (Nat.le_of_ble_eq_true rfl) dX11_sound_2) hS nx_FA (fun H locs hP hS => ?_)
  refine lv_if_ne (tgt := 12) hx hb dX11_sound_5 (by decide) (fun hc => ?_) (fun hc => ?_)
  · have h := nx_if h hc
    refine lv_aload_n hx hb dX11_sound_12 rfl (lv_at hl 0 rfl) ?_
    refine lv_iload_n hx hb dX11_sound_13 rfl (lv_at hl 1 rfl) ?_
    refine lv_aload_n hx hb dX11_sound_14 rfl (lv_at hl 0 rfl) ?_
    refine nx_gf X hP uw_X11 (ci := 10) rfl 0 rfl 9 (by decide) wf_RX11_108 rfl dX11_sound_15 ?_
    obtain ⟨r_4, hc_3, h⟩ := nx_bd h
    refine nx_ki (nx_runV (As := [.int x1, .int groups]) (rest := []) X hS hP (c_X11_isSound l E H.size a wide tall groups tours tourLength rowMany cameBy top east south rolled off kind mark rolls many onward at_ goes firstTour rowWay rowSeen prints homeward x1 groups _ hc_3) nx_FA qV_RX11_190 ⟨rfl, rfl⟩ ⟨Nat.le_of_ble_eq_true rfl, Nat.le_of_ble_eq_true rfl⟩ ⟨Nat.zero_le _, Nat.zero_le _⟩ 0 rfl rfl rfl rfl hl.1 (Nat.le_of_ble_eq_true rfl) dX11_sound_18) hS nx_FA (fun H locs hP hS => ?_)
    refine lv_if_eq (tgt := 28) hx hb dX11_sound_21 (by decide) (fun hc => ?_) (fun hc => ?_)
    · have h := nx_it h hc
      refine lv_iconst (v := 0) hx hb dX11_sound_28 (by decide) ?_
      exact kr 29 ls 0 () H locs dX11_sound_29 (Option.some.inj h) hP hS
    · have h := nx_if h hc
      refine lv_iconst (v := 1) hx hb dX11_sound_24 (by decide) ?_
      refine lv_goto (tgt := 29) hx hb dX11_sound_25 (by decide) ?_
      exact kr 29 ls 1 () H locs dX11_sound_29 (Option.some.inj h) hP hS
  · have h := nx_it h hc
    refine lv_iconst (v := (-1)) hx hb dX11_sound_8 (by decide) ?_
    refine lv_goto (tgt := 29) hx hb dX11_sound_9 (by decide) ?_
    exact kr 29 ls (-1) () H locs dX11_sound_29 (Option.some.inj h) hP hS
def f_X11_blockTo_j229 (x5 : Int32) (x6 : Int32) (x7 : Int32) (wide : Int32) (tall : Int32) : Option (Int32) :=
  (f_X11_in ((x5 : Int32).toInt64) 0 (((wide - 1) : Int32).toInt64)).bind fun r_2 => if r_2 = 0 then (some (-9)) else ((f_X11_in ((x6 : Int32).toInt64) 0 (((tall - 1) : Int32).toInt64)).bind fun r_4 => if r_4 = 0 then (some (-9)) else (some ((3 * ((x6 * wide) + x5)) + x7)))
def f_X11_blockTo_j226 (x6 : Int32) (x7 : Int32) (s0 : Int32) (s1 : Int32) (wide : Int32) (tall : Int32) : Option (Int32) :=
  f_X11_blockTo_j229 (s1 + s0) x6 x7 wide tall
def f_X11_blockTo_j203 (x2 : Int32) (x5 : Int32) (x7 : Int32) (s0 : Int32) (s1 : Int32) (wide : Int32) (tall : Int32) : Option (Int32) :=
  if x2 = 0 then (f_X11_blockTo_j226 (s1 + s0) x7 1 x5 wide tall) else (if x2 = 2 then (f_X11_blockTo_j226 (s1 + s0) x7 (-1) x5 wide tall) else (f_X11_blockTo_j226 (s1 + s0) x7 0 x5 wide tall))
def f_X11_blockTo_j180 (x2 : Int32) (x5 : Int32) (x6 : Int32) (s0 : Int32) (wide : Int32) (tall : Int32) : Option (Int32) :=
  if x2 = 1 then (f_X11_blockTo_j203 x2 x5 s0 2 x6 wide tall) else (if x2 = 3 then (f_X11_blockTo_j203 x2 x5 s0 (-1) x6 wide tall) else (f_X11_blockTo_j203 x2 x5 s0 0 x6 wide tall))
def f_X11_blockTo_j162 (x5 : Int32) (x7 : Int32) (s0 : Int32) (s1 : Int32) (wide : Int32) (tall : Int32) : Option (Int32) :=
  f_X11_blockTo_j229 x5 (s1 + s0) x7 wide tall
def f_X11_blockTo_j138 (x2 : Int32) (x6 : Int32) (x7 : Int32) (s0 : Int32) (s1 : Int32) (wide : Int32) (tall : Int32) : Option (Int32) :=
  if x2 = 1 then (f_X11_blockTo_j162 (s1 + s0) x7 1 x6 wide tall) else (if x2 = 3 then (f_X11_blockTo_j162 (s1 + s0) x7 (-1) x6 wide tall) else (f_X11_blockTo_j162 (s1 + s0) x7 0 x6 wide tall))
def f_X11_blockTo_j116 (x2 : Int32) (x5 : Int32) (x6 : Int32) (s0 : Int32) (wide : Int32) (tall : Int32) : Option (Int32) :=
  if x2 = 0 then (f_X11_blockTo_j138 x2 x6 s0 2 x5 wide tall) else (if x2 = 2 then (f_X11_blockTo_j138 x2 x6 s0 (-1) x5 wide tall) else (f_X11_blockTo_j138 x2 x6 s0 0 x5 wide tall))
def f_X11_blockTo_j93 (x5 : Int32) (x7 : Int32) (s0 : Int32) (s1 : Int32) (wide : Int32) (tall : Int32) : Option (Int32) :=
  f_X11_blockTo_j229 x5 (s1 + s0) x7 wide tall
def f_X11_blockTo_j68 (x2 : Int32) (x6 : Int32) (x7 : Int32) (s0 : Int32) (s1 : Int32) (wide : Int32) (tall : Int32) : Option (Int32) :=
  if x2 = 1 then (f_X11_blockTo_j93 (s1 + s0) x7 1 x6 wide tall) else (if x2 = 3 then (f_X11_blockTo_j93 (s1 + s0) x7 (-2) x6 wide tall) else (f_X11_blockTo_j93 (s1 + s0) x7 0 x6 wide tall))
def f_X11_blockTo_j45 (x2 : Int32) (x5 : Int32) (x6 : Int32) (s0 : Int32) (wide : Int32) (tall : Int32) : Option (Int32) :=
  if x2 = 0 then (f_X11_blockTo_j68 x2 x6 s0 1 x5 wide tall) else (if x2 = 2 then (f_X11_blockTo_j68 x2 x6 s0 (-2) x5 wide tall) else (f_X11_blockTo_j68 x2 x6 s0 0 x5 wide tall))
def f_X11_blockTo (x1 : Int32) (x2 : Int32) (wide : Int32) (tall : Int32) : Option (Int32) :=
  if wide = 0 then none else if wide = 0 then none else if (x1 - x1 / 3 * 3) = 0 then (if (x2 - x2 / 2 * 2) = 0 then (f_X11_blockTo_j45 x2 ((x1 / 3) - (x1 / 3) / wide * wide) ((x1 / 3) / wide) 1 wide tall) else (f_X11_blockTo_j45 x2 ((x1 / 3) - (x1 / 3) / wide * wide) ((x1 / 3) / wide) 2 wide tall)) else (if (x1 - x1 / 3 * 3) = 1 then (if (x2 - x2 / 2 * 2) = 0 then (f_X11_blockTo_j116 x2 ((x1 / 3) - (x1 / 3) / wide * wide) ((x1 / 3) / wide) 0 wide tall) else (f_X11_blockTo_j116 x2 ((x1 / 3) - (x1 / 3) / wide * wide) ((x1 / 3) / wide) 1 wide tall)) else (if (x2 - x2 / 2 * 2) = 1 then (f_X11_blockTo_j180 x2 ((x1 / 3) - (x1 / 3) / wide * wide) ((x1 / 3) / wide) 0 wide tall) else (f_X11_blockTo_j180 x2 ((x1 / 3) - (x1 / 3) / wide * wide) ((x1 / 3) / wide) 2 wide tall)))
set_option maxHeartbeats 4000000 in
set_option maxRecDepth 100000 in
theorem c_X11_blockTo (l : Launch) (E : nx_E) (sz : Nat) (a : Nat → Nat) (wide : Int32) (tall : Int32) (groups : Int32) (tours : Int32) (tourLength : Int32) (rowMany : Int32) (cameBy : Int32) (top : Nat → Int32) (east : Nat → Int32) (south : Nat → Int32) (rolled : Nat → Int32) (off : Nat → Int32) (kind : Nat → Int32) (mark : Nat → Int32) (rolls : Nat → Int32) (many : Nat → Int64) (onward : Nat → Int32) (at_ : Nat → Int32) (goes : Nat → Int32) (firstTour : Nat → Int32) (rowWay : Nat → Int32) (rowSeen : Nat → Int32) (prints : Nat → Int32) (homeward : Nat → Int32) (x1 : Int32) (x2 : Int32) (o : Int32) (h : f_X11_blockTo x1 x2 wide tall = some o) : Met l yX11_blockTo (.code yX11_blockTo cX11_blockTo 8 (some .int) :: nx_T) (nx_rm 1 25) (va_Pc [.ref (a 0), .int x1, .int x2] (nx_P E (nx_F) sz (mW E a wide tall groups tours tourLength rowMany cameBy top east south rolled off kind mark rolls many onward at_ goes firstTour rowWay rowSeen prints homeward))) (va_Qi (fun v (_ : Unit) => v = o) (fun _ t => va_P E.1 vwCl (mW E a wide tall groups tours tourLength rowMany cameBy top east south rolled off kind mark rolls many onward at_ goes firstTour rowWay rowSeen prints homeward) t.heap) (nx_F)) 0 0 (nx_F) := by
  refine nx_enI (fun v (_ : Unit) => v = o) (fun (_ : Unit) => (mW E a wide tall groups tours tourLength rowMany cameBy top east south rolled off kind mark rolls many onward at_ goes firstTour rowWay rowSeen prints homeward)) (by decide) (Nat.le_of_ble_eq_true rfl) ?_
  intro p e s m below meth c Q X kr hsz hP ls hl
  subst hsz
  generalize hargs : (List.toArray [.ref (a 0), .int x1, .int x2] : Array Value) = args at X kr ⊢
  clear hargs
  obtain ⟨⟨hx, hb, hml, hown, hts⟩, hK, hSt, hNz⟩ := id X
  have hS : va_S (nx_F) s.heap s.heap [] := va_S.rf
  have hl : lv_has ls 8 [(0, .ref (a 0)), (1, .int x1), (2, .int x2)] := hl
  have J229 : ∀ (x5 : Int32) (x6 : Int32) (x7 : Int32), f_X11_blockTo_j229 x5 x6 x7 wide tall = some o → ∀ (H : Heap) (locs : List Loc) (ls : Array Slot), va_P E.1 vwCl (mW E a wide tall groups tours tourLength rowMany cameBy top east south rolled off kind mark rolls many onward at_ goes firstTour rowWay rowSeen prints homeward) H → va_S (nx_F) s.heap H locs → lv_has ls 8 [(0, .ref (a 0)), (5, .int x5), (6, .int x6), (7, .int x7)] → W p l e (nx_rm 1 25) s m args below meth c H locs 0 0 Q (F0 m 229 ls []) := by
    intro x5 x6 x7 h H locs ls hP hS hl
    unfold f_X11_blockTo_j229 at h
    refine lv_iload hx hb dX11_blockTo_229 (lv_at hl 1 rfl) ?_
    refine lv_i2l (v := (x5 : Int32).toInt64) hx hb dX11_blockTo_231 rfl ?_
    refine lv_lconst (v := 0) hx hb dX11_blockTo_232 (by decide) ?_
    refine lv_aload_n hx hb dX11_blockTo_233 rfl (lv_at hl 0 rfl) ?_
    refine nx_gf X hP uw_X11 (ci := 10) rfl 0 rfl 5 (by decide) wf_RX11_25 rfl dX11_blockTo_234 ?_
    refine lv_iconst (v := 1) hx hb dX11_blockTo_237 (by decide) ?_
    refine lv_isub hx hb dX11_blockTo_238 ?_
    refine lv_i2l (v := ((wide - 1) : Int32).toInt64) hx hb dX11_blockTo_239 rfl ?_
    obtain ⟨r_2, hc_1, h⟩ := nx_bd h
    refine nx_ki (nx_runS (As := [.long ((x5 : Int32).toInt64), .long 0, .long (((wide - 1) : Int32).toInt64)]) (rest := []) X hS hP (c_X11_in l E H.size a wide tall groups tours tourLength rowMany cameBy top east south rolled off kind mark rolls many onward at_ goes firstTour rowWay rowSeen prints homeward ((x5 : Int32).toInt64) 0 (((wide - 1) : Int32).toInt64) _ hc_1) nx_FA qS_RX11_84 ⟨rfl, rfl⟩ ⟨Nat.le_of_ble_eq_true rfl, Nat.le_of_ble_eq_true rfl⟩ ⟨Nat.zero_le _, Nat.zero_le _⟩ rfl rfl hl.1 (Nat.le_of_ble_eq_true rfl) dX11_blockTo_240) hS nx_FA (fun H locs hP hS => ?_)
    refine lv_if_eq (tgt := 281) hx hb dX11_blockTo_243 (by decide) (fun hc => ?_) (fun hc => ?_)
    · have h := nx_it h hc
      refine lv_bipush (v := (-9)) hx hb dX11_blockTo_281 (by decide) ?_
      exact kr 283 ls (-9) () H locs dX11_blockTo_283 (Option.some.inj h) hP hS
    · have h := nx_if h hc
      refine lv_iload hx hb dX11_blockTo_246 (lv_at hl 2 rfl) ?_
      refine lv_i2l (v := (x6 : Int32).toInt64) hx hb dX11_blockTo_248 rfl ?_
      refine lv_lconst (v := 0) hx hb dX11_blockTo_249 (by decide) ?_
      refine lv_aload_n hx hb dX11_blockTo_250 rfl (lv_at hl 0 rfl) ?_
      refine nx_gf X hP uw_X11 (ci := 10) rfl 0 rfl 6 (by decide) wf_RX11_29 rfl dX11_blockTo_251 ?_
      refine lv_iconst (v := 1) hx hb dX11_blockTo_254 (by decide) ?_
      refine lv_isub hx hb dX11_blockTo_255 ?_
      refine lv_i2l (v := ((tall - 1) : Int32).toInt64) hx hb dX11_blockTo_256 rfl ?_
      obtain ⟨r_4, hc_3, h⟩ := nx_bd h
      refine nx_ki (nx_runS (As := [.long ((x6 : Int32).toInt64), .long 0, .long (((tall - 1) : Int32).toInt64)]) (rest := []) X hS hP (c_X11_in l E H.size a wide tall groups tours tourLength rowMany cameBy top east south rolled off kind mark rolls many onward at_ goes firstTour rowWay rowSeen prints homeward ((x6 : Int32).toInt64) 0 (((tall - 1) : Int32).toInt64) _ hc_3) nx_FA qS_RX11_84 ⟨rfl, rfl⟩ ⟨Nat.le_of_ble_eq_true rfl, Nat.le_of_ble_eq_true rfl⟩ ⟨Nat.zero_le _, Nat.zero_le _⟩ rfl rfl hl.1 (Nat.le_of_ble_eq_true rfl) dX11_blockTo_257) hS nx_FA (fun H locs hP hS => ?_)
      refine lv_if_eq (tgt := 281) hx hb dX11_blockTo_260 (by decide) (fun hc => ?_) (fun hc => ?_)
      · have h := nx_it h hc
        refine lv_bipush (v := (-9)) hx hb dX11_blockTo_281 (by decide) ?_
        exact kr 283 ls (-9) () H locs dX11_blockTo_283 (Option.some.inj h) hP hS
      · have h := nx_if h hc
        refine lv_iconst (v := 3) hx hb dX11_blockTo_263 (by decide) ?_
        refine lv_iload hx hb dX11_blockTo_264 (lv_at hl 2 rfl) ?_
        refine lv_aload_n hx hb dX11_blockTo_266 rfl (lv_at hl 0 rfl) ?_
        refine nx_gf X hP uw_X11 (ci := 10) rfl 0 rfl 5 (by decide) wf_RX11_25 rfl dX11_blockTo_267 ?_
        refine lv_imul hx hb dX11_blockTo_270 ?_
        refine lv_iload hx hb dX11_blockTo_271 (lv_at hl 1 rfl) ?_
        refine lv_iadd hx hb dX11_blockTo_273 ?_
        refine lv_imul hx hb dX11_blockTo_274 ?_
        refine lv_iload hx hb dX11_blockTo_275 (lv_at hl 3 rfl) ?_
        refine lv_iadd hx hb dX11_blockTo_277 ?_
        refine lv_goto (tgt := 283) hx hb dX11_blockTo_278 (by decide) ?_
        exact kr 283 ls ((3 * ((x6 * wide) + x5)) + x7) () H locs dX11_blockTo_283 (Option.some.inj h) hP hS
  have J226 : ∀ (x6 : Int32) (x7 : Int32) (s0 : Int32) (s1 : Int32), f_X11_blockTo_j226 x6 x7 s0 s1 wide tall = some o → ∀ (H : Heap) (locs : List Loc) (ls : Array Slot), va_P E.1 vwCl (mW E a wide tall groups tours tourLength rowMany cameBy top east south rolled off kind mark rolls many onward at_ goes firstTour rowWay rowSeen prints homeward) H → va_S (nx_F) s.heap H locs → lv_has ls 8 [(0, .ref (a 0)), (6, .int x6), (7, .int x7)] → W p l e (nx_rm 1 25) s m args below meth c H locs 0 0 Q (F0 m 226 ls [.int s0, .int s1]) := by
    intro x6 x7 s0 s1 h H locs ls hP hS hl
    unfold f_X11_blockTo_j226 at h
    refine lv_iadd hx hb dX11_blockTo_226 ?_
    refine lv_istore (lv' := [(5, .int (s1 + s0)), (0, .ref (a 0)), (6, .int x6), (7, .int x7)]) hx hb dX11_blockTo_227 hl (by decide) rfl (fun ls hl => ?_)
    exact J229 _ _ _ h H locs ls hP hS (lv_sub hl [1, 0, 2, 3] rfl)
  have J203 : ∀ (x2 : Int32) (x5 : Int32) (x7 : Int32) (s0 : Int32) (s1 : Int32), f_X11_blockTo_j203 x2 x5 x7 s0 s1 wide tall = some o → ∀ (H : Heap) (locs : List Loc) (ls : Array Slot), va_P E.1 vwCl (mW E a wide tall groups tours tourLength rowMany cameBy top east south rolled off kind mark rolls many onward at_ goes firstTour rowWay rowSeen prints homeward) H → va_S (nx_F) s.heap H locs → lv_has ls 8 [(0, .ref (a 0)), (2, .int x2), (5, .int x5), (7, .int x7)] → W p l e (nx_rm 1 25) s m args below meth c H locs 0 0 Q (F0 m 203 ls [.int s0, .int s1]) := by
    intro x2 x5 x7 s0 s1 h H locs ls hP hS hl
    unfold f_X11_blockTo_j203 at h
    refine lv_iadd hx hb dX11_blockTo_203 ?_
    refine lv_istore (lv' := [(6, .int (s1 + s0)), (0, .ref (a 0)), (2, .int x2), (5, .int x5), (7, .int x7)]) hx hb dX11_blockTo_204 hl (by decide) rfl (fun ls hl => ?_)
    refine lv_iload hx hb dX11_blockTo_206 (lv_at hl 3 rfl) ?_
    refine lv_iload_n hx hb dX11_blockTo_208 rfl (lv_at hl 2 rfl) ?_
    refine lv_if_ne (tgt := 216) hx hb dX11_blockTo_209 (by decide) (fun hc => ?_) (fun hc => ?_)
    · have h := nx_if h hc
      refine lv_iload_n hx hb dX11_blockTo_216 rfl (lv_at hl 2 rfl) ?_
      refine lv_iconst (v := 2) hx hb dX11_blockTo_217 (by decide) ?_
      refine lv_icmp_ne (tgt := 225) hx hb dX11_blockTo_218 (by decide) (fun hc => ?_) (fun hc => ?_)
      · have h := nx_if h hc
        refine lv_iconst (v := 0) hx hb dX11_blockTo_225 (by decide) ?_
        exact J226 _ _ _ _ h H locs ls hP hS (lv_sub hl [1, 0, 4] rfl)
      · have h := nx_it h hc
        refine lv_iconst (v := (-1)) hx hb dX11_blockTo_221 (by decide) ?_
        refine lv_goto (tgt := 226) hx hb dX11_blockTo_222 (by decide) ?_
        exact J226 _ _ _ _ h H locs ls hP hS (lv_sub hl [1, 0, 4] rfl)
    · have h := nx_it h hc
      refine lv_iconst (v := 1) hx hb dX11_blockTo_212 (by decide) ?_
      refine lv_goto (tgt := 226) hx hb dX11_blockTo_213 (by decide) ?_
      exact J226 _ _ _ _ h H locs ls hP hS (lv_sub hl [1, 0, 4] rfl)
  have J180 : ∀ (x2 : Int32) (x5 : Int32) (x6 : Int32) (s0 : Int32), f_X11_blockTo_j180 x2 x5 x6 s0 wide tall = some o → ∀ (H : Heap) (locs : List Loc) (ls : Array Slot), va_P E.1 vwCl (mW E a wide tall groups tours tourLength rowMany cameBy top east south rolled off kind mark rolls many onward at_ goes firstTour rowWay rowSeen prints homeward) H → va_S (nx_F) s.heap H locs → lv_has ls 8 [(0, .ref (a 0)), (2, .int x2), (5, .int x5), (6, .int x6)] → W p l e (nx_rm 1 25) s m args below meth c H locs 0 0 Q (F0 m 180 ls [.int s0]) := by
    intro x2 x5 x6 s0 h H locs ls hP hS hl
    unfold f_X11_blockTo_j180 at h
    refine lv_istore (lv' := [(7, .int s0), (0, .ref (a 0)), (2, .int x2), (5, .int x5), (6, .int x6)]) hx hb dX11_blockTo_180 hl (by decide) rfl (fun ls hl => ?_)
    refine lv_iload hx hb dX11_blockTo_182 (lv_at hl 4 rfl) ?_
    refine lv_iload_n hx hb dX11_blockTo_184 rfl (lv_at hl 2 rfl) ?_
    refine lv_iconst (v := 1) hx hb dX11_blockTo_185 (by decide) ?_
    refine lv_icmp_ne (tgt := 193) hx hb dX11_blockTo_186 (by decide) (fun hc => ?_) (fun hc => ?_)
    · have h := nx_if h hc
      refine lv_iload_n hx hb dX11_blockTo_193 rfl (lv_at hl 2 rfl) ?_
      refine lv_iconst (v := 3) hx hb dX11_blockTo_194 (by decide) ?_
      refine lv_icmp_ne (tgt := 202) hx hb dX11_blockTo_195 (by decide) (fun hc => ?_) (fun hc => ?_)
      · have h := nx_if h hc
        refine lv_iconst (v := 0) hx hb dX11_blockTo_202 (by decide) ?_
        exact J203 _ _ _ _ _ h H locs ls hP hS (lv_sub hl [1, 2, 3, 0] rfl)
      · have h := nx_it h hc
        refine lv_iconst (v := (-1)) hx hb dX11_blockTo_198 (by decide) ?_
        refine lv_goto (tgt := 203) hx hb dX11_blockTo_199 (by decide) ?_
        exact J203 _ _ _ _ _ h H locs ls hP hS (lv_sub hl [1, 2, 3, 0] rfl)
    · have h := nx_it h hc
      refine lv_iconst (v := 2) hx hb dX11_blockTo_189 (by decide) ?_
      refine lv_goto (tgt := 203) hx hb dX11_blockTo_190 (by decide) ?_
      exact J203 _ _ _ _ _ h H locs ls hP hS (lv_sub hl [1, 2, 3, 0] rfl)
  have J162 : ∀ (x5 : Int32) (x7 : Int32) (s0 : Int32) (s1 : Int32), f_X11_blockTo_j162 x5 x7 s0 s1 wide tall = some o → ∀ (H : Heap) (locs : List Loc) (ls : Array Slot), va_P E.1 vwCl (mW E a wide tall groups tours tourLength rowMany cameBy top east south rolled off kind mark rolls many onward at_ goes firstTour rowWay rowSeen prints homeward) H → va_S (nx_F) s.heap H locs → lv_has ls 8 [(0, .ref (a 0)), (5, .int x5), (7, .int x7)] → W p l e (nx_rm 1 25) s m args below meth c H locs 0 0 Q (F0 m 162 ls [.int s0, .int s1]) := by
    intro x5 x7 s0 s1 h H locs ls hP hS hl
    unfold f_X11_blockTo_j162 at h
    refine lv_iadd hx hb dX11_blockTo_162 ?_
    refine lv_istore (lv' := [(6, .int (s1 + s0)), (0, .ref (a 0)), (5, .int x5), (7, .int x7)]) hx hb dX11_blockTo_163 hl (by decide) rfl (fun ls hl => ?_)
    refine lv_goto (tgt := 229) hx hb dX11_blockTo_165 (by decide) ?_
    exact J229 _ _ _ h H locs ls hP hS (lv_sub hl [1, 2, 0, 3] rfl)
  have J138 : ∀ (x2 : Int32) (x6 : Int32) (x7 : Int32) (s0 : Int32) (s1 : Int32), f_X11_blockTo_j138 x2 x6 x7 s0 s1 wide tall = some o → ∀ (H : Heap) (locs : List Loc) (ls : Array Slot), va_P E.1 vwCl (mW E a wide tall groups tours tourLength rowMany cameBy top east south rolled off kind mark rolls many onward at_ goes firstTour rowWay rowSeen prints homeward) H → va_S (nx_F) s.heap H locs → lv_has ls 8 [(0, .ref (a 0)), (2, .int x2), (6, .int x6), (7, .int x7)] → W p l e (nx_rm 1 25) s m args below meth c H locs 0 0 Q (F0 m 138 ls [.int s0, .int s1]) := by
    intro x2 x6 x7 s0 s1 h H locs ls hP hS hl
    unfold f_X11_blockTo_j138 at h
    refine lv_iadd hx hb dX11_blockTo_138 ?_
    refine lv_istore (lv' := [(5, .int (s1 + s0)), (0, .ref (a 0)), (2, .int x2), (6, .int x6), (7, .int x7)]) hx hb dX11_blockTo_139 hl (by decide) rfl (fun ls hl => ?_)
    refine lv_iload hx hb dX11_blockTo_141 (lv_at hl 3 rfl) ?_
    refine lv_iload_n hx hb dX11_blockTo_143 rfl (lv_at hl 2 rfl) ?_
    refine lv_iconst (v := 1) hx hb dX11_blockTo_144 (by decide) ?_
    refine lv_icmp_ne (tgt := 152) hx hb dX11_blockTo_145 (by decide) (fun hc => ?_) (fun hc => ?_)
    · have h := nx_if h hc
      refine lv_iload_n hx hb dX11_blockTo_152 rfl (lv_at hl 2 rfl) ?_
      refine lv_iconst (v := 3) hx hb dX11_blockTo_153 (by decide) ?_
      refine lv_icmp_ne (tgt := 161) hx hb dX11_blockTo_154 (by decide) (fun hc => ?_) (fun hc => ?_)
      · have h := nx_if h hc
        refine lv_iconst (v := 0) hx hb dX11_blockTo_161 (by decide) ?_
        exact J162 _ _ _ _ h H locs ls hP hS (lv_sub hl [1, 0, 4] rfl)
      · have h := nx_it h hc
        refine lv_iconst (v := (-1)) hx hb dX11_blockTo_157 (by decide) ?_
        refine lv_goto (tgt := 162) hx hb dX11_blockTo_158 (by decide) ?_
        exact J162 _ _ _ _ h H locs ls hP hS (lv_sub hl [1, 0, 4] rfl)
    · have h := nx_it h hc
      refine lv_iconst (v := 1) hx hb dX11_blockTo_148 (by decide) ?_
      refine lv_goto (tgt := 162) hx hb dX11_blockTo_149 (by decide) ?_
      exact J162 _ _ _ _ h H locs ls hP hS (lv_sub hl [1, 0, 4] rfl)
  have J116 : ∀ (x2 : Int32) (x5 : Int32) (x6 : Int32) (s0 : Int32), f_X11_blockTo_j116 x2 x5 x6 s0 wide tall = some o → ∀ (H : Heap) (locs : List Loc) (ls : Array Slot), va_P E.1 vwCl (mW E a wide tall groups tours tourLength rowMany cameBy top east south rolled off kind mark rolls many onward at_ goes firstTour rowWay rowSeen prints homeward) H → va_S (nx_F) s.heap H locs → lv_has ls 8 [(0, .ref (a 0)), (2, .int x2), (5, .int x5), (6, .int x6)] → W p l e (nx_rm 1 25) s m args below meth c H locs 0 0 Q (F0 m 116 ls [.int s0]) := by
    intro x2 x5 x6 s0 h H locs ls hP hS hl
    unfold f_X11_blockTo_j116 at h
    refine lv_istore (lv' := [(7, .int s0), (0, .ref (a 0)), (2, .int x2), (5, .int x5), (6, .int x6)]) hx hb dX11_blockTo_116 hl (by decide) rfl (fun ls hl => ?_)
    refine lv_iload hx hb dX11_blockTo_118 (lv_at hl 3 rfl) ?_
    refine lv_iload_n hx hb dX11_blockTo_120 rfl (lv_at hl 2 rfl) ?_
    refine lv_if_ne (tgt := 128) hx hb dX11_blockTo_121 (by decide) (fun hc => ?_) (fun hc => ?_)
    · have h := nx_if h hc
      refine lv_iload_n hx hb dX11_blockTo_128 rfl (lv_at hl 2 rfl) ?_
      refine lv_iconst (v := 2) hx hb dX11_blockTo_129 (by decide) ?_
      refine lv_icmp_ne (tgt := 137) hx hb dX11_blockTo_130 (by decide) (fun hc => ?_) (fun hc => ?_)
      · have h := nx_if h hc
        refine lv_iconst (v := 0) hx hb dX11_blockTo_137 (by decide) ?_
        exact J138 _ _ _ _ _ h H locs ls hP hS (lv_sub hl [1, 2, 4, 0] rfl)
      · have h := nx_it h hc
        refine lv_iconst (v := (-1)) hx hb dX11_blockTo_133 (by decide) ?_
        refine lv_goto (tgt := 138) hx hb dX11_blockTo_134 (by decide) ?_
        exact J138 _ _ _ _ _ h H locs ls hP hS (lv_sub hl [1, 2, 4, 0] rfl)
    · have h := nx_it h hc
      refine lv_iconst (v := 2) hx hb dX11_blockTo_124 (by decide) ?_
      refine lv_goto (tgt := 138) hx hb dX11_blockTo_125 (by decide) ?_
      exact J138 _ _ _ _ _ h H locs ls hP hS (lv_sub hl [1, 2, 4, 0] rfl)
  have J93 : ∀ (x5 : Int32) (x7 : Int32) (s0 : Int32) (s1 : Int32), f_X11_blockTo_j93 x5 x7 s0 s1 wide tall = some o → ∀ (H : Heap) (locs : List Loc) (ls : Array Slot), va_P E.1 vwCl (mW E a wide tall groups tours tourLength rowMany cameBy top east south rolled off kind mark rolls many onward at_ goes firstTour rowWay rowSeen prints homeward) H → va_S (nx_F) s.heap H locs → lv_has ls 8 [(0, .ref (a 0)), (5, .int x5), (7, .int x7)] → W p l e (nx_rm 1 25) s m args below meth c H locs 0 0 Q (F0 m 93 ls [.int s0, .int s1]) := by
    intro x5 x7 s0 s1 h H locs ls hP hS hl
    unfold f_X11_blockTo_j93 at h
    refine lv_iadd hx hb dX11_blockTo_93 ?_
    refine lv_istore (lv' := [(6, .int (s1 + s0)), (0, .ref (a 0)), (5, .int x5), (7, .int x7)]) hx hb dX11_blockTo_94 hl (by decide) rfl (fun ls hl => ?_)
    refine lv_goto (tgt := 229) hx hb dX11_blockTo_96 (by decide) ?_
    exact J229 _ _ _ h H locs ls hP hS (lv_sub hl [1, 2, 0, 3] rfl)
  have J68 : ∀ (x2 : Int32) (x6 : Int32) (x7 : Int32) (s0 : Int32) (s1 : Int32), f_X11_blockTo_j68 x2 x6 x7 s0 s1 wide tall = some o → ∀ (H : Heap) (locs : List Loc) (ls : Array Slot), va_P E.1 vwCl (mW E a wide tall groups tours tourLength rowMany cameBy top east south rolled off kind mark rolls many onward at_ goes firstTour rowWay rowSeen prints homeward) H → va_S (nx_F) s.heap H locs → lv_has ls 8 [(0, .ref (a 0)), (2, .int x2), (6, .int x6), (7, .int x7)] → W p l e (nx_rm 1 25) s m args below meth c H locs 0 0 Q (F0 m 68 ls [.int s0, .int s1]) := by
    intro x2 x6 x7 s0 s1 h H locs ls hP hS hl
    unfold f_X11_blockTo_j68 at h
    refine lv_iadd hx hb dX11_blockTo_68 ?_
    refine lv_istore (lv' := [(5, .int (s1 + s0)), (0, .ref (a 0)), (2, .int x2), (6, .int x6), (7, .int x7)]) hx hb dX11_blockTo_69 hl (by decide) rfl (fun ls hl => ?_)
    refine lv_iload hx hb dX11_blockTo_71 (lv_at hl 3 rfl) ?_
    refine lv_iload_n hx hb dX11_blockTo_73 rfl (lv_at hl 2 rfl) ?_
    refine lv_iconst (v := 1) hx hb dX11_blockTo_74 (by decide) ?_
    refine lv_icmp_ne (tgt := 82) hx hb dX11_blockTo_75 (by decide) (fun hc => ?_) (fun hc => ?_)
    · have h := nx_if h hc
      refine lv_iload_n hx hb dX11_blockTo_82 rfl (lv_at hl 2 rfl) ?_
      refine lv_iconst (v := 3) hx hb dX11_blockTo_83 (by decide) ?_
      refine lv_icmp_ne (tgt := 92) hx hb dX11_blockTo_84 (by decide) (fun hc => ?_) (fun hc => ?_)
      · have h := nx_if h hc
        refine lv_iconst (v := 0) hx hb dX11_blockTo_92 (by decide) ?_
        exact J93 _ _ _ _ h H locs ls hP hS (lv_sub hl [1, 0, 4] rfl)
      · have h := nx_it h hc
        refine lv_bipush (v := (-2)) hx hb dX11_blockTo_87 (by decide) ?_
        refine lv_goto (tgt := 93) hx hb dX11_blockTo_89 (by decide) ?_
        exact J93 _ _ _ _ h H locs ls hP hS (lv_sub hl [1, 0, 4] rfl)
    · have h := nx_it h hc
      refine lv_iconst (v := 1) hx hb dX11_blockTo_78 (by decide) ?_
      refine lv_goto (tgt := 93) hx hb dX11_blockTo_79 (by decide) ?_
      exact J93 _ _ _ _ h H locs ls hP hS (lv_sub hl [1, 0, 4] rfl)
  have J45 : ∀ (x2 : Int32) (x5 : Int32) (x6 : Int32) (s0 : Int32), f_X11_blockTo_j45 x2 x5 x6 s0 wide tall = some o → ∀ (H : Heap) (locs : List Loc) (ls : Array Slot), va_P E.1 vwCl (mW E a wide tall groups tours tourLength rowMany cameBy top east south rolled off kind mark rolls many onward at_ goes firstTour rowWay rowSeen prints homeward) H → va_S (nx_F) s.heap H locs → lv_has ls 8 [(0, .ref (a 0)), (2, .int x2), (5, .int x5), (6, .int x6)] → W p l e (nx_rm 1 25) s m args below meth c H locs 0 0 Q (F0 m 45 ls [.int s0]) := by
    intro x2 x5 x6 s0 h H locs ls hP hS hl
    unfold f_X11_blockTo_j45 at h
    refine lv_istore (lv' := [(7, .int s0), (0, .ref (a 0)), (2, .int x2), (5, .int x5), (6, .int x6)]) hx hb dX11_blockTo_45 hl (by decide) rfl (fun ls hl => ?_)
    refine lv_iload hx hb dX11_blockTo_47 (lv_at hl 3 rfl) ?_
    refine lv_iload_n hx hb dX11_blockTo_49 rfl (lv_at hl 2 rfl) ?_
    refine lv_if_ne (tgt := 57) hx hb dX11_blockTo_50 (by decide) (fun hc => ?_) (fun hc => ?_)
    · have h := nx_if h hc
      refine lv_iload_n hx hb dX11_blockTo_57 rfl (lv_at hl 2 rfl) ?_
      refine lv_iconst (v := 2) hx hb dX11_blockTo_58 (by decide) ?_
      refine lv_icmp_ne (tgt := 67) hx hb dX11_blockTo_59 (by decide) (fun hc => ?_) (fun hc => ?_)
      · have h := nx_if h hc
        refine lv_iconst (v := 0) hx hb dX11_blockTo_67 (by decide) ?_
        exact J68 _ _ _ _ _ h H locs ls hP hS (lv_sub hl [1, 2, 4, 0] rfl)
      · have h := nx_it h hc
        refine lv_bipush (v := (-2)) hx hb dX11_blockTo_62 (by decide) ?_
        refine lv_goto (tgt := 68) hx hb dX11_blockTo_64 (by decide) ?_
        exact J68 _ _ _ _ _ h H locs ls hP hS (lv_sub hl [1, 2, 4, 0] rfl)
    · have h := nx_it h hc
      refine lv_iconst (v := 1) hx hb dX11_blockTo_53 (by decide) ?_
      refine lv_goto (tgt := 68) hx hb dX11_blockTo_54 (by decide) ?_
      exact J68 _ _ _ _ _ h H locs ls hP hS (lv_sub hl [1, 2, 4, 0] rfl)
  unfold f_X11_blockTo at h
  suffices hw : ∀ (H : Heap) (locs : List Loc), va_P E.1 vwCl (mW E a wide tall groups tours tourLength rowMany cameBy top east south rolled off kind mark rolls many onward at_ goes firstTour rowWay rowSeen prints homeward) H → va_S (nx_F) s.heap H locs → W p l e (nx_rm 1 25) s m args below meth c H locs 0 0 Q (F0 m 0 ls []) from hw _ _ hP va_S.rf
  intro H locs hP hS
  refine lv_iload_n hx hb dX11_blockTo_0 rfl (lv_at hl 1 rfl) ?_
  refine lv_iconst (v := 3) hx hb dX11_blockTo_1 (by decide) ?_
  refine lv_idiv hx hb dX11_blockTo_2 (by decide) ?_
  refine lv_istore_n (lv' := [(3, .int (x1 / 3)), (0, .ref (a 0)), (1, .int x1), (2, .int x2)]) hx hb dX11_blockTo_3 rfl hl (by decide) rfl (fun ls hl => ?_)
  refine lv_iload_n hx hb dX11_blockTo_4 rfl (lv_at hl 2 rfl) ?_
  refine lv_iconst (v := 3) hx hb dX11_blockTo_5 (by decide) ?_
  refine lv_irem hx hb dX11_blockTo_6 (by decide) ?_
  refine lv_istore (lv' := [(4, .int (x1 - x1 / 3 * 3)), (3, .int (x1 / 3)), (0, .ref (a 0)), (1, .int x1), (2, .int x2)]) hx hb dX11_blockTo_7 hl (by decide) rfl (fun ls hl => ?_)
  refine lv_iload_n hx hb dX11_blockTo_9 rfl (lv_at hl 1 rfl) ?_
  refine lv_aload_n hx hb dX11_blockTo_10 rfl (lv_at hl 2 rfl) ?_
  refine nx_gf X hP uw_X11 (ci := 10) rfl 0 rfl 5 (by decide) wf_RX11_25 rfl dX11_blockTo_11 ?_
  obtain ⟨hne, h⟩ := nx_nz h
  refine lv_irem hx hb dX11_blockTo_14 hne ?_
  refine lv_istore (lv' := [(5, .int ((x1 / 3) - (x1 / 3) / wide * wide)), (4, .int (x1 - x1 / 3 * 3)), (3, .int (x1 / 3)), (0, .ref (a 0)), (1, .int x1), (2, .int x2)]) hx hb dX11_blockTo_15 hl (by decide) rfl (fun ls hl => ?_)
  refine lv_iload_n hx hb dX11_blockTo_17 rfl (lv_at hl 2 rfl) ?_
  refine lv_aload_n hx hb dX11_blockTo_18 rfl (lv_at hl 3 rfl) ?_
  refine nx_gf X hP uw_X11 (ci := 10) rfl 0 rfl 5 (by decide) wf_RX11_25 rfl dX11_blockTo_19 ?_
  obtain ⟨hne, h⟩ := nx_nz h
  refine lv_idiv hx hb dX11_blockTo_22 hne ?_
  refine lv_istore (lv' := [(6, .int ((x1 / 3) / wide)), (5, .int ((x1 / 3) - (x1 / 3) / wide * wide)), (4, .int (x1 - x1 / 3 * 3)), (3, .int (x1 / 3)), (0, .ref (a 0)), (1, .int x1), (2, .int x2)]) hx hb dX11_blockTo_23 hl (by decide) rfl (fun ls hl => ?_)
  refine lv_iload hx hb dX11_blockTo_25 (lv_at hl 2 rfl) ?_
  refine lv_istore (lv' := [(7, .int (x1 - x1 / 3 * 3)), (6, .int ((x1 / 3) / wide)), (5, .int ((x1 / 3) - (x1 / 3) / wide * wide)), (4, .int (x1 - x1 / 3 * 3)), (3, .int (x1 / 3)), (0, .ref (a 0)), (1, .int x1), (2, .int x2)]) hx hb dX11_blockTo_27 hl (by decide) rfl (fun ls hl => ?_)
  refine lv_iload hx hb dX11_blockTo_29 (lv_at hl 3 rfl) ?_
  refine lv_if_ne (tgt := 99) hx hb dX11_blockTo_31 (by decide) (fun hc => ?_) (fun hc => ?_)
  · have h := nx_if h hc
    refine lv_iload hx hb dX11_blockTo_99 (lv_at hl 3 rfl) ?_
    refine lv_iconst (v := 1) hx hb dX11_blockTo_101 (by decide) ?_
    refine lv_icmp_ne (tgt := 168) hx hb dX11_blockTo_102 (by decide) (fun hc => ?_) (fun hc => ?_)
    · have h := nx_if h hc
      refine lv_iload_n hx hb dX11_blockTo_168 rfl (lv_at hl 7 rfl) ?_
      refine lv_iconst (v := 2) hx hb dX11_blockTo_169 (by decide) ?_
      refine lv_irem hx hb dX11_blockTo_170 (by decide) ?_
      refine lv_iconst (v := 1) hx hb dX11_blockTo_171 (by decide) ?_
      refine lv_icmp_ne (tgt := 179) hx hb dX11_blockTo_172 (by decide) (fun hc => ?_) (fun hc => ?_)
      · have h := nx_if h hc
        refine lv_iconst (v := 2) hx hb dX11_blockTo_179 (by decide) ?_
        exact J180 _ _ _ _ h H locs ls hP hS (lv_sub hl [5, 7, 2, 1] rfl)
      · have h := nx_it h hc
        refine lv_iconst (v := 0) hx hb dX11_blockTo_175 (by decide) ?_
        refine lv_goto (tgt := 180) hx hb dX11_blockTo_176 (by decide) ?_
        exact J180 _ _ _ _ h H locs ls hP hS (lv_sub hl [5, 7, 2, 1] rfl)
    · have h := nx_it h hc
      refine lv_iload_n hx hb dX11_blockTo_105 rfl (lv_at hl 7 rfl) ?_
      refine lv_iconst (v := 2) hx hb dX11_blockTo_106 (by decide) ?_
      refine lv_irem hx hb dX11_blockTo_107 (by decide) ?_
      refine lv_if_ne (tgt := 115) hx hb dX11_blockTo_108 (by decide) (fun hc => ?_) (fun hc => ?_)
      · have h := nx_if h hc
        refine lv_iconst (v := 1) hx hb dX11_blockTo_115 (by decide) ?_
        exact J116 _ _ _ _ h H locs ls hP hS (lv_sub hl [5, 7, 2, 1] rfl)
      · have h := nx_it h hc
        refine lv_iconst (v := 0) hx hb dX11_blockTo_111 (by decide) ?_
        refine lv_goto (tgt := 116) hx hb dX11_blockTo_112 (by decide) ?_
        exact J116 _ _ _ _ h H locs ls hP hS (lv_sub hl [5, 7, 2, 1] rfl)
  · have h := nx_it h hc
    refine lv_iload_n hx hb dX11_blockTo_34 rfl (lv_at hl 7 rfl) ?_
    refine lv_iconst (v := 2) hx hb dX11_blockTo_35 (by decide) ?_
    refine lv_irem hx hb dX11_blockTo_36 (by decide) ?_
    refine lv_if_ne (tgt := 44) hx hb dX11_blockTo_37 (by decide) (fun hc => ?_) (fun hc => ?_)
    · have h := nx_if h hc
      refine lv_iconst (v := 2) hx hb dX11_blockTo_44 (by decide) ?_
      exact J45 _ _ _ _ h H locs ls hP hS (lv_sub hl [5, 7, 2, 1] rfl)
    · have h := nx_it h hc
      refine lv_iconst (v := 1) hx hb dX11_blockTo_40 (by decide) ?_
      refine lv_goto (tgt := 45) hx hb dX11_blockTo_41 (by decide) ?_
      exact J45 _ _ _ _ h H locs ls hP hS (lv_sub hl [5, 7, 2, 1] rfl)
