def f_X11_stance (N : Nat) (x1 : Int32) (x2 : Int32) (top : Nat → Int32) (east : Nat → Int32) : Option (Int32) :=
  (f_X11_in ((x1 : Int32).toInt64) 1 6).bind fun r_2 => if r_2 = 0 then (some (-2)) else ((f_X11_in ((x2 : Int32).toInt64) 1 6).bind fun r_4 => if r_4 = 0 then (some (-2)) else ((f_X11_stanceOf N x1 x2 top east).bind fun r_6 => some r_6))
set_option maxHeartbeats 4000000 in
set_option maxRecDepth 100000 in
theorem c_X11_stance (l : Launch) (N : Nat) (E : nx_E) (sz : Nat) (a : Nat → Nat) (wide : Int32) (tall : Int32) (groups : Int32) (tours : Int32) (tourLength : Int32) (rowMany : Int32) (cameBy : Int32) (top : Nat → Int32) (east : Nat → Int32) (south : Nat → Int32) (rolled : Nat → Int32) (off : Nat → Int32) (kind : Nat → Int32) (mark : Nat → Int32) (rolls : Nat → Int32) (many : Nat → Int64) (onward : Nat → Int32) (at_ : Nat → Int32) (goes : Nat → Int32) (firstTour : Nat → Int32) (rowWay : Nat → Int32) (rowSeen : Nat → Int32) (prints : Nat → Int32) (homeward : Nat → Int32) (x1 : Int32) (x2 : Int32) (o : Int32) (h : f_X11_stance N x1 x2 top east = some o) : Met l yX11_stance (.code yX11_stance cX11_stance 3 (some .int) :: nx_T) (nx_rm 1 25) (va_Pc [.ref (a 0), .int x1, .int x2] (nx_P E (nx_F) sz (mW E a wide tall groups tours tourLength rowMany cameBy top east south rolled off kind mark rolls many onward at_ goes firstTour rowWay rowSeen prints homeward))) (va_Qi (fun v (_ : Unit) => v = o) (fun _ t => va_P E.1 vwCl (mW E a wide tall groups tours tourLength rowMany cameBy top east south rolled off kind mark rolls many onward at_ goes firstTour rowWay rowSeen prints homeward) t.heap) (nx_F)) 0 0 (nx_F) := by
  refine nx_enI (fun v (_ : Unit) => v = o) (fun (_ : Unit) => (mW E a wide tall groups tours tourLength rowMany cameBy top east south rolled off kind mark rolls many onward at_ goes firstTour rowWay rowSeen prints homeward)) (by decide) (Nat.le_of_ble_eq_true rfl) ?_
  intro p e s m below meth c Q X kr hsz hP ls hl
  subst hsz
  generalize hargs : (List.toArray [.ref (a 0), .int x1, .int x2] : Array Value) = args at X kr ⊢
  clear hargs
  obtain ⟨⟨hx, hb, hml, hown, hts⟩, hK, hSt, hNz⟩ := id X
  have hS : va_S (nx_F) s.heap s.heap [] := va_S.rf
  have hl : lv_has ls 3 [(0, .ref (a 0)), (1, .int x1), (2, .int x2)] := hl
  unfold f_X11_stance at h
  suffices hw : ∀ (H : Heap) (locs : List Loc), va_P E.1 vwCl (mW E a wide tall groups tours tourLength rowMany cameBy top east south rolled off kind mark rolls many onward at_ goes firstTour rowWay rowSeen prints homeward) H → va_S (nx_F) s.heap H locs → W p l e (nx_rm 1 25) s m args below meth c H locs 0 0 Q (F0 m 0 ls []) from hw _ _ hP va_S.rf
  intro H locs hP hS
  refine lv_iload_n hx hb dX11_stance_0 rfl (lv_at hl 1 rfl) ?_
  refine lv_i2l (v := (x1 : Int32).toInt64) hx hb dX11_stance_1 rfl ?_
  refine lv_lconst (v := 1) hx hb dX11_stance_2 (by decide) ?_
  refine lv_ldc2 hx hb hown (hts _ wl_RX11_97) dX11_stance_3 ?_
  obtain ⟨r_2, hc_1, h⟩ := nx_bd h
  refine nx_ki (nx_runS (As := [.long ((x1 : Int32).toInt64), .long 1, .long 6]) (rest := []) X hS hP (c_X11_in l E H.size a wide tall groups tours tourLength rowMany cameBy top east south rolled off kind mark rolls many onward at_ goes firstTour rowWay rowSeen prints homeward ((x1 : Int32).toInt64) 1 6 _ hc_1) nx_FA qS_RX11_84 ⟨rfl, rfl⟩ ⟨Nat.le_of_ble_eq_true rfl, Nat.le_of_ble_eq_true rfl⟩ ⟨Nat.zero_le _, Nat.zero_le _⟩ rfl rfl hl.1 (Nat.le_of_ble_eq_true rfl) dX11_stance_6) hS nx_FA (fun H locs hP hS => ?_)
  refine lv_if_eq (tgt := 33) hx hb dX11_stance_9 (by decide) (fun hc => ?_) (fun hc => ?_)
  · have h := nx_it h hc
    refine lv_bipush (v := (-2)) hx hb dX11_stance_33 (by decide) ?_
    exact kr 35 ls (-2) () H locs dX11_stance_35 (Option.some.inj h) hP hS
  · have h := nx_if h hc
    refine lv_iload_n hx hb dX11_stance_12 rfl (lv_at hl 2 rfl) ?_
    refine lv_i2l (v := (x2 : Int32).toInt64) hx hb dX11_stance_13 rfl ?_
    refine lv_lconst (v := 1) hx hb dX11_stance_14 (by decide) ?_
    refine lv_ldc2 hx hb hown (hts _ wl_RX11_97) dX11_stance_15 ?_
    obtain ⟨r_4, hc_3, h⟩ := nx_bd h
    refine nx_ki (nx_runS (As := [.long ((x2 : Int32).toInt64), .long 1, .long 6]) (rest := []) X hS hP (c_X11_in l E H.size a wide tall groups tours tourLength rowMany cameBy top east south rolled off kind mark rolls many onward at_ goes firstTour rowWay rowSeen prints homeward ((x2 : Int32).toInt64) 1 6 _ hc_3) nx_FA qS_RX11_84 ⟨rfl, rfl⟩ ⟨Nat.le_of_ble_eq_true rfl, Nat.le_of_ble_eq_true rfl⟩ ⟨Nat.zero_le _, Nat.zero_le _⟩ rfl rfl hl.1 (Nat.le_of_ble_eq_true rfl) dX11_stance_18) hS nx_FA (fun H locs hP hS => ?_)
    refine lv_if_eq (tgt := 33) hx hb dX11_stance_21 (by decide) (fun hc => ?_) (fun hc => ?_)
    · have h := nx_it h hc
      refine lv_bipush (v := (-2)) hx hb dX11_stance_33 (by decide) ?_
      exact kr 35 ls (-2) () H locs dX11_stance_35 (Option.some.inj h) hP hS
    · have h := nx_if h hc
      refine lv_aload_n hx hb dX11_stance_24 rfl (lv_at hl 0 rfl) ?_
      refine lv_iload_n hx hb dX11_stance_25 rfl (lv_at hl 1 rfl) ?_
      refine lv_iload_n hx hb dX11_stance_26 rfl (lv_at hl 2 rfl) ?_
      obtain ⟨r_6, hc_5, h⟩ := nx_bd h
      refine nx_ki (nx_runV (As := [.int x1, .int x2]) (rest := []) X hS hP (c_X11_stanceOf l N E H.size a wide tall groups tours tourLength rowMany cameBy top east south rolled off kind mark rolls many onward at_ goes firstTour rowWay rowSeen prints homeward x1 x2 _ hc_5) nx_FA qV_RX11_72 ⟨rfl, rfl⟩ ⟨Nat.le_of_ble_eq_true rfl, Nat.le_of_ble_eq_true rfl⟩ ⟨Nat.zero_le _, Nat.zero_le _⟩ 0 rfl rfl rfl rfl hl.1 (Nat.le_of_ble_eq_true rfl) dX11_stance_27) hS nx_FA (fun H locs hP hS => ?_)
      refine lv_goto (tgt := 35) hx hb dX11_stance_30 (by decide) ?_
      exact kr 35 ls r_6 () H locs dX11_stance_35 (Option.some.inj h) hP hS
def f_X11_apart_j40 (rec : (Int32 × (Nat → Int32)) → Option ((Nat → Int32))) (x1 : Int32) (x2 : Int32) (x3 : Int32) (s0 : Int32) (s1 : Int32) (off : Nat → Int32) : Option ((Nat → Int32)) :=
  (nx_ck 24 s1).bind fun _ => rec ((x3 + 1), (upd off s1.toNatClampNeg s0))
def f_X11_apart_b18 (x1 : Int32) (x2 : Int32) (rec : (Int32 × (Nat → Int32)) → Option ((Nat → Int32))) (x3 : Int32) (off : Nat → Int32) : Option ((Nat → Int32)) :=
  if 24 ≤ x3 then (some off) else (if x3 = x1 then (f_X11_apart_j40 rec x1 x2 x3 0 x3 off) else (f_X11_apart_j40 rec x1 x2 x3 100000000 x3 off))
def f_X11_apart_l18 (x1 : Int32) (x2 : Int32) : Nat → (Int32 × (Nat → Int32)) → Option ((Nat → Int32)) := nx_lp (fun rec z => f_X11_apart_b18 x1 x2 rec z.1 z.2)
def f_X11_apart_j118 (rec : (Int32 × (Nat → Int32)) → Option ((Nat → Int32))) (x2 : Int32) (x3 : Int32) (x4 : Int32) (s0 : Int32) (s1 : Int32) (off : Nat → Int32) : Option ((Nat → Int32)) :=
  (nx_ck 24 s1).bind fun _ => rec ((x4 + 1), (upd off s1.toNatClampNeg s0))
def f_X11_apart_j111 (rec : (Int32 × (Nat → Int32)) → Option ((Nat → Int32))) (x2 : Int32) (x3 : Int32) (x4 : Int32) (x5 : Int32) (s0 : Int32) (off : Nat → Int32) : Option ((Nat → Int32)) :=
  (nx_rd off 24 x5).bind fun _ => f_X11_apart_j118 rec x2 x3 x4 (off x5.toNatClampNeg) s0 off
def f_X11_apart_b58 (x2 : Int32) (x3 : Int32) (rolled : Nat → Int32) (rec : (Int32 × (Nat → Int32)) → Option ((Nat → Int32))) (x4 : Int32) (off : Nat → Int32) : Option ((Nat → Int32)) :=
  if 96 ≤ x4 then (some off) else ((nx_rd rolled 96 x4).bind fun _ => (nx_rd off 24 (x4 / 4)).bind fun _ => if (off (x4 / 4).toNatClampNeg) = x3 then ((nx_rd off 24 (rolled x4.toNatClampNeg)).bind fun _ => if (off (rolled x4.toNatClampNeg).toNatClampNeg) = 100000000 then (f_X11_apart_j118 rec x2 x3 x4 (x3 + 1) (rolled x4.toNatClampNeg) off) else (f_X11_apart_j111 rec x2 x3 x4 (rolled x4.toNatClampNeg) (rolled x4.toNatClampNeg) off)) else (f_X11_apart_j111 rec x2 x3 x4 (rolled x4.toNatClampNeg) (rolled x4.toNatClampNeg) off))
def f_X11_apart_l58 (x2 : Int32) (x3 : Int32) (rolled : Nat → Int32) : Nat → (Int32 × (Nat → Int32)) → Option ((Nat → Int32)) := nx_lp (fun rec z => f_X11_apart_b58 x2 x3 rolled rec z.1 z.2)
def f_X11_apart_b49 (N : Nat) (x2 : Int32) (rolled : Nat → Int32) (rec : (Int32 × (Nat → Int32)) → Option ((Nat → Int32))) (x3 : Int32) (off : Nat → Int32) : Option ((Nat → Int32)) :=
  if 24 ≤ x3 then (some off) else ((f_X11_apart_l58 x2 x3 rolled N (0, off)).bind fun z_11 => rec ((x3 + 1), z_11))
def f_X11_apart_l49 (N : Nat) (x2 : Int32) (rolled : Nat → Int32) : Nat → (Int32 × (Nat → Int32)) → Option ((Nat → Int32)) := nx_lp (fun rec z => f_X11_apart_b49 N x2 rolled rec z.1 z.2)
def f_X11_apart (N : Nat) (x1 : Int32) (x2 : Int32) (rolled : Nat → Int32) (off : Nat → Int32) : Option (Int32 × ((Nat → Int32))) :=
  (f_X11_isStance x1).bind fun r_14 => if r_14 = 0 then (some ((-1), off)) else ((f_X11_isStance x2).bind fun r_16 => if r_16 = 0 then (some ((-1), off)) else ((f_X11_apart_l18 x1 x2 N (0, off)).bind fun z_17 => (f_X11_apart_l49 N x2 rolled N (0, z_17)).bind fun z_19 => (nx_rd z_19 24 x2).bind fun _ => some ((z_19 x2.toNatClampNeg), z_19)))
set_option maxHeartbeats 4000000 in
set_option maxRecDepth 100000 in
theorem c_X11_apart (l : Launch) (N : Nat) (E : nx_E) (sz : Nat) (a : Nat → Nat) (wide : Int32) (tall : Int32) (groups : Int32) (tours : Int32) (tourLength : Int32) (rowMany : Int32) (cameBy : Int32) (top : Nat → Int32) (east : Nat → Int32) (south : Nat → Int32) (rolled : Nat → Int32) (off : Nat → Int32) (kind : Nat → Int32) (mark : Nat → Int32) (rolls : Nat → Int32) (many : Nat → Int64) (onward : Nat → Int32) (at_ : Nat → Int32) (goes : Nat → Int32) (firstTour : Nat → Int32) (rowWay : Nat → Int32) (rowSeen : Nat → Int32) (prints : Nat → Int32) (homeward : Nat → Int32) (x1 : Int32) (x2 : Int32) (hI : nx_inj a 18) (o : Int32 × ((Nat → Int32))) (h : f_X11_apart N x1 x2 rolled off = some o) : Met l yX11_apart (.code yX11_apart cX11_apart 6 (some .int) :: nx_T) (nx_rm 2 45) (va_Pc [.ref (a 0), .int x1, .int x2] (nx_P E (nx_A a 18 sz) sz (mW E a wide tall groups tours tourLength rowMany cameBy top east south rolled off kind mark rolls many onward at_ goes firstTour rowWay rowSeen prints homeward))) (va_Qi (fun v u => (v, u) = o) (fun u t => va_P E.1 vwCl (mW E a wide tall groups tours tourLength rowMany cameBy top east south rolled u kind mark rolls many onward at_ goes firstTour rowWay rowSeen prints homeward) t.heap) (nx_A a 18 sz)) 0 0 (nx_A a 18 sz) := by
  refine nx_enI (fun v u => (v, u) = o) (fun (u : (Nat → Int32)) => (mW E a wide tall groups tours tourLength rowMany cameBy top east south rolled u kind mark rolls many onward at_ goes firstTour rowWay rowSeen prints homeward)) (by decide) (Nat.le_of_ble_eq_true rfl) ?_
  intro p e s m below meth c Q X kr hsz hP ls hl
  subst hsz
  generalize hargs : (List.toArray [.ref (a 0), .int x1, .int x2] : Array Value) = args at X kr ⊢
  clear hargs
  obtain ⟨⟨hx, hb, hml, hown, hts⟩, hK, hSt, hNz⟩ := id X
  have hS : va_S (nx_A a 18 s.heap.size) s.heap s.heap [] := va_S.rf
  have hl : lv_has ls 6 [(0, .ref (a 0)), (1, .int x1), (2, .int x2)] := hl
  have L18 : ∀ (x1 : Int32) (x2 : Int32) (n : Nat) (x3 : Int32) (off : Nat → Int32) (z : ((Nat → Int32))), f_X11_apart_l18 x1 x2 n (x3, off) = some z → ∀ (H : Heap) (locs : List Loc) (ls : Array Slot), va_P E.1 vwCl (mW E a wide tall groups tours tourLength rowMany cameBy top east south rolled off kind mark rolls many onward at_ goes firstTour rowWay rowSeen prints homeward) H → va_S (nx_A a 18 s.heap.size) s.heap H locs → lv_has ls 6 [(0, .ref (a 0)), (1, .int x1), (2, .int x2), (3, .int x3)] → ∀ (kR : ∀ (H : Heap) (locs : List Loc) (ls : Array Slot), va_P E.1 vwCl (mW E a wide tall groups tours tourLength rowMany cameBy top east south rolled z kind mark rolls many onward at_ goes firstTour rowWay rowSeen prints homeward) H → va_S (nx_A a 18 s.heap.size) s.heap H locs → lv_has ls 6 [(0, .ref (a 0)), (2, .int x2)] → W p l e (nx_rm 2 45) s m args below meth c H locs 0 0 Q (F0 m 47 ls [])), W p l e (nx_rm 2 45) s m args below meth c H locs 0 0 Q (F0 m 18 ls []) := by
   intro x1 x2 n
   induction n with
   | zero => intro x3 off z h; exact nomatch (show none = some z from h)
   | succ n ih =>
    intro x3 off z h H locs ls hP hS hl kR
    have h : f_X11_apart_b18 x1 x2 (f_X11_apart_l18 x1 x2 n) x3 off = some z := h
    have J40 : ∀ (x3 : Int32) (s0 : Int32) (s1 : Int32) (off : Nat → Int32), f_X11_apart_j40 (f_X11_apart_l18 x1 x2 n) x1 x2 x3 s0 s1 off = some z → ∀ (H : Heap) (locs : List Loc) (ls : Array Slot), va_P E.1 vwCl (mW E a wide tall groups tours tourLength rowMany cameBy top east south rolled off kind mark rolls many onward at_ goes firstTour rowWay rowSeen prints homeward) H → va_S (nx_A a 18 s.heap.size) s.heap H locs → lv_has ls 6 [(0, .ref (a 0)), (1, .int x1), (2, .int x2), (3, .int x3)] → W p l e (nx_rm 2 45) s m args below meth c H locs 0 0 Q (F0 m 40 ls [.int s0, .int s1, .ref (a 5)]) := by
      intro x3 s0 s1 off h H locs ls hP hS hl
      unfold f_X11_apart_j40 at h
      obtain ⟨hv_1, h⟩ := nx_cb h
      refine nx_st X hI mW_ad hP hS 5 rfl hv_1 dX11_apart_40 (fun H locs hP hS => ?_)
      have hP : va_P E.1 vwCl (mW E a wide tall groups tours tourLength rowMany cameBy top east south rolled (upd off s1.toNatClampNeg s0) kind mark rolls many onward at_ goes firstTour rowWay rowSeen prints homeward) H := hP
      refine lv_iinc (v := (x3 + 1)) (lv' := [(3, .int (x3 + 1)), (0, .ref (a 0)), (1, .int x1), (2, .int x2)]) hx hb dX11_apart_41 hl (k := 3) rfl rfl (by decide) rfl (fun ls hl => ?_)
      refine lv_goto (tgt := 18) hx hb dX11_apart_44 (by decide) ?_
      exact ih _ _ z h H locs ls hP hS (lv_sub hl [1, 2, 3, 0] rfl) kR
    unfold f_X11_apart_b18 at h
    refine lv_iload_n hx hb dX11_apart_18 rfl (lv_at hl 3 rfl) ?_
    refine lv_bipush (v := 24) hx hb dX11_apart_19 (by decide) ?_
    refine lv_icmp_ge (tgt := 47) hx hb dX11_apart_21 (by decide) (fun hc => ?_) (fun hc => ?_)
    · have h := nx_it h hc
      obtain rfl := Option.some.inj h
      exact kR H locs ls hP hS (lv_sub hl [0, 2] rfl)
    · have h := nx_if h hc
      refine lv_aload_n hx hb dX11_apart_24 rfl (lv_at hl 0 rfl) ?_
      refine nx_gf X hP uw_X11 (ci := 10) rfl 0 rfl 4 (by decide) wf_RX11_22 rfl dX11_apart_25 ?_
      refine lv_iload_n hx hb dX11_apart_28 rfl (lv_at hl 3 rfl) ?_
      refine lv_iload_n hx hb dX11_apart_29 rfl (lv_at hl 3 rfl) ?_
      refine lv_iload_n hx hb dX11_apart_30 rfl (lv_at hl 1 rfl) ?_
      refine lv_icmp_ne (tgt := 38) hx hb dX11_apart_31 (by decide) (fun hc => ?_) (fun hc => ?_)
      · have h := nx_if h hc
        refine lv_ldc hx hb hown (hts _ wk_RX11_99) dX11_apart_38 ?_
        exact J40 _ _ _ _ h H locs ls hP hS (lv_sub hl [0, 1, 2, 3] rfl)
      · have h := nx_it h hc
        refine lv_iconst (v := 0) hx hb dX11_apart_34 (by decide) ?_
        refine lv_goto (tgt := 40) hx hb dX11_apart_35 (by decide) ?_
        exact J40 _ _ _ _ h H locs ls hP hS (lv_sub hl [0, 1, 2, 3] rfl)
  have L58 : ∀ (x2 : Int32) (x3 : Int32) (n : Nat) (x4 : Int32) (off : Nat → Int32) (z : ((Nat → Int32))), f_X11_apart_l58 x2 x3 rolled n (x4, off) = some z → ∀ (H : Heap) (locs : List Loc) (ls : Array Slot), va_P E.1 vwCl (mW E a wide tall groups tours tourLength rowMany cameBy top east south rolled off kind mark rolls many onward at_ goes firstTour rowWay rowSeen prints homeward) H → va_S (nx_A a 18 s.heap.size) s.heap H locs → lv_has ls 6 [(0, .ref (a 0)), (2, .int x2), (3, .int x3), (4, .int x4)] → ∀ (kR : ∀ (H : Heap) (locs : List Loc) (ls : Array Slot), va_P E.1 vwCl (mW E a wide tall groups tours tourLength rowMany cameBy top east south rolled z kind mark rolls many onward at_ goes firstTour rowWay rowSeen prints homeward) H → va_S (nx_A a 18 s.heap.size) s.heap H locs → lv_has ls 6 [(0, .ref (a 0)), (2, .int x2), (3, .int x3)] → W p l e (nx_rm 2 45) s m args below meth c H locs 0 0 Q (F0 m 125 ls [])), W p l e (nx_rm 2 45) s m args below meth c H locs 0 0 Q (F0 m 58 ls []) := by
   intro x2 x3 n
   induction n with
   | zero => intro x4 off z h; exact nomatch (show none = some z from h)
   | succ n ih =>
    intro x4 off z h H locs ls hP hS hl kR
    have h : f_X11_apart_b58 x2 x3 rolled (f_X11_apart_l58 x2 x3 rolled n) x4 off = some z := h
    have J118 : ∀ (x4 : Int32) (s0 : Int32) (s1 : Int32) (off : Nat → Int32), f_X11_apart_j118 (f_X11_apart_l58 x2 x3 rolled n) x2 x3 x4 s0 s1 off = some z → ∀ (H : Heap) (locs : List Loc) (ls : Array Slot), va_P E.1 vwCl (mW E a wide tall groups tours tourLength rowMany cameBy top east south rolled off kind mark rolls many onward at_ goes firstTour rowWay rowSeen prints homeward) H → va_S (nx_A a 18 s.heap.size) s.heap H locs → lv_has ls 6 [(0, .ref (a 0)), (2, .int x2), (3, .int x3), (4, .int x4)] → W p l e (nx_rm 2 45) s m args below meth c H locs 0 0 Q (F0 m 118 ls [.int s0, .int s1, .ref (a 5)]) := by
      intro x4 s0 s1 off h H locs ls hP hS hl
      unfold f_X11_apart_j118 at h
      obtain ⟨hv_2, h⟩ := nx_cb h
      refine nx_st X hI mW_ad hP hS 5 rfl hv_2 dX11_apart_118 (fun H locs hP hS => ?_)
      have hP : va_P E.1 vwCl (mW E a wide tall groups tours tourLength rowMany cameBy top east south rolled (upd off s1.toNatClampNeg s0) kind mark rolls many onward at_ goes firstTour rowWay rowSeen prints homeward) H := hP
      refine lv_iinc (v := (x4 + 1)) (lv' := [(4, .int (x4 + 1)), (0, .ref (a 0)), (2, .int x2), (3, .int x3)]) hx hb dX11_apart_119 hl (k := 3) rfl rfl (by decide) rfl (fun ls hl => ?_)
      refine lv_goto (tgt := 58) hx hb dX11_apart_122 (by decide) ?_
      exact ih _ _ z h H locs ls hP hS (lv_sub hl [1, 2, 3, 0] rfl) kR
    have J111 : ∀ (x4 : Int32) (x5 : Int32) (s0 : Int32) (off : Nat → Int32), f_X11_apart_j111 (f_X11_apart_l58 x2 x3 rolled n) x2 x3 x4 x5 s0 off = some z → ∀ (H : Heap) (locs : List Loc) (ls : Array Slot), va_P E.1 vwCl (mW E a wide tall groups tours tourLength rowMany cameBy top east south rolled off kind mark rolls many onward at_ goes firstTour rowWay rowSeen prints homeward) H → va_S (nx_A a 18 s.heap.size) s.heap H locs → lv_has ls 6 [(0, .ref (a 0)), (2, .int x2), (3, .int x3), (4, .int x4), (5, .int x5)] → W p l e (nx_rm 2 45) s m args below meth c H locs 0 0 Q (F0 m 111 ls [.int s0, .ref (a 5)]) := by
      intro x4 x5 s0 off h H locs ls hP hS hl
      unfold f_X11_apart_j111 at h
      refine lv_aload_n hx hb dX11_apart_111 rfl (lv_at hl 0 rfl) ?_
      refine nx_gf X hP uw_X11 (ci := 10) rfl 0 rfl 4 (by decide) wf_RX11_22 rfl dX11_apart_112 ?_
      refine lv_iload hx hb dX11_apart_115 (lv_at hl 4 rfl) ?_
      obtain ⟨hv_3, h⟩ := nx_rb h
      refine nx_ld X hP 5 rfl hv_3 dX11_apart_117 ?_
      exact J118 _ _ _ _ h H locs ls hP hS (lv_sub hl [0, 1, 2, 3] rfl)
    unfold f_X11_apart_b58 at h
    refine lv_iload hx hb dX11_apart_58 (lv_at hl 3 rfl) ?_
    refine lv_bipush (v := 96) hx hb dX11_apart_60 (by decide) ?_
    refine lv_icmp_ge (tgt := 125) hx hb dX11_apart_62 (by decide) (fun hc => ?_) (fun hc => ?_)
    · have h := nx_it h hc
      obtain rfl := Option.some.inj h
      exact kR H locs ls hP hS (lv_sub hl [0, 1, 2] rfl)
    · have h := nx_if h hc
      refine lv_aload_n hx hb dX11_apart_65 rfl (lv_at hl 0 rfl) ?_
      refine nx_gf X hP uw_X11 (ci := 10) rfl 0 rfl 3 (by decide) wf_RX11_19 rfl dX11_apart_66 ?_
      refine lv_iload hx hb dX11_apart_69 (lv_at hl 3 rfl) ?_
      obtain ⟨hv_5, h⟩ := nx_rb h
      refine nx_ld X hP 4 rfl hv_5 dX11_apart_71 ?_
      refine lv_istore (lv' := [(5, .int (rolled x4.toNatClampNeg)), (0, .ref (a 0)), (2, .int x2), (3, .int x3), (4, .int x4)]) hx hb dX11_apart_72 hl (by decide) rfl (fun ls hl => ?_)
      refine lv_aload_n hx hb dX11_apart_74 rfl (lv_at hl 1 rfl) ?_
      refine nx_gf X hP uw_X11 (ci := 10) rfl 0 rfl 4 (by decide) wf_RX11_22 rfl dX11_apart_75 ?_
      refine lv_iload hx hb dX11_apart_78 (lv_at hl 0 rfl) ?_
      refine lv_aload_n hx hb dX11_apart_80 rfl (lv_at hl 1 rfl) ?_
      refine nx_gf X hP uw_X11 (ci := 10) rfl 0 rfl 4 (by decide) wf_RX11_22 rfl dX11_apart_81 ?_
      refine lv_iload hx hb dX11_apart_84 (lv_at hl 4 rfl) ?_
      refine lv_iconst (v := 4) hx hb dX11_apart_86 (by decide) ?_
      refine lv_idiv hx hb dX11_apart_87 (by decide) ?_
      obtain ⟨hv_7, h⟩ := nx_rb h
      refine nx_ld X hP 5 rfl hv_7 dX11_apart_88 ?_
      refine lv_iload_n hx hb dX11_apart_89 rfl (lv_at hl 3 rfl) ?_
      refine lv_icmp_ne (tgt := 111) hx hb dX11_apart_90 (by decide) (fun hc => ?_) (fun hc => ?_)
      · have h := nx_if h hc
        exact J111 _ _ _ _ h H locs ls hP hS (lv_sub hl [1, 2, 3, 4, 0] rfl)
      · have h := nx_it h hc
        refine lv_aload_n hx hb dX11_apart_93 rfl (lv_at hl 1 rfl) ?_
        refine nx_gf X hP uw_X11 (ci := 10) rfl 0 rfl 4 (by decide) wf_RX11_22 rfl dX11_apart_94 ?_
        refine lv_iload hx hb dX11_apart_97 (lv_at hl 0 rfl) ?_
        obtain ⟨hv_9, h⟩ := nx_rb h
        refine nx_ld X hP 5 rfl hv_9 dX11_apart_99 ?_
        refine lv_ldc hx hb hown (hts _ wk_RX11_99) dX11_apart_100 ?_
        refine lv_icmp_ne (tgt := 111) hx hb dX11_apart_102 (by decide) (fun hc => ?_) (fun hc => ?_)
        · have h := nx_if h hc
          exact J111 _ _ _ _ h H locs ls hP hS (lv_sub hl [1, 2, 3, 4, 0] rfl)
        · have h := nx_it h hc
          refine lv_iload_n hx hb dX11_apart_105 rfl (lv_at hl 3 rfl) ?_
          refine lv_iconst (v := 1) hx hb dX11_apart_106 (by decide) ?_
          refine lv_iadd hx hb dX11_apart_107 ?_
          refine lv_goto (tgt := 118) hx hb dX11_apart_108 (by decide) ?_
          exact J118 _ _ _ _ h H locs ls hP hS (lv_sub hl [1, 2, 3, 4] rfl)
  have L49 : ∀ (x2 : Int32) (n : Nat) (x3 : Int32) (off : Nat → Int32) (z : ((Nat → Int32))), f_X11_apart_l49 N x2 rolled n (x3, off) = some z → ∀ (H : Heap) (locs : List Loc) (ls : Array Slot), va_P E.1 vwCl (mW E a wide tall groups tours tourLength rowMany cameBy top east south rolled off kind mark rolls many onward at_ goes firstTour rowWay rowSeen prints homeward) H → va_S (nx_A a 18 s.heap.size) s.heap H locs → lv_has ls 6 [(0, .ref (a 0)), (2, .int x2), (3, .int x3)] → ∀ (kR : ∀ (H : Heap) (locs : List Loc) (ls : Array Slot), va_P E.1 vwCl (mW E a wide tall groups tours tourLength rowMany cameBy top east south rolled z kind mark rolls many onward at_ goes firstTour rowWay rowSeen prints homeward) H → va_S (nx_A a 18 s.heap.size) s.heap H locs → lv_has ls 6 [(0, .ref (a 0)), (2, .int x2)] → W p l e (nx_rm 2 45) s m args below meth c H locs 0 0 Q (F0 m 131 ls [])), W p l e (nx_rm 2 45) s m args below meth c H locs 0 0 Q (F0 m 49 ls []) := by
   intro x2 n
   induction n with
   | zero => intro x3 off z h; exact nomatch (show none = some z from h)
   | succ n ih =>
    intro x3 off z h H locs ls hP hS hl kR
    have h : f_X11_apart_b49 N x2 rolled (f_X11_apart_l49 N x2 rolled n) x3 off = some z := h
    unfold f_X11_apart_b49 at h
    refine lv_iload_n hx hb dX11_apart_49 rfl (lv_at hl 2 rfl) ?_
    refine lv_bipush (v := 24) hx hb dX11_apart_50 (by decide) ?_
    refine lv_icmp_ge (tgt := 131) hx hb dX11_apart_52 (by decide) (fun hc => ?_) (fun hc => ?_)
    · have h := nx_it h hc
      obtain rfl := Option.some.inj h
      exact kR H locs ls hP hS (lv_sub hl [0, 1] rfl)
    · have h := nx_if h hc
      refine lv_iconst (v := 0) hx hb dX11_apart_55 (by decide) ?_
      refine lv_istore (lv' := [(4, .int 0), (0, .ref (a 0)), (2, .int x2), (3, .int x3)]) hx hb dX11_apart_56 hl (by decide) rfl (fun ls hl => ?_)
      obtain ⟨z_11, hz_12, h⟩ := nx_bd h
      refine L58 _ _ N _ _ _ hz_12 H locs ls hP hS (lv_sub hl [1, 2, 3, 0] rfl) (fun H locs ls hP hS hl => ?_)
      refine lv_iinc (v := (x3 + 1)) (lv' := [(3, .int (x3 + 1)), (0, .ref (a 0)), (2, .int x2)]) hx hb dX11_apart_125 hl (k := 2) rfl rfl (by decide) rfl (fun ls hl => ?_)
      refine lv_goto (tgt := 49) hx hb dX11_apart_128 (by decide) ?_
      exact ih _ _ z h H locs ls hP hS (lv_sub hl [1, 2, 0] rfl) kR
  unfold f_X11_apart at h
  suffices hw : ∀ (H : Heap) (locs : List Loc), va_P E.1 vwCl (mW E a wide tall groups tours tourLength rowMany cameBy top east south rolled off kind mark rolls many onward at_ goes firstTour rowWay rowSeen prints homeward) H → va_S (nx_A a 18 s.heap.size) s.heap H locs → W p l e (nx_rm 2 45) s m args below meth c H locs 0 0 Q (F0 m 0 ls []) from hw _ _ hP va_S.rf
  intro H locs hP hS
  refine lv_iload_n hx hb dX11_apart_0 rfl (lv_at hl 1 rfl) ?_
  obtain ⟨r_14, hc_13, h⟩ := nx_bd h
  refine nx_ki (nx_runS (As := [.int x1]) (rest := []) X hS hP (c_X11_isStance l E H.size a wide tall groups tours tourLength rowMany cameBy top east south rolled off kind mark rolls many onward at_ goes firstTour rowWay rowSeen prints homeward x1 _ hc_13) nx_FA qS_RX11_90 ⟨rfl, rfl⟩ ⟨Nat.le_of_ble_eq_true rfl, Nat.le_of_ble_eq_true rfl⟩ ⟨Nat.zero_le _, Nat.zero_le _⟩ rfl rfl hl.1 (Nat.le_of_ble_eq_true rfl) dX11_apart_1) hS nx_FA (fun H locs hP hS => ?_)
  refine lv_if_eq (tgt := 14) hx hb dX11_apart_4 (by decide) (fun hc => ?_) (fun hc => ?_)
  · have h := nx_it h hc
    refine lv_iconst (v := (-1)) hx hb dX11_apart_14 (by decide) ?_
    exact kr 15 ls (-1) off H locs dX11_apart_15 (Option.some.inj h) hP hS
  · have h := nx_if h hc
    refine lv_iload_n hx hb dX11_apart_7 rfl (lv_at hl 2 rfl) ?_
    obtain ⟨r_16, hc_15, h⟩ := nx_bd h
    refine nx_ki (nx_runS (As := [.int x2]) (rest := []) X hS hP (c_X11_isStance l E H.size a wide tall groups tours tourLength rowMany cameBy top east south rolled off kind mark rolls many onward at_ goes firstTour rowWay rowSeen prints homeward x2 _ hc_15) nx_FA qS_RX11_90 ⟨rfl, rfl⟩ ⟨Nat.le_of_ble_eq_true rfl, Nat.le_of_ble_eq_true rfl⟩ ⟨Nat.zero_le _, Nat.zero_le _⟩ rfl rfl hl.1 (Nat.le_of_ble_eq_true rfl) dX11_apart_8) hS nx_FA (fun H locs hP hS => ?_)
    refine lv_if_ne (tgt := 16) hx hb dX11_apart_11 (by decide) (fun hc => ?_) (fun hc => ?_)
    · have h := nx_if h hc
      refine lv_iconst (v := 0) hx hb dX11_apart_16 (by decide) ?_
      refine lv_istore_n (lv' := [(3, .int 0), (0, .ref (a 0)), (1, .int x1), (2, .int x2)]) hx hb dX11_apart_17 rfl hl (by decide) rfl (fun ls hl => ?_)
      obtain ⟨z_17, hz_18, h⟩ := nx_bd h
      refine L18 _ _ N _ _ _ hz_18 H locs ls hP hS (lv_sub hl [1, 2, 3, 0] rfl) (fun H locs ls hP hS hl => ?_)
      refine lv_iconst (v := 0) hx hb dX11_apart_47 (by decide) ?_
      refine lv_istore_n (lv' := [(3, .int 0), (0, .ref (a 0)), (2, .int x2)]) hx hb dX11_apart_48 rfl hl (by decide) rfl (fun ls hl => ?_)
      obtain ⟨z_19, hz_20, h⟩ := nx_bd h
      refine L49 _ N _ _ _ hz_20 H locs ls hP hS (lv_sub hl [1, 2, 0] rfl) (fun H locs ls hP hS hl => ?_)
      refine lv_aload_n hx hb dX11_apart_131 rfl (lv_at hl 0 rfl) ?_
      refine nx_gf X hP uw_X11 (ci := 10) rfl 0 rfl 4 (by decide) wf_RX11_22 rfl dX11_apart_132 ?_
      refine lv_iload_n hx hb dX11_apart_135 rfl (lv_at hl 1 rfl) ?_
      obtain ⟨hv_21, h⟩ := nx_rb h
      refine nx_ld X hP 5 rfl hv_21 dX11_apart_136 ?_
      exact kr 137 ls (z_19 x2.toNatClampNeg) z_19 H locs dX11_apart_137 (Option.some.inj h) hP hS
    · have h := nx_it h hc
      refine lv_iconst (v := (-1)) hx hb dX11_apart_14 (by decide) ?_
      exact kr 15 ls (-1) off H locs dX11_apart_15 (Option.some.inj h) hP hS
def f_X11_cells  (wide : Int32) (tall : Int32) : Option (Int32) :=
  some (wide * tall)
set_option maxHeartbeats 4000000 in
set_option maxRecDepth 100000 in
theorem c_X11_cells (l : Launch) (E : nx_E) (sz : Nat) (a : Nat → Nat) (wide : Int32) (tall : Int32) (groups : Int32) (tours : Int32) (tourLength : Int32) (rowMany : Int32) (cameBy : Int32) (top : Nat → Int32) (east : Nat → Int32) (south : Nat → Int32) (rolled : Nat → Int32) (off : Nat → Int32) (kind : Nat → Int32) (mark : Nat → Int32) (rolls : Nat → Int32) (many : Nat → Int64) (onward : Nat → Int32) (at_ : Nat → Int32) (goes : Nat → Int32) (firstTour : Nat → Int32) (rowWay : Nat → Int32) (rowSeen : Nat → Int32) (prints : Nat → Int32) (homeward : Nat → Int32)  (o : Int32) (h : f_X11_cells wide tall = some o) : Met l yX11_cells (.code yX11_cells cX11_cells 1 (some .int) :: nx_T) (nx_rm 0 0) (va_Pc [.ref (a 0)] (nx_P E (nx_F) sz (mW E a wide tall groups tours tourLength rowMany cameBy top east south rolled off kind mark rolls many onward at_ goes firstTour rowWay rowSeen prints homeward))) (va_Qi (fun v (_ : Unit) => v = o) (fun _ t => va_P E.1 vwCl (mW E a wide tall groups tours tourLength rowMany cameBy top east south rolled off kind mark rolls many onward at_ goes firstTour rowWay rowSeen prints homeward) t.heap) (nx_F)) 0 0 (nx_F) := by
  refine nx_enI (fun v (_ : Unit) => v = o) (fun (_ : Unit) => (mW E a wide tall groups tours tourLength rowMany cameBy top east south rolled off kind mark rolls many onward at_ goes firstTour rowWay rowSeen prints homeward)) (by decide) (Nat.le_of_ble_eq_true rfl) ?_
  intro p e s m below meth c Q X kr hsz hP ls hl
  subst hsz
  generalize hargs : (List.toArray [.ref (a 0)] : Array Value) = args at X kr ⊢
  clear hargs
  obtain ⟨⟨hx, hb, hml, hown, hts⟩, hK, hSt, hNz⟩ := id X
  have hS : va_S (nx_F) s.heap s.heap [] := va_S.rf
  have hl : lv_has ls 1 [(0, .ref (a 0))] := hl
  unfold f_X11_cells at h
  suffices hw : ∀ (H : Heap) (locs : List Loc), va_P E.1 vwCl (mW E a wide tall groups tours tourLength rowMany cameBy top east south rolled off kind mark rolls many onward at_ goes firstTour rowWay rowSeen prints homeward) H → va_S (nx_F) s.heap H locs → W p l e (nx_rm 0 0) s m args below meth c H locs 0 0 Q (F0 m 0 ls []) from hw _ _ hP va_S.rf
  intro H locs hP hS
  refine lv_aload_n hx hb dX11_cells_0 rfl (lv_at hl 0 rfl) ?_
  refine nx_gf X hP uw_X11 (ci := 10) rfl 0 rfl 5 (by decide) wf_RX11_25 rfl dX11_cells_1 ?_
  refine lv_aload_n hx hb dX11_cells_4 rfl (lv_at hl 0 rfl) ?_
  refine nx_gf X hP uw_X11 (ci := 10) rfl 0 rfl 6 (by decide) wf_RX11_29 rfl dX11_cells_5 ?_
  refine lv_imul hx hb dX11_cells_8 ?_
  exact kr 9 ls (wide * tall) () H locs dX11_cells_9 (Option.some.inj h) hP hS
def f_X11_isCell (x1 : Int32) (wide : Int32) (tall : Int32) : Option (Int32) :=
  (f_X11_cells wide tall).bind fun r_2 => (f_X11_in ((x1 : Int32).toInt64) 0 (((r_2 - 1) : Int32).toInt64)).bind fun r_4 => (nx_b r_4).bind fun _ => some r_4
set_option maxHeartbeats 4000000 in
set_option maxRecDepth 100000 in
theorem c_X11_isCell (l : Launch) (E : nx_E) (sz : Nat) (a : Nat → Nat) (wide : Int32) (tall : Int32) (groups : Int32) (tours : Int32) (tourLength : Int32) (rowMany : Int32) (cameBy : Int32) (top : Nat → Int32) (east : Nat → Int32) (south : Nat → Int32) (rolled : Nat → Int32) (off : Nat → Int32) (kind : Nat → Int32) (mark : Nat → Int32) (rolls : Nat → Int32) (many : Nat → Int64) (onward : Nat → Int32) (at_ : Nat → Int32) (goes : Nat → Int32) (firstTour : Nat → Int32) (rowWay : Nat → Int32) (rowSeen : Nat → Int32) (prints : Nat → Int32) (homeward : Nat → Int32) (x1 : Int32) (o : Int32) (h : f_X11_isCell x1 wide tall = some o) : Met l yX11_isCell (.code yX11_isCell cX11_isCell 2 (some .boolean) :: nx_T) (nx_rm 1 25) (va_Pc [.ref (a 0), .int x1] (nx_P E (nx_F) sz (mW E a wide tall groups tours tourLength rowMany cameBy top east south rolled off kind mark rolls many onward at_ goes firstTour rowWay rowSeen prints homeward))) (va_Qi (fun v (_ : Unit) => v = o) (fun _ t => va_P E.1 vwCl (mW E a wide tall groups tours tourLength rowMany cameBy top east south rolled off kind mark rolls many onward at_ goes firstTour rowWay rowSeen prints homeward) t.heap) (nx_F)) 0 0 (nx_F) := by
  refine nx_enZ (fun v (_ : Unit) => v = o) (fun (_ : Unit) => (mW E a wide tall groups tours tourLength rowMany cameBy top east south rolled off kind mark rolls many onward at_ goes firstTour rowWay rowSeen prints homeward)) (by decide) (Nat.le_of_ble_eq_true rfl) ?_
  intro p e s m below meth c Q X kr hsz hP ls hl
  subst hsz
  generalize hargs : (List.toArray [.ref (a 0), .int x1] : Array Value) = args at X kr ⊢
  clear hargs
  obtain ⟨⟨hx, hb, hml, hown, hts⟩, hK, hSt, hNz⟩ := id X
  have hS : va_S (nx_F) s.heap s.heap [] := va_S.rf
  have hl : lv_has ls 2 [(0, .ref (a 0)), (1, .int x1)] := hl
  unfold f_X11_isCell at h
  suffices hw : ∀ (H : Heap) (locs : List Loc), va_P E.1 vwCl (mW E a wide tall groups tours tourLength rowMany cameBy top east south rolled off kind mark rolls many onward at_ goes firstTour rowWay rowSeen prints homeward) H → va_S (nx_F) s.heap H locs → W p l e (nx_rm 1 25) s m args below meth c H locs 0 0 Q (F0 m 0 ls []) from hw _ _ hP va_S.rf
  intro H locs hP hS
  refine lv_iload_n hx hb dX11_isCell_0 rfl (lv_at hl 1 rfl) ?_
  refine lv_i2l (v := (x1 : Int32).toInt64) hx hb dX11_isCell_1 rfl ?_
  refine lv_lconst (v := 0) hx hb dX11_isCell_2 (by decide) ?_
  refine lv_aload_n hx hb dX11_isCell_3 rfl (lv_at hl 0 rfl) ?_
  obtain ⟨r_2, hc_1, h⟩ := nx_bd h
  refine nx_ki (nx_runV (As := []) (rest := [.long 0, .long ((x1 : Int32).toInt64)]) X hS hP (c_X11_cells l E H.size a wide tall groups tours tourLength rowMany cameBy top east south rolled off kind mark rolls many onward at_ goes firstTour rowWay rowSeen prints homeward _ hc_1) nx_FA qV_RX11_100 ⟨rfl, rfl⟩ ⟨Nat.le_of_ble_eq_true rfl, Nat.le_of_ble_eq_true rfl⟩ ⟨Nat.zero_le _, Nat.zero_le _⟩ 0 rfl rfl rfl rfl hl.1 (Nat.le_of_ble_eq_true rfl) dX11_isCell_4) hS nx_FA (fun H locs hP hS => ?_)
  refine lv_iconst (v := 1) hx hb dX11_isCell_7 (by decide) ?_
  refine lv_isub hx hb dX11_isCell_8 ?_
  refine lv_i2l (v := ((r_2 - 1) : Int32).toInt64) hx hb dX11_isCell_9 rfl ?_
  obtain ⟨r_4, hc_3, h⟩ := nx_bd h
  refine nx_ki (nx_runS (As := [.long ((x1 : Int32).toInt64), .long 0, .long (((r_2 - 1) : Int32).toInt64)]) (rest := []) X hS hP (c_X11_in l E H.size a wide tall groups tours tourLength rowMany cameBy top east south rolled off kind mark rolls many onward at_ goes firstTour rowWay rowSeen prints homeward ((x1 : Int32).toInt64) 0 (((r_2 - 1) : Int32).toInt64) _ hc_3) nx_FA qS_RX11_84 ⟨rfl, rfl⟩ ⟨Nat.le_of_ble_eq_true rfl, Nat.le_of_ble_eq_true rfl⟩ ⟨Nat.zero_le _, Nat.zero_le _⟩ rfl rfl hl.1 (Nat.le_of_ble_eq_true rfl) dX11_isCell_10) hS nx_FA (fun H locs hP hS => ?_)
  obtain ⟨hz, h⟩ := nx_bb h
  exact kr 13 ls r_4 () H locs dX11_isCell_13 hz (Option.some.inj h) hP hS
def f_X11_board_b48 (x1 : Int32) (x2 : Int32) (rec : (Int32 × (Nat → Int32) × (Nat → Int32)) → Option ((Nat → Int32) × (Nat → Int32))) (x3 : Int32) (kind : Nat → Int32) (mark : Nat → Int32) : Option ((Nat → Int32) × (Nat → Int32)) :=
  if 25 ≤ x3 then (some (kind, mark)) else ((nx_ck 25 x3).bind fun _ => (nx_ck 25 x3).bind fun _ => rec ((x3 + 1), (upd kind x3.toNatClampNeg 0), (upd mark x3.toNatClampNeg 0)))
def f_X11_board_l48 (x1 : Int32) (x2 : Int32) : Nat → (Int32 × (Nat → Int32) × (Nat → Int32)) → Option ((Nat → Int32) × (Nat → Int32)) := nx_lp (fun rec z => f_X11_board_b48 x1 x2 rec z.1 z.2.1 z.2.2)
def f_X11_board (N : Nat) (x1 : Int32) (x2 : Int32) (wide : Int32) (tall : Int32) (groups : Int32) (kind : Nat → Int32) (mark : Nat → Int32) : Option (Int32 × (Int32 × Int32 × Int32 × (Nat → Int32) × (Nat → Int32))) :=
  (f_X11_in ((x1 : Int32).toInt64) 2 5).bind fun r_4 => if r_4 = 0 then (some ((-2), (wide, tall, groups, kind, mark))) else ((f_X11_in ((x2 : Int32).toInt64) 2 5).bind fun r_6 => if r_6 = 0 then (some ((-2), (wide, tall, groups, kind, mark))) else ((f_X11_board_l48 x1 x2 N (0, kind, mark)).bind fun z_7 => some ((x1 * x2), (x1, x2, 0, z_7.1, z_7.2))))
set_option maxHeartbeats 4000000 in
set_option maxRecDepth 100000 in
theorem c_X11_board (l : Launch) (N : Nat) (E : nx_E) (sz : Nat) (a : Nat → Nat) (wide : Int32) (tall : Int32) (groups : Int32) (tours : Int32) (tourLength : Int32) (rowMany : Int32) (cameBy : Int32) (top : Nat → Int32) (east : Nat → Int32) (south : Nat → Int32) (rolled : Nat → Int32) (off : Nat → Int32) (kind : Nat → Int32) (mark : Nat → Int32) (rolls : Nat → Int32) (many : Nat → Int64) (onward : Nat → Int32) (at_ : Nat → Int32) (goes : Nat → Int32) (firstTour : Nat → Int32) (rowWay : Nat → Int32) (rowSeen : Nat → Int32) (prints : Nat → Int32) (homeward : Nat → Int32) (x1 : Int32) (x2 : Int32) (hI : nx_inj a 18) (o : Int32 × (Int32 × Int32 × Int32 × (Nat → Int32) × (Nat → Int32))) (h : f_X11_board N x1 x2 wide tall groups kind mark = some o) : Met l yX11_board (.code yX11_board cX11_board 4 (some .int) :: nx_T) (nx_rm 1 25) (va_Pc [.ref (a 0), .int x1, .int x2] (nx_P E (nx_A a 18 sz) sz (mW E a wide tall groups tours tourLength rowMany cameBy top east south rolled off kind mark rolls many onward at_ goes firstTour rowWay rowSeen prints homeward))) (va_Qi (fun v u => (v, u) = o) (fun u t => va_P E.1 vwCl (mW E a (u.1) (u.2.1) (u.2.2.1) tours tourLength rowMany cameBy top east south rolled off (u.2.2.2.1) (u.2.2.2.2) rolls many onward at_ goes firstTour rowWay rowSeen prints homeward) t.heap) (nx_A a 18 sz)) 0 0 (nx_A a 18 sz) := by
  refine nx_enI (fun v u => (v, u) = o) (fun (u : Int32 × Int32 × Int32 × (Nat → Int32) × (Nat → Int32)) => (mW E a (u.1) (u.2.1) (u.2.2.1) tours tourLength rowMany cameBy top east south rolled off (u.2.2.2.1) (u.2.2.2.2) rolls many onward at_ goes firstTour rowWay rowSeen prints homeward)) (by decide) (Nat.le_of_ble_eq_true rfl) ?_
  intro p e s m below meth c Q X kr hsz hP ls hl
  subst hsz
  generalize hargs : (List.toArray [.ref (a 0), .int x1, .int x2] : Array Value) = args at X kr ⊢
  clear hargs
  obtain ⟨⟨hx, hb, hml, hown, hts⟩, hK, hSt, hNz⟩ := id X
  have hS : va_S (nx_A a 18 s.heap.size) s.heap s.heap [] := va_S.rf
  have hl : lv_has ls 4 [(0, .ref (a 0)), (1, .int x1), (2, .int x2)] := hl
  have L48 : ∀ (x1 : Int32) (x2 : Int32) (wide : Int32) (tall : Int32) (groups : Int32) (n : Nat) (x3 : Int32) (kind : Nat → Int32) (mark : Nat → Int32) (z : ((Nat → Int32) × (Nat → Int32))), f_X11_board_l48 x1 x2 n (x3, kind, mark) = some z → ∀ (H : Heap) (locs : List Loc) (ls : Array Slot), va_P E.1 vwCl (mW E a wide tall groups tours tourLength rowMany cameBy top east south rolled off kind mark rolls many onward at_ goes firstTour rowWay rowSeen prints homeward) H → va_S (nx_A a 18 s.heap.size) s.heap H locs → lv_has ls 4 [(0, .ref (a 0)), (1, .int x1), (2, .int x2), (3, .int x3)] → ∀ (kR : ∀ (H : Heap) (locs : List Loc) (ls : Array Slot), va_P E.1 vwCl (mW E a wide tall groups tours tourLength rowMany cameBy top east south rolled off (z.1) (z.2) rolls many onward at_ goes firstTour rowWay rowSeen prints homeward) H → va_S (nx_A a 18 s.heap.size) s.heap H locs → lv_has ls 4 [(0, .ref (a 0)), (1, .int x1), (2, .int x2)] → W p l e (nx_rm 1 25) s m args below meth c H locs 0 0 Q (F0 m 74 ls [])), W p l e (nx_rm 1 25) s m args below meth c H locs 0 0 Q (F0 m 48 ls []) := by
   intro x1 x2 wide tall groups n
   induction n with
   | zero => intro x3 kind mark z h; exact nomatch (show none = some z from h)
   | succ n ih =>
    intro x3 kind mark z h H locs ls hP hS hl kR
    have h : f_X11_board_b48 x1 x2 (f_X11_board_l48 x1 x2 n) x3 kind mark = some z := h
    unfold f_X11_board_b48 at h
    refine lv_iload_n hx hb dX11_board_48 rfl (lv_at hl 3 rfl) ?_
    refine lv_bipush (v := 25) hx hb dX11_board_49 (by decide) ?_
    refine lv_icmp_ge (tgt := 74) hx hb dX11_board_51 (by decide) (fun hc => ?_) (fun hc => ?_)
    · have h := nx_it h hc
      obtain rfl := Option.some.inj h
      exact kR H locs ls hP hS (lv_sub hl [0, 1, 2] rfl)
    · have h := nx_if h hc
      refine lv_aload_n hx hb dX11_board_54 rfl (lv_at hl 0 rfl) ?_
      refine nx_gf X hP uw_X11 (ci := 10) rfl 0 rfl 7 (by decide) wf_RX11_32 rfl dX11_board_55 ?_
      refine lv_iload_n hx hb dX11_board_58 rfl (lv_at hl 3 rfl) ?_
      refine lv_iconst (v := 0) hx hb dX11_board_59 (by decide) ?_
      obtain ⟨hv_1, h⟩ := nx_cb h
      refine nx_st X hI mW_ad hP hS 6 rfl hv_1 dX11_board_60 (fun H locs hP hS => ?_)
      have hP : va_P E.1 vwCl (mW E a wide tall groups tours tourLength rowMany cameBy top east south rolled off (upd kind x3.toNatClampNeg 0) mark rolls many onward at_ goes firstTour rowWay rowSeen prints homeward) H := hP
      refine lv_aload_n hx hb dX11_board_61 rfl (lv_at hl 0 rfl) ?_
      refine nx_gf X hP uw_X11 (ci := 10) rfl 0 rfl 8 (by decide) wf_RX11_35 rfl dX11_board_62 ?_
      refine lv_iload_n hx hb dX11_board_65 rfl (lv_at hl 3 rfl) ?_
      refine lv_iconst (v := 0) hx hb dX11_board_66 (by decide) ?_
      obtain ⟨hv_2, h⟩ := nx_cb h
      refine nx_st X hI mW_ad hP hS 7 rfl hv_2 dX11_board_67 (fun H locs hP hS => ?_)
      have hP : va_P E.1 vwCl (mW E a wide tall groups tours tourLength rowMany cameBy top east south rolled off (upd kind x3.toNatClampNeg 0) (upd mark x3.toNatClampNeg 0) rolls many onward at_ goes firstTour rowWay rowSeen prints homeward) H := hP
      refine lv_iinc (v := (x3 + 1)) (lv' := [(3, .int (x3 + 1)), (0, .ref (a 0)), (1, .int x1), (2, .int x2)]) hx hb dX11_board_68 hl (k := 3) rfl rfl (by decide) rfl (fun ls hl => ?_)
      refine lv_goto (tgt := 48) hx hb dX11_board_71 (by decide) ?_
      exact ih _ _ _ z h H locs ls hP hS (lv_sub hl [1, 2, 3, 0] rfl) kR
  unfold f_X11_board at h
  suffices hw : ∀ (H : Heap) (locs : List Loc), va_P E.1 vwCl (mW E a wide tall groups tours tourLength rowMany cameBy top east south rolled off kind mark rolls many onward at_ goes firstTour rowWay rowSeen prints homeward) H → va_S (nx_A a 18 s.heap.size) s.heap H locs → W p l e (nx_rm 1 25) s m args below meth c H locs 0 0 Q (F0 m 0 ls []) from hw _ _ hP va_S.rf
  intro H locs hP hS
  refine lv_iload_n hx hb dX11_board_0 rfl (lv_at hl 1 rfl) ?_
  refine lv_i2l (v := (x1 : Int32).toInt64) hx hb dX11_board_1 rfl ?_
  refine lv_ldc2 hx hb hown (hts _ wl_RX11_104) dX11_board_2 ?_
  refine lv_ldc2 hx hb hown (hts _ wl_RX11_106) dX11_board_5 ?_
  obtain ⟨r_4, hc_3, h⟩ := nx_bd h
  refine nx_ki (nx_runS (As := [.long ((x1 : Int32).toInt64), .long 2, .long 5]) (rest := []) X hS hP (c_X11_in l E H.size a wide tall groups tours tourLength rowMany cameBy top east south rolled off kind mark rolls many onward at_ goes firstTour rowWay rowSeen prints homeward ((x1 : Int32).toInt64) 2 5 _ hc_3) nx_FA qS_RX11_84 ⟨rfl, rfl⟩ ⟨Nat.le_of_ble_eq_true rfl, Nat.le_of_ble_eq_true rfl⟩ ⟨Nat.zero_le _, Nat.zero_le _⟩ rfl rfl hl.1 (Nat.le_of_ble_eq_true rfl) dX11_board_8) hS nx_FA (fun H locs hP hS => ?_)
  refine lv_if_eq (tgt := 28) hx hb dX11_board_11 (by decide) (fun hc => ?_) (fun hc => ?_)
  · have h := nx_it h hc
    refine lv_bipush (v := (-2)) hx hb dX11_board_28 (by decide) ?_
    exact kr 30 ls (-2) (wide, tall, groups, kind, mark) H locs dX11_board_30 (Option.some.inj h) hP hS
  · have h := nx_if h hc
    refine lv_iload_n hx hb dX11_board_14 rfl (lv_at hl 2 rfl) ?_
    refine lv_i2l (v := (x2 : Int32).toInt64) hx hb dX11_board_15 rfl ?_
    refine lv_ldc2 hx hb hown (hts _ wl_RX11_104) dX11_board_16 ?_
    refine lv_ldc2 hx hb hown (hts _ wl_RX11_106) dX11_board_19 ?_
    obtain ⟨r_6, hc_5, h⟩ := nx_bd h
    refine nx_ki (nx_runS (As := [.long ((x2 : Int32).toInt64), .long 2, .long 5]) (rest := []) X hS hP (c_X11_in l E H.size a wide tall groups tours tourLength rowMany cameBy top east south rolled off kind mark rolls many onward at_ goes firstTour rowWay rowSeen prints homeward ((x2 : Int32).toInt64) 2 5 _ hc_5) nx_FA qS_RX11_84 ⟨rfl, rfl⟩ ⟨Nat.le_of_ble_eq_true rfl, Nat.le_of_ble_eq_true rfl⟩ ⟨Nat.zero_le _, Nat.zero_le _⟩ rfl rfl hl.1 (Nat.le_of_ble_eq_true rfl) dX11_board_22) hS nx_FA (fun H locs hP hS => ?_)
    refine lv_if_ne (tgt := 31) hx hb dX11_board_25 (by decide) (fun hc => ?_) (fun hc => ?_)
    · have h := nx_if h hc
      refine lv_aload_n hx hb dX11_board_31 rfl (lv_at hl 0 rfl) ?_
      refine lv_iload_n hx hb dX11_board_32 rfl (lv_at hl 1 rfl) ?_
      refine nx_pf (ty := .int) (v := .int x1) X hI mW_ad hP hS uw_X11 tyX11 tyX11_ok nmX11 (ci := 10) rfl 0 rfl 5 (by decide) wf_RX11_25 rfl (by decide +kernel) rfl rfl (Nat.le_of_ble_eq_true rfl) dX11_board_33 (fun H locs hP hS => ?_)
      have hP : va_P E.1 vwCl (mW E a x1 tall groups tours tourLength rowMany cameBy top east south rolled off kind mark rolls many onward at_ goes firstTour rowWay rowSeen prints homeward) H := hP
      refine lv_aload_n hx hb dX11_board_36 rfl (lv_at hl 0 rfl) ?_
      refine lv_iload_n hx hb dX11_board_37 rfl (lv_at hl 2 rfl) ?_
      refine nx_pf (ty := .int) (v := .int x2) X hI mW_ad hP hS uw_X11 tyX11 tyX11_ok nmX11 (ci := 10) rfl 0 rfl 6 (by decide) wf_RX11_29 rfl (by decide +kernel) rfl rfl (Nat.le_of_ble_eq_true rfl) dX11_board_38 (fun H locs hP hS => ?_)
      have hP : va_P E.1 vwCl (mW E a x1 x2 groups tours tourLength rowMany cameBy top east south rolled off kind mark rolls many onward at_ goes firstTour rowWay rowSeen prints homeward) H := hP
      refine lv_aload_n hx hb dX11_board_41 rfl (lv_at hl 0 rfl) ?_
      refine lv_iconst (v := 0) hx hb dX11_board_42 (by decide) ?_
      refine nx_pf (ty := .int) (v := .int 0) X hI mW_ad hP hS uw_X11 tyX11 tyX11_ok nmX11 (ci := 10) rfl 0 rfl 9 (by decide) wf_RX11_108 rfl (by decide +kernel) rfl rfl (Nat.le_of_ble_eq_true rfl) dX11_board_43 (fun H locs hP hS => ?_)
      have hP : va_P E.1 vwCl (mW E a x1 x2 0 tours tourLength rowMany cameBy top east south rolled off kind mark rolls many onward at_ goes firstTour rowWay rowSeen prints homeward) H := hP
      refine lv_iconst (v := 0) hx hb dX11_board_46 (by decide) ?_
      refine lv_istore_n (lv' := [(3, .int 0), (0, .ref (a 0)), (1, .int x1), (2, .int x2)]) hx hb dX11_board_47 rfl hl (by decide) rfl (fun ls hl => ?_)
      obtain ⟨z_7, hz_8, h⟩ := nx_bd h
      refine L48 _ _ _ _ _ N _ _ _ _ hz_8 H locs ls hP hS (lv_sub hl [1, 2, 3, 0] rfl) (fun H locs ls hP hS hl => ?_)
      refine lv_iload_n hx hb dX11_board_74 rfl (lv_at hl 1 rfl) ?_
      refine lv_iload_n hx hb dX11_board_75 rfl (lv_at hl 2 rfl) ?_
      refine lv_imul hx hb dX11_board_76 ?_
      exact kr 77 ls (x1 * x2) (x1, x2, 0, z_7.1, z_7.2) H locs dX11_board_77 (Option.some.inj h) hP hS
    · have h := nx_it h hc
      refine lv_bipush (v := (-2)) hx hb dX11_board_28 (by decide) ?_
      exact kr 30 ls (-2) (wide, tall, groups, kind, mark) H locs dX11_board_30 (Option.some.inj h) hP hS
def f_X11_cell_j107 (x4 : Int32) (s0 : Int32) (s1 : Int32) (kind : Nat → Int32) (mark : Nat → Int32) : Option (Int32 × ((Nat → Int32) × (Nat → Int32))) :=
  (nx_ck 25 s1).bind fun _ => some (x4, (kind, (upd mark s1.toNatClampNeg s0)))
def f_X11_cell_j86 (x1 : Int32) (x2 : Int32) (x3 : Int32) (x4 : Int32) (s0 : Int32) (s1 : Int32) (kind : Nat → Int32) (mark : Nat → Int32) : Option (Int32 × ((Nat → Int32) × (Nat → Int32))) :=
  (nx_ck 25 s1).bind fun _ => if x2 = 1 then (f_X11_cell_j107 x4 x3 x1 (upd kind s1.toNatClampNeg s0) mark) else ((nx_rd mark 25 x1).bind fun _ => f_X11_cell_j107 x4 (mark x1.toNatClampNeg) x1 (upd kind s1.toNatClampNeg s0) mark)
def f_X11_cell_j65 (x1 : Int32) (x2 : Int32) (x3 : Int32) (s0 : Int32) (kind : Nat → Int32) (mark : Nat → Int32) : Option (Int32 × ((Nat → Int32) × (Nat → Int32))) :=
  if x2 = 0 then (f_X11_cell_j86 x1 x2 x3 s0 x3 x1 kind mark) else ((nx_rd kind 25 x1).bind fun _ => f_X11_cell_j86 x1 x2 x3 s0 (kind x1.toNatClampNeg) x1 kind mark)
def f_X11_cell_j46 (x1 : Int32) (x2 : Int32) (x3 : Int32) (kind : Nat → Int32) (mark : Nat → Int32) : Option (Int32 × ((Nat → Int32) × (Nat → Int32))) :=
  if x2 = 0 then ((nx_rd kind 25 x1).bind fun _ => f_X11_cell_j65 x1 x2 x3 (kind x1.toNatClampNeg) kind mark) else ((nx_rd mark 25 x1).bind fun _ => f_X11_cell_j65 x1 x2 x3 (mark x1.toNatClampNeg) kind mark)
def f_X11_cell_j26 (x1 : Int32) (x2 : Int32) (x3 : Int32) (kind : Nat → Int32) (mark : Nat → Int32) : Option (Int32 × ((Nat → Int32) × (Nat → Int32))) :=
  if x2 = 1 then ((f_X11_in ((x3 : Int32).toInt64) 0 6).bind fun r_12 => if r_12 = 0 then (some ((-2), (kind, mark))) else (f_X11_cell_j46 x1 x2 x3 kind mark)) else (some ((-2), (kind, mark)))
def f_X11_cell (x1 : Int32) (x2 : Int32) (x3 : Int32) (wide : Int32) (tall : Int32) (kind : Nat → Int32) (mark : Nat → Int32) : Option (Int32 × ((Nat → Int32) × (Nat → Int32))) :=
  (f_X11_isCell x1 wide tall).bind fun r_14 => if r_14 = 0 then (some ((-1), (kind, mark))) else (if x2 = 0 then ((f_X11_in ((x3 : Int32).toInt64) 0 8).bind fun r_16 => if r_16 = 0 then (f_X11_cell_j26 x1 x2 x3 kind mark) else (f_X11_cell_j46 x1 x2 x3 kind mark)) else (f_X11_cell_j26 x1 x2 x3 kind mark))
set_option maxHeartbeats 4000000 in
set_option maxRecDepth 100000 in
theorem c_X11_cell (l : Launch) (E : nx_E) (sz : Nat) (a : Nat → Nat) (wide : Int32) (tall : Int32) (groups : Int32) (tours : Int32) (tourLength : Int32) (rowMany : Int32) (cameBy : Int32) (top : Nat → Int32) (east : Nat → Int32) (south : Nat → Int32) (rolled : Nat → Int32) (off : Nat → Int32) (kind : Nat → Int32) (mark : Nat → Int32) (rolls : Nat → Int32) (many : Nat → Int64) (onward : Nat → Int32) (at_ : Nat → Int32) (goes : Nat → Int32) (firstTour : Nat → Int32) (rowWay : Nat → Int32) (rowSeen : Nat → Int32) (prints : Nat → Int32) (homeward : Nat → Int32) (x1 : Int32) (x2 : Int32) (x3 : Int32) (hI : nx_inj a 18) (o : Int32 × ((Nat → Int32) × (Nat → Int32))) (h : f_X11_cell x1 x2 x3 wide tall kind mark = some o) : Met l yX11_cell (.code yX11_cell cX11_cell 5 (some .int) :: nx_T) (nx_rm 2 46) (va_Pc [.ref (a 0), .int x1, .int x2, .int x3] (nx_P E (nx_A a 18 sz) sz (mW E a wide tall groups tours tourLength rowMany cameBy top east south rolled off kind mark rolls many onward at_ goes firstTour rowWay rowSeen prints homeward))) (va_Qi (fun v u => (v, u) = o) (fun u t => va_P E.1 vwCl (mW E a wide tall groups tours tourLength rowMany cameBy top east south rolled off (u.1) (u.2) rolls many onward at_ goes firstTour rowWay rowSeen prints homeward) t.heap) (nx_A a 18 sz)) 0 0 (nx_A a 18 sz) := by
  refine nx_enI (fun v u => (v, u) = o) (fun (u : (Nat → Int32) × (Nat → Int32)) => (mW E a wide tall groups tours tourLength rowMany cameBy top east south rolled off (u.1) (u.2) rolls many onward at_ goes firstTour rowWay rowSeen prints homeward)) (by decide) (Nat.le_of_ble_eq_true rfl) ?_
  intro p e s m below meth c Q X kr hsz hP ls hl
  subst hsz
  generalize hargs : (List.toArray [.ref (a 0), .int x1, .int x2, .int x3] : Array Value) = args at X kr ⊢
  clear hargs
  obtain ⟨⟨hx, hb, hml, hown, hts⟩, hK, hSt, hNz⟩ := id X
  have hS : va_S (nx_A a 18 s.heap.size) s.heap s.heap [] := va_S.rf
  have hl : lv_has ls 5 [(0, .ref (a 0)), (1, .int x1), (2, .int x2), (3, .int x3)] := hl
  have J107 : ∀ (x4 : Int32) (s0 : Int32) (s1 : Int32) (kind : Nat → Int32) (mark : Nat → Int32), f_X11_cell_j107 x4 s0 s1 kind mark = some o → ∀ (H : Heap) (locs : List Loc) (ls : Array Slot), va_P E.1 vwCl (mW E a wide tall groups tours tourLength rowMany cameBy top east south rolled off kind mark rolls many onward at_ goes firstTour rowWay rowSeen prints homeward) H → va_S (nx_A a 18 s.heap.size) s.heap H locs → lv_has ls 5 [(0, .ref (a 0)), (4, .int x4)] → W p l e (nx_rm 2 46) s m args below meth c H locs 0 0 Q (F0 m 107 ls [.int s0, .int s1, .ref (a 7)]) := by
    intro x4 s0 s1 kind mark h H locs ls hP hS hl
    unfold f_X11_cell_j107 at h
    obtain ⟨hv_1, h⟩ := nx_cb h
    refine nx_st X hI mW_ad hP hS 7 rfl hv_1 dX11_cell_107 (fun H locs hP hS => ?_)
    have hP : va_P E.1 vwCl (mW E a wide tall groups tours tourLength rowMany cameBy top east south rolled off kind (upd mark s1.toNatClampNeg s0) rolls many onward at_ goes firstTour rowWay rowSeen prints homeward) H := hP
    refine lv_iload hx hb dX11_cell_108 (lv_at hl 1 rfl) ?_
    exact kr 110 ls x4 (kind, (upd mark s1.toNatClampNeg s0)) H locs dX11_cell_110 (Option.some.inj h) hP hS
  have J86 : ∀ (x1 : Int32) (x2 : Int32) (x3 : Int32) (x4 : Int32) (s0 : Int32) (s1 : Int32) (kind : Nat → Int32) (mark : Nat → Int32), f_X11_cell_j86 x1 x2 x3 x4 s0 s1 kind mark = some o → ∀ (H : Heap) (locs : List Loc) (ls : Array Slot), va_P E.1 vwCl (mW E a wide tall groups tours tourLength rowMany cameBy top east south rolled off kind mark rolls many onward at_ goes firstTour rowWay rowSeen prints homeward) H → va_S (nx_A a 18 s.heap.size) s.heap H locs → lv_has ls 5 [(0, .ref (a 0)), (1, .int x1), (2, .int x2), (3, .int x3), (4, .int x4)] → W p l e (nx_rm 2 46) s m args below meth c H locs 0 0 Q (F0 m 86 ls [.int s0, .int s1, .ref (a 6)]) := by
    intro x1 x2 x3 x4 s0 s1 kind mark h H locs ls hP hS hl
    unfold f_X11_cell_j86 at h
    obtain ⟨hv_2, h⟩ := nx_cb h
    refine nx_st X hI mW_ad hP hS 6 rfl hv_2 dX11_cell_86 (fun H locs hP hS => ?_)
    have hP : va_P E.1 vwCl (mW E a wide tall groups tours tourLength rowMany cameBy top east south rolled off (upd kind s1.toNatClampNeg s0) mark rolls many onward at_ goes firstTour rowWay rowSeen prints homeward) H := hP
    refine lv_aload_n hx hb dX11_cell_87 rfl (lv_at hl 0 rfl) ?_
    refine nx_gf X hP uw_X11 (ci := 10) rfl 0 rfl 8 (by decide) wf_RX11_35 rfl dX11_cell_88 ?_
    refine lv_iload_n hx hb dX11_cell_91 rfl (lv_at hl 1 rfl) ?_
    refine lv_iload_n hx hb dX11_cell_92 rfl (lv_at hl 2 rfl) ?_
    refine lv_iconst (v := 1) hx hb dX11_cell_93 (by decide) ?_
    refine lv_icmp_ne (tgt := 101) hx hb dX11_cell_94 (by decide) (fun hc => ?_) (fun hc => ?_)
    · have h := nx_if h hc
      refine lv_aload_n hx hb dX11_cell_101 rfl (lv_at hl 0 rfl) ?_
      refine nx_gf X hP uw_X11 (ci := 10) rfl 0 rfl 8 (by decide) wf_RX11_35 rfl dX11_cell_102 ?_
      refine lv_iload_n hx hb dX11_cell_105 rfl (lv_at hl 1 rfl) ?_
      obtain ⟨hv_3, h⟩ := nx_rb h
      refine nx_ld X hP 7 rfl hv_3 dX11_cell_106 ?_
      exact J107 _ _ _ _ _ h H locs ls hP hS (lv_sub hl [0, 4] rfl)
    · have h := nx_it h hc
      refine lv_iload_n hx hb dX11_cell_97 rfl (lv_at hl 3 rfl) ?_
      refine lv_goto (tgt := 107) hx hb dX11_cell_98 (by decide) ?_
      exact J107 _ _ _ _ _ h H locs ls hP hS (lv_sub hl [0, 4] rfl)
  have J65 : ∀ (x1 : Int32) (x2 : Int32) (x3 : Int32) (s0 : Int32) (kind : Nat → Int32) (mark : Nat → Int32), f_X11_cell_j65 x1 x2 x3 s0 kind mark = some o → ∀ (H : Heap) (locs : List Loc) (ls : Array Slot), va_P E.1 vwCl (mW E a wide tall groups tours tourLength rowMany cameBy top east south rolled off kind mark rolls many onward at_ goes firstTour rowWay rowSeen prints homeward) H → va_S (nx_A a 18 s.heap.size) s.heap H locs → lv_has ls 5 [(0, .ref (a 0)), (1, .int x1), (2, .int x2), (3, .int x3)] → W p l e (nx_rm 2 46) s m args below meth c H locs 0 0 Q (F0 m 65 ls [.int s0]) := by
    intro x1 x2 x3 s0 kind mark h H locs ls hP hS hl
    unfold f_X11_cell_j65 at h
    refine lv_istore (lv' := [(4, .int s0), (0, .ref (a 0)), (1, .int x1), (2, .int x2), (3, .int x3)]) hx hb dX11_cell_65 hl (by decide) rfl (fun ls hl => ?_)
    refine lv_aload_n hx hb dX11_cell_67 rfl (lv_at hl 1 rfl) ?_
    refine nx_gf X hP uw_X11 (ci := 10) rfl 0 rfl 7 (by decide) wf_RX11_32 rfl dX11_cell_68 ?_
    refine lv_iload_n hx hb dX11_cell_71 rfl (lv_at hl 2 rfl) ?_
    refine lv_iload_n hx hb dX11_cell_72 rfl (lv_at hl 3 rfl) ?_
    refine lv_if_ne (tgt := 80) hx hb dX11_cell_73 (by decide) (fun hc => ?_) (fun hc => ?_)
    · have h := nx_if h hc
      refine lv_aload_n hx hb dX11_cell_80 rfl (lv_at hl 1 rfl) ?_
      refine nx_gf X hP uw_X11 (ci := 10) rfl 0 rfl 7 (by decide) wf_RX11_32 rfl dX11_cell_81 ?_
      refine lv_iload_n hx hb dX11_cell_84 rfl (lv_at hl 2 rfl) ?_
      obtain ⟨hv_5, h⟩ := nx_rb h
      refine nx_ld X hP 6 rfl hv_5 dX11_cell_85 ?_
      exact J86 _ _ _ _ _ _ _ _ h H locs ls hP hS (lv_sub hl [1, 2, 3, 4, 0] rfl)
    · have h := nx_it h hc
      refine lv_iload_n hx hb dX11_cell_76 rfl (lv_at hl 4 rfl) ?_
      refine lv_goto (tgt := 86) hx hb dX11_cell_77 (by decide) ?_
      exact J86 _ _ _ _ _ _ _ _ h H locs ls hP hS (lv_sub hl [1, 2, 3, 4, 0] rfl)
  have J46 : ∀ (x1 : Int32) (x2 : Int32) (x3 : Int32) (kind : Nat → Int32) (mark : Nat → Int32), f_X11_cell_j46 x1 x2 x3 kind mark = some o → ∀ (H : Heap) (locs : List Loc) (ls : Array Slot), va_P E.1 vwCl (mW E a wide tall groups tours tourLength rowMany cameBy top east south rolled off kind mark rolls many onward at_ goes firstTour rowWay rowSeen prints homeward) H → va_S (nx_A a 18 s.heap.size) s.heap H locs → lv_has ls 5 [(0, .ref (a 0)), (1, .int x1), (2, .int x2), (3, .int x3)] → W p l e (nx_rm 2 46) s m args below meth c H locs 0 0 Q (F0 m 46 ls []) := by
    intro x1 x2 x3 kind mark h H locs ls hP hS hl
    unfold f_X11_cell_j46 at h
    refine lv_iload_n hx hb dX11_cell_46 rfl (lv_at hl 2 rfl) ?_
    refine lv_if_ne (tgt := 59) hx hb dX11_cell_47 (by decide) (fun hc => ?_) (fun hc => ?_)
    · have h := nx_if h hc
      refine lv_aload_n hx hb dX11_cell_59 rfl (lv_at hl 0 rfl) ?_
      refine nx_gf X hP uw_X11 (ci := 10) rfl 0 rfl 8 (by decide) wf_RX11_35 rfl dX11_cell_60 ?_
      refine lv_iload_n hx hb dX11_cell_63 rfl (lv_at hl 1 rfl) ?_
      obtain ⟨hv_7, h⟩ := nx_rb h
      refine nx_ld X hP 7 rfl hv_7 dX11_cell_64 ?_
      exact J65 _ _ _ _ _ _ h H locs ls hP hS (lv_sub hl [0, 1, 2, 3] rfl)
    · have h := nx_it h hc
      refine lv_aload_n hx hb dX11_cell_50 rfl (lv_at hl 0 rfl) ?_
      refine nx_gf X hP uw_X11 (ci := 10) rfl 0 rfl 7 (by decide) wf_RX11_32 rfl dX11_cell_51 ?_
      refine lv_iload_n hx hb dX11_cell_54 rfl (lv_at hl 1 rfl) ?_
      obtain ⟨hv_9, h⟩ := nx_rb h
      refine nx_ld X hP 6 rfl hv_9 dX11_cell_55 ?_
      refine lv_goto (tgt := 65) hx hb dX11_cell_56 (by decide) ?_
      exact J65 _ _ _ _ _ _ h H locs ls hP hS (lv_sub hl [0, 1, 2, 3] rfl)
  have J26 : ∀ (x1 : Int32) (x2 : Int32) (x3 : Int32) (kind : Nat → Int32) (mark : Nat → Int32), f_X11_cell_j26 x1 x2 x3 kind mark = some o → ∀ (H : Heap) (locs : List Loc) (ls : Array Slot), va_P E.1 vwCl (mW E a wide tall groups tours tourLength rowMany cameBy top east south rolled off kind mark rolls many onward at_ goes firstTour rowWay rowSeen prints homeward) H → va_S (nx_A a 18 s.heap.size) s.heap H locs → lv_has ls 5 [(0, .ref (a 0)), (1, .int x1), (2, .int x2), (3, .int x3)] → W p l e (nx_rm 2 46) s m args below meth c H locs 0 0 Q (F0 m 26 ls []) := by
    intro x1 x2 x3 kind mark h H locs ls hP hS hl
    unfold f_X11_cell_j26 at h
    refine lv_iload_n hx hb dX11_cell_26 rfl (lv_at hl 2 rfl) ?_
    refine lv_iconst (v := 1) hx hb dX11_cell_27 (by decide) ?_
    refine lv_icmp_ne (tgt := 43) hx hb dX11_cell_28 (by decide) (fun hc => ?_) (fun hc => ?_)
    · have h := nx_if h hc
      refine lv_bipush (v := (-2)) hx hb dX11_cell_43 (by decide) ?_
      exact kr 45 ls (-2) (kind, mark) H locs dX11_cell_45 (Option.some.inj h) hP hS
    · have h := nx_it h hc
      refine lv_iload_n hx hb dX11_cell_31 rfl (lv_at hl 3 rfl) ?_
      refine lv_i2l (v := (x3 : Int32).toInt64) hx hb dX11_cell_32 rfl ?_
      refine lv_lconst (v := 0) hx hb dX11_cell_33 (by decide) ?_
      refine lv_ldc2 hx hb hown (hts _ wl_RX11_97) dX11_cell_34 ?_
      obtain ⟨r_12, hc_11, h⟩ := nx_bd h
      refine nx_ki (nx_runS (As := [.long ((x3 : Int32).toInt64), .long 0, .long 6]) (rest := []) X hS hP (c_X11_in l E H.size a wide tall groups tours tourLength rowMany cameBy top east south rolled off kind mark rolls many onward at_ goes firstTour rowWay rowSeen prints homeward ((x3 : Int32).toInt64) 0 6 _ hc_11) nx_FA qS_RX11_84 ⟨rfl, rfl⟩ ⟨Nat.le_of_ble_eq_true rfl, Nat.le_of_ble_eq_true rfl⟩ ⟨Nat.zero_le _, Nat.zero_le _⟩ rfl rfl hl.1 (Nat.le_of_ble_eq_true rfl) dX11_cell_37) hS nx_FA (fun H locs hP hS => ?_)
      refine lv_if_ne (tgt := 46) hx hb dX11_cell_40 (by decide) (fun hc => ?_) (fun hc => ?_)
      · have h := nx_if h hc
        exact J46 _ _ _ _ _ h H locs ls hP hS (lv_sub hl [0, 1, 2, 3] rfl)
      · have h := nx_it h hc
        refine lv_bipush (v := (-2)) hx hb dX11_cell_43 (by decide) ?_
        exact kr 45 ls (-2) (kind, mark) H locs dX11_cell_45 (Option.some.inj h) hP hS
  unfold f_X11_cell at h
  suffices hw : ∀ (H : Heap) (locs : List Loc), va_P E.1 vwCl (mW E a wide tall groups tours tourLength rowMany cameBy top east south rolled off kind mark rolls many onward at_ goes firstTour rowWay rowSeen prints homeward) H → va_S (nx_A a 18 s.heap.size) s.heap H locs → W p l e (nx_rm 2 46) s m args below meth c H locs 0 0 Q (F0 m 0 ls []) from hw _ _ hP va_S.rf
  intro H locs hP hS
  refine lv_aload_n hx hb dX11_cell_0 rfl (lv_at hl 0 rfl) ?_
  refine lv_iload_n hx hb dX11_cell_1 rfl (lv_at hl 1 rfl) ?_
  obtain ⟨r_14, hc_13, h⟩ := nx_bd h
  refine nx_ki (nx_runV (As := [.int x1]) (rest := []) X hS hP (c_X11_isCell l E H.size a wide tall groups tours tourLength rowMany cameBy top east south rolled off kind mark rolls many onward at_ goes firstTour rowWay rowSeen prints homeward x1 _ hc_13) nx_FA qV_RX11_111 ⟨rfl, rfl⟩ ⟨Nat.le_of_ble_eq_true rfl, Nat.le_of_ble_eq_true rfl⟩ ⟨Nat.zero_le _, Nat.zero_le _⟩ 0 rfl rfl rfl rfl hl.1 (Nat.le_of_ble_eq_true rfl) dX11_cell_2) hS nx_FA (fun H locs hP hS => ?_)
  refine lv_if_ne (tgt := 10) hx hb dX11_cell_5 (by decide) (fun hc => ?_) (fun hc => ?_)
  · have h := nx_if h hc
    refine lv_iload_n hx hb dX11_cell_10 rfl (lv_at hl 2 rfl) ?_
    refine lv_if_ne (tgt := 26) hx hb dX11_cell_11 (by decide) (fun hc => ?_) (fun hc => ?_)
    · have h := nx_if h hc
      exact J26 _ _ _ _ _ h H locs ls hP hS (lv_sub hl [0, 1, 2, 3] rfl)
    · have h := nx_it h hc
      refine lv_iload_n hx hb dX11_cell_14 rfl (lv_at hl 3 rfl) ?_
      refine lv_i2l (v := (x3 : Int32).toInt64) hx hb dX11_cell_15 rfl ?_
      refine lv_lconst (v := 0) hx hb dX11_cell_16 (by decide) ?_
      refine lv_ldc2 hx hb hown (hts _ wl_RX11_114) dX11_cell_17 ?_
      obtain ⟨r_16, hc_15, h⟩ := nx_bd h
      refine nx_ki (nx_runS (As := [.long ((x3 : Int32).toInt64), .long 0, .long 8]) (rest := []) X hS hP (c_X11_in l E H.size a wide tall groups tours tourLength rowMany cameBy top east south rolled off kind mark rolls many onward at_ goes firstTour rowWay rowSeen prints homeward ((x3 : Int32).toInt64) 0 8 _ hc_15) nx_FA qS_RX11_84 ⟨rfl, rfl⟩ ⟨Nat.le_of_ble_eq_true rfl, Nat.le_of_ble_eq_true rfl⟩ ⟨Nat.zero_le _, Nat.zero_le _⟩ rfl rfl hl.1 (Nat.le_of_ble_eq_true rfl) dX11_cell_20) hS nx_FA (fun H locs hP hS => ?_)
      refine lv_if_ne (tgt := 46) hx hb dX11_cell_23 (by decide) (fun hc => ?_) (fun hc => ?_)
      · have h := nx_if h hc
        exact J46 _ _ _ _ _ h H locs ls hP hS (lv_sub hl [0, 1, 2, 3] rfl)
      · have h := nx_it h hc
        exact J26 _ _ _ _ _ h H locs ls hP hS (lv_sub hl [0, 1, 2, 3] rfl)
  · have h := nx_it h hc
    refine lv_iconst (v := (-1)) hx hb dX11_cell_8 (by decide) ?_
    exact kr 9 ls (-1) (kind, mark) H locs dX11_cell_9 (Option.some.inj h) hP hS
