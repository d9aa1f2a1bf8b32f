def f_X11_layFrom_b10 (x1 : Int32) (x2 : Int32) (rec : (Int32 × (Nat → Int32) × (Nat → Int64)) → Option ((Nat → Int32) × (Nat → Int64))) (x3 : Int32) (rolls : Nat → Int32) (many : Nat → Int64) : Option ((Nat → Int32) × (Nat → Int64)) :=
  if x2 ≤ x3 then (some (rolls, many)) else ((nx_ck 600 x3).bind fun _ => (nx_ck 600 x3).bind fun _ => rec ((x3 + 1), (upd rolls x3.toNatClampNeg 100000000), (vp_updL many x3.toNatClampNeg 0)))
def f_X11_layFrom_l10 (x1 : Int32) (x2 : Int32) : Nat → (Int32 × (Nat → Int32) × (Nat → Int64)) → Option ((Nat → Int32) × (Nat → Int64)) := nx_lp (fun rec z => f_X11_layFrom_b10 x1 x2 rec z.1 z.2.1 z.2.2)
def f_X11_layFrom_j103 (rec : (Int32 × Int32 × (Nat → Int32) × (Nat → Int64)) → Option (Int32 × (Nat → Int32) × (Nat → Int64))) (x2 : Int32) (x3 : Int32) (x4 : Int32) (x5 : Int32) (s0 : Int32) (rolls : Nat → Int32) (many : Nat → Int64) : Option (Int32 × (Nat → Int32) × (Nat → Int64)) :=
  if s0 = (-9) then (rec (x3, (x5 + 1), rolls, many)) else ((nx_rd rolls 600 s0).bind fun _ => if (rolls s0.toNatClampNeg) ≤ x4 then (rec (x3, (x5 + 1), rolls, many)) else ((nx_ck 600 s0).bind fun _ => (nx_rd many 600 s0).bind fun _ => (nx_rd many 600 (x5 / 4)).bind fun _ => (nx_ck 600 s0).bind fun _ => rec (1, (x5 + 1), (upd rolls s0.toNatClampNeg (x4 + 1)), (vp_updL many s0.toNatClampNeg ((many s0.toNatClampNeg) + (many (x5 / 4).toNatClampNeg))))))
def f_X11_layFrom_b64 (x2 : Int32) (x4 : Int32) (wide : Int32) (tall : Int32) (groups : Int32) (top : Nat → Int32) (rolled : Nat → Int32) (kind : Nat → Int32) (mark : Nat → Int32) (rec : (Int32 × Int32 × (Nat → Int32) × (Nat → Int64)) → Option (Int32 × (Nat → Int32) × (Nat → Int64))) (x3 : Int32) (x5 : Int32) (rolls : Nat → Int32) (many : Nat → Int64) : Option (Int32 × (Nat → Int32) × (Nat → Int64)) :=
  if (4 * x2) ≤ x5 then (some (x3, rolls, many)) else ((nx_rd rolls 600 (x5 / 4)).bind fun _ => if (rolls (x5 / 4).toNatClampNeg) = x4 then ((f_X11_rollOf (x5 / 4) (x5 - x5 / 4 * 4) wide tall groups top rolled kind mark).bind fun r_14 => f_X11_layFrom_j103 rec x2 x3 x4 x5 r_14 rolls many) else (f_X11_layFrom_j103 rec x2 x3 x4 x5 (-9) rolls many))
def f_X11_layFrom_l64 (x2 : Int32) (x4 : Int32) (wide : Int32) (tall : Int32) (groups : Int32) (top : Nat → Int32) (rolled : Nat → Int32) (kind : Nat → Int32) (mark : Nat → Int32) : Nat → (Int32 × Int32 × (Nat → Int32) × (Nat → Int64)) → Option (Int32 × (Nat → Int32) × (Nat → Int64)) := nx_lp (fun rec z => f_X11_layFrom_b64 x2 x4 wide tall groups top rolled kind mark rec z.1 z.2.1 z.2.2.1 z.2.2.2)
def f_X11_layFrom_b55 (N : Nat) (x2 : Int32) (wide : Int32) (tall : Int32) (groups : Int32) (top : Nat → Int32) (rolled : Nat → Int32) (kind : Nat → Int32) (mark : Nat → Int32) (rec : (Int32 × Int32 × (Nat → Int32) × (Nat → Int64)) → Option ((Nat → Int32) × (Nat → Int64))) (x3 : Int32) (x4 : Int32) (rolls : Nat → Int32) (many : Nat → Int64) : Option ((Nat → Int32) × (Nat → Int64)) :=
  if x3 = 0 then (some (rolls, many)) else ((f_X11_layFrom_l64 x2 x4 wide tall groups top rolled kind mark N (0, 0, rolls, many)).bind fun z_15 => rec (z_15.1, (x4 + 1), z_15.2.1, z_15.2.2))
def f_X11_layFrom_l55 (N : Nat) (x2 : Int32) (wide : Int32) (tall : Int32) (groups : Int32) (top : Nat → Int32) (rolled : Nat → Int32) (kind : Nat → Int32) (mark : Nat → Int32) : Nat → (Int32 × Int32 × (Nat → Int32) × (Nat → Int64)) → Option ((Nat → Int32) × (Nat → Int64)) := nx_lp (fun rec z => f_X11_layFrom_b55 N x2 wide tall groups top rolled kind mark rec z.1 z.2.1 z.2.2.1 z.2.2.2)
def f_X11_layFrom (N : Nat) (x1 : Int32) (wide : Int32) (tall : Int32) (groups : Int32) (top : Nat → Int32) (rolled : Nat → Int32) (kind : Nat → Int32) (mark : Nat → Int32) (rolls : Nat → Int32) (many : Nat → Int64) : Option ((Nat → Int32) × (Nat → Int64)) :=
  (f_X11_cells wide tall).bind fun r_18 => (f_X11_layFrom_l10 x1 (24 * r_18) N (0, rolls, many)).bind fun z_19 => (nx_ck 600 x1).bind fun _ => (nx_ck 600 x1).bind fun _ => (f_X11_layFrom_l55 N (24 * r_18) wide tall groups top rolled kind mark N (1, 0, (upd z_19.1 x1.toNatClampNeg 0), (vp_updL z_19.2 x1.toNatClampNeg 1))).bind fun z_23 => some (z_23.1, z_23.2)
set_option maxHeartbeats 4000000 in
set_option maxRecDepth 100000 in
theorem c_X11_layFrom (l : Launch) (N : Nat) (E : nx_E) (sz : Nat) (a : Nat → Nat) (wide : Int32) (tall : Int32) (groups : Int32) (tours : Int32) (tourLength : Int32) (rowMany : Int32) (cameBy : Int32) (top : Nat → Int32) (east : Nat → Int32) (south : Nat → Int32) (rolled : Nat → Int32) (off : Nat → Int32) (kind : Nat → Int32) (mark : Nat → Int32) (rolls : Nat → Int32) (many : Nat → Int64) (onward : Nat → Int32) (at_ : Nat → Int32) (goes : Nat → Int32) (firstTour : Nat → Int32) (rowWay : Nat → Int32) (rowSeen : Nat → Int32) (prints : Nat → Int32) (homeward : Nat → Int32) (x1 : Int32) (hI : nx_inj a 18) (o : (Nat → Int32) × (Nat → Int64)) (h : f_X11_layFrom N x1 wide tall groups top rolled kind mark rolls many = some o) : Met l yX11_layFrom (.code yX11_layFrom cX11_layFrom 7 none :: nx_T) (nx_rm 3 73) (va_Pc [.ref (a 0), .int x1] (nx_P E (nx_A a 18 sz) sz (mW E a wide tall groups tours tourLength rowMany cameBy top east south rolled off kind mark rolls many onward at_ goes firstTour rowWay rowSeen prints homeward))) (va_Qv (fun u => u = o) (fun u t => va_P E.1 vwCl (mW E a wide tall groups tours tourLength rowMany cameBy top east south rolled off kind mark (u.1) (u.2) onward at_ goes firstTour rowWay rowSeen prints homeward) t.heap) (nx_A a 18 sz)) 0 0 (nx_A a 18 sz) := by
  refine nx_enV (fun u => u = o) (fun (u : (Nat → Int32) × (Nat → Int64)) => (mW E a wide tall groups tours tourLength rowMany cameBy top east south rolled off kind mark (u.1) (u.2) onward at_ goes firstTour rowWay rowSeen prints homeward)) (by decide) (Nat.le_of_ble_eq_true rfl) ?_
  intro p e s m below meth c Q X kr hsz hP ls hl
  subst hsz
  generalize hargs : (List.toArray [.ref (a 0), .int x1] : Array Value) = args at X kr ⊢
  clear hargs
  obtain ⟨⟨hx, hb, hml, hown, hts⟩, hK, hSt, hNz⟩ := id X
  have hS : va_S (nx_A a 18 s.heap.size) s.heap s.heap [] := va_S.rf
  have hl : lv_has ls 7 [(0, .ref (a 0)), (1, .int x1)] := hl
  have L10 : ∀ (x1 : Int32) (x2 : Int32) (n : Nat) (x3 : Int32) (rolls : Nat → Int32) (many : Nat → Int64) (z : ((Nat → Int32) × (Nat → Int64))), f_X11_layFrom_l10 x1 x2 n (x3, rolls, many) = some z → ∀ (H : Heap) (locs : List Loc) (ls : Array Slot), va_P E.1 vwCl (mW E a wide tall groups tours tourLength rowMany cameBy top east south rolled off kind mark rolls many onward at_ goes firstTour rowWay rowSeen prints homeward) H → va_S (nx_A a 18 s.heap.size) s.heap H locs → lv_has ls 7 [(0, .ref (a 0)), (1, .int x1), (2, .int x2), (3, .int x3)] → ∀ (kR : ∀ (H : Heap) (locs : List Loc) (ls : Array Slot), va_P E.1 vwCl (mW E a wide tall groups tours tourLength rowMany cameBy top east south rolled off kind mark (z.1) (z.2) onward at_ goes firstTour rowWay rowSeen prints homeward) H → va_S (nx_A a 18 s.heap.size) s.heap H locs → lv_has ls 7 [(0, .ref (a 0)), (1, .int x1), (2, .int x2)] → W p l e (nx_rm 3 73) s m args below meth c H locs 0 0 Q (F0 m 36 ls [])), W p l e (nx_rm 3 73) s m args below meth c H locs 0 0 Q (F0 m 10 ls []) := by
   intro x1 x2 n
   induction n with
   | zero => intro x3 rolls many z h; exact nomatch (show none = some z from h)
   | succ n ih =>
    intro x3 rolls many z h H locs ls hP hS hl kR
    have h : f_X11_layFrom_b10 x1 x2 (f_X11_layFrom_l10 x1 x2 n) x3 rolls many = some z := h
    unfold f_X11_layFrom_b10 at h
    refine lv_iload_n hx hb dX11_layFrom_10 rfl (lv_at hl 3 rfl) ?_
    refine lv_iload_n hx hb dX11_layFrom_11 rfl (lv_at hl 2 rfl) ?_
    refine lv_icmp_ge (tgt := 36) hx hb dX11_layFrom_12 (by decide) (fun hc => ?_) (fun hc => ?_)
    · have h := nx_it h hc
      obtain rfl := Option.some.inj h
      exact kR H locs ls hP hS (lv_sub hl [0, 1, 2] rfl)
    · have h := nx_if h hc
      refine lv_aload_n hx hb dX11_layFrom_15 rfl (lv_at hl 0 rfl) ?_
      refine nx_gf X hP uw_X11 (ci := 10) rfl 0 rfl 10 (by decide) wf_RX11_38 rfl dX11_layFrom_16 ?_
      refine lv_iload_n hx hb dX11_layFrom_19 rfl (lv_at hl 3 rfl) ?_
      refine lv_ldc hx hb hown (hts _ wk_RX11_99) dX11_layFrom_20 ?_
      obtain ⟨hv_1, h⟩ := nx_cb h
      refine nx_st X hI mW_ad hP hS 8 rfl hv_1 dX11_layFrom_22 (fun H locs hP hS => ?_)
      have hP : va_P E.1 vwCl (mW E a wide tall groups tours tourLength rowMany cameBy top east south rolled off kind mark (upd rolls x3.toNatClampNeg 100000000) many onward at_ goes firstTour rowWay rowSeen prints homeward) H := hP
      refine lv_aload_n hx hb dX11_layFrom_23 rfl (lv_at hl 0 rfl) ?_
      refine nx_gf X hP uw_X11 (ci := 10) rfl 0 rfl 11 (by decide) wf_RX11_41 rfl dX11_layFrom_24 ?_
      refine lv_iload_n hx hb dX11_layFrom_27 rfl (lv_at hl 3 rfl) ?_
      refine lv_lconst (v := 0) hx hb dX11_layFrom_28 (by decide) ?_
      obtain ⟨hv_2, h⟩ := nx_cb h
      refine nx_stl X hI mW_ad hP hS 9 rfl hv_2 dX11_layFrom_29 (fun H locs hP hS => ?_)
      have hP : va_P E.1 vwCl (mW E a wide tall groups tours tourLength rowMany cameBy top east south rolled off kind mark (upd rolls x3.toNatClampNeg 100000000) (vp_updL many x3.toNatClampNeg 0) onward at_ goes firstTour rowWay rowSeen prints homeward) H := hP
      refine lv_iinc (v := (x3 + 1)) (lv' := [(3, .int (x3 + 1)), (0, .ref (a 0)), (1, .int x1), (2, .int x2)]) hx hb dX11_layFrom_30 hl (k := 3) rfl rfl (by decide) rfl (fun ls hl => ?_)
      refine lv_goto (tgt := 10) hx hb dX11_layFrom_33 (by decide) ?_
      exact ih _ _ _ z h H locs ls hP hS (lv_sub hl [1, 2, 3, 0] rfl) kR
  have L64 : ∀ (x2 : Int32) (x4 : Int32) (n : Nat) (x3 : Int32) (x5 : Int32) (rolls : Nat → Int32) (many : Nat → Int64) (z : (Int32 × (Nat → Int32) × (Nat → Int64))), f_X11_layFrom_l64 x2 x4 wide tall groups top rolled kind mark n (x3, x5, rolls, many) = some z → ∀ (H : Heap) (locs : List Loc) (ls : Array Slot), va_P E.1 vwCl (mW E a wide tall groups tours tourLength rowMany cameBy top east south rolled off kind mark rolls many onward at_ goes firstTour rowWay rowSeen prints homeward) H → va_S (nx_A a 18 s.heap.size) s.heap H locs → lv_has ls 7 [(0, .ref (a 0)), (2, .int x2), (3, .int x3), (4, .int x4), (5, .int x5)] → ∀ (kR : ∀ (H : Heap) (locs : List Loc) (ls : Array Slot), va_P E.1 vwCl (mW E a wide tall groups tours tourLength rowMany cameBy top east south rolled off kind mark (z.2.1) (z.2.2) onward at_ goes firstTour rowWay rowSeen prints homeward) H → va_S (nx_A a 18 s.heap.size) s.heap H locs → lv_has ls 7 [(0, .ref (a 0)), (2, .int x2), (3, .int z.1), (4, .int x4)] → W p l e (nx_rm 3 73) s m args below meth c H locs 0 0 Q (F0 m 162 ls [])), W p l e (nx_rm 3 73) s m args below meth c H locs 0 0 Q (F0 m 64 ls []) := by
   intro x2 x4 n
   induction n with
   | zero => intro x3 x5 rolls many z h; exact nomatch (show none = some z from h)
   | succ n ih =>
    intro x3 x5 rolls many z h H locs ls hP hS hl kR
    have h : f_X11_layFrom_b64 x2 x4 wide tall groups top rolled kind mark (f_X11_layFrom_l64 x2 x4 wide tall groups top rolled kind mark n) x3 x5 rolls many = some z := h
    have J103 : ∀ (x3 : Int32) (x5 : Int32) (s0 : Int32) (rolls : Nat → Int32) (many : Nat → Int64), f_X11_layFrom_j103 (f_X11_layFrom_l64 x2 x4 wide tall groups top rolled kind mark n) x2 x3 x4 x5 s0 rolls many = some z → ∀ (H : Heap) (locs : List Loc) (ls : Array Slot), va_P E.1 vwCl (mW E a wide tall groups tours tourLength rowMany cameBy top east south rolled off kind mark rolls many onward at_ goes firstTour rowWay rowSeen prints homeward) H → va_S (nx_A a 18 s.heap.size) s.heap H locs → lv_has ls 7 [(0, .ref (a 0)), (2, .int x2), (3, .int x3), (4, .int x4), (5, .int x5)] → W p l e (nx_rm 3 73) s m args below meth c H locs 0 0 Q (F0 m 103 ls [.int s0]) := by
      intro x3 x5 s0 rolls many h H locs ls hP hS hl
      unfold f_X11_layFrom_j103 at h
      refine lv_istore (lv' := [(6, .int s0), (0, .ref (a 0)), (2, .int x2), (3, .int x3), (4, .int x4), (5, .int x5)]) hx hb dX11_layFrom_103 hl (by decide) rfl (fun ls hl => ?_)
      refine lv_iload hx hb dX11_layFrom_105 (lv_at hl 0 rfl) ?_
      refine lv_bipush (v := (-9)) hx hb dX11_layFrom_107 (by decide) ?_
      refine lv_icmp_eq (tgt := 156) hx hb dX11_layFrom_109 (by decide) (fun hc => ?_) (fun hc => ?_)
      · have h := nx_it h hc
        refine lv_iinc (v := (x5 + 1)) (lv' := [(5, .int (x5 + 1)), (6, .int s0), (0, .ref (a 0)), (2, .int x2), (3, .int x3), (4, .int x4)]) hx hb dX11_layFrom_156 hl (k := 5) rfl rfl (by decide) rfl (fun ls hl => ?_)
        refine lv_goto (tgt := 64) hx hb dX11_layFrom_159 (by decide) ?_
        exact ih _ _ _ _ z h H locs ls hP hS (lv_sub hl [2, 3, 4, 5, 0] rfl) kR
      · have h := nx_if h hc
        refine lv_aload_n hx hb dX11_layFrom_112 rfl (lv_at hl 1 rfl) ?_
        refine nx_gf X hP uw_X11 (ci := 10) rfl 0 rfl 10 (by decide) wf_RX11_38 rfl dX11_layFrom_113 ?_
        refine lv_iload hx hb dX11_layFrom_116 (lv_at hl 0 rfl) ?_
        obtain ⟨hv_3, h⟩ := nx_rb h
        refine nx_ld X hP 8 rfl hv_3 dX11_layFrom_118 ?_
        refine lv_iload hx hb dX11_layFrom_119 (lv_at hl 4 rfl) ?_
        refine lv_icmp_le (tgt := 156) hx hb dX11_layFrom_121 (by decide) (fun hc => ?_) (fun hc => ?_)
        · have h := nx_it h hc
          refine lv_iinc (v := (x5 + 1)) (lv' := [(5, .int (x5 + 1)), (6, .int s0), (0, .ref (a 0)), (2, .int x2), (3, .int x3), (4, .int x4)]) hx hb dX11_layFrom_156 hl (k := 5) rfl rfl (by decide) rfl (fun ls hl => ?_)
          refine lv_goto (tgt := 64) hx hb dX11_layFrom_159 (by decide) ?_
          exact ih _ _ _ _ z h H locs ls hP hS (lv_sub hl [2, 3, 4, 5, 0] rfl) kR
        · have h := nx_if h hc
          refine lv_aload_n hx hb dX11_layFrom_124 rfl (lv_at hl 1 rfl) ?_
          refine nx_gf X hP uw_X11 (ci := 10) rfl 0 rfl 10 (by decide) wf_RX11_38 rfl dX11_layFrom_125 ?_
          refine lv_iload hx hb dX11_layFrom_128 (lv_at hl 0 rfl) ?_
          refine lv_iload hx hb dX11_layFrom_130 (lv_at hl 4 rfl) ?_
          refine lv_iconst (v := 1) hx hb dX11_layFrom_132 (by decide) ?_
          refine lv_iadd hx hb dX11_layFrom_133 ?_
          obtain ⟨hv_5, h⟩ := nx_cb h
          refine nx_st X hI mW_ad hP hS 8 rfl hv_5 dX11_layFrom_134 (fun H locs hP hS => ?_)
          have hP : va_P E.1 vwCl (mW E a wide tall groups tours tourLength rowMany cameBy top east south rolled off kind mark (upd rolls s0.toNatClampNeg (x4 + 1)) many onward at_ goes firstTour rowWay rowSeen prints homeward) H := hP
          refine lv_aload_n hx hb dX11_layFrom_135 rfl (lv_at hl 1 rfl) ?_
          refine nx_gf X hP uw_X11 (ci := 10) rfl 0 rfl 11 (by decide) wf_RX11_41 rfl dX11_layFrom_136 ?_
          refine lv_iload hx hb dX11_layFrom_139 (lv_at hl 0 rfl) ?_
          refine lv_dup2_11 hx hb dX11_layFrom_141 rfl rfl ?_
          obtain ⟨hv_6, h⟩ := nx_rb h
          refine nx_ldl X hP 9 rfl hv_6 dX11_layFrom_142 ?_
          refine lv_aload_n hx hb dX11_layFrom_143 rfl (lv_at hl 1 rfl) ?_
          refine nx_gf X hP uw_X11 (ci := 10) rfl 0 rfl 11 (by decide) wf_RX11_41 rfl dX11_layFrom_144 ?_
          refine lv_iload hx hb dX11_layFrom_147 (lv_at hl 5 rfl) ?_
          refine lv_iconst (v := 4) hx hb dX11_layFrom_149 (by decide) ?_
          refine lv_idiv hx hb dX11_layFrom_150 (by decide) ?_
          obtain ⟨hv_8, h⟩ := nx_rb h
          refine nx_ldl X hP 9 rfl hv_8 dX11_layFrom_151 ?_
          refine lv_ladd hx hb dX11_layFrom_152 ?_
          obtain ⟨hv_10, h⟩ := nx_cb h
          refine nx_stl X hI mW_ad hP hS 9 rfl hv_10 dX11_layFrom_153 (fun H locs hP hS => ?_)
          have hP : va_P E.1 vwCl (mW E a wide tall groups tours tourLength rowMany cameBy top east south rolled off kind mark (upd rolls s0.toNatClampNeg (x4 + 1)) (vp_updL many s0.toNatClampNeg ((many s0.toNatClampNeg) + (many (x5 / 4).toNatClampNeg))) onward at_ goes firstTour rowWay rowSeen prints homeward) H := hP
          refine lv_iconst (v := 1) hx hb dX11_layFrom_154 (by decide) ?_
          refine lv_istore_n (lv' := [(3, .int 1), (6, .int s0), (0, .ref (a 0)), (2, .int x2), (4, .int x4), (5, .int x5)]) hx hb dX11_layFrom_155 rfl hl (by decide) rfl (fun ls hl => ?_)
          refine lv_iinc (v := (x5 + 1)) (lv' := [(5, .int (x5 + 1)), (3, .int 1), (6, .int s0), (0, .ref (a 0)), (2, .int x2), (4, .int x4)]) hx hb dX11_layFrom_156 hl (k := 5) rfl rfl (by decide) rfl (fun ls hl => ?_)
          refine lv_goto (tgt := 64) hx hb dX11_layFrom_159 (by decide) ?_
          exact ih _ _ _ _ z h H locs ls hP hS (lv_sub hl [3, 4, 1, 5, 0] rfl) kR
    unfold f_X11_layFrom_b64 at h
    refine lv_iload hx hb dX11_layFrom_64 (lv_at hl 4 rfl) ?_
    refine lv_iconst (v := 4) hx hb dX11_layFrom_66 (by decide) ?_
    refine lv_iload_n hx hb dX11_layFrom_67 rfl (lv_at hl 1 rfl) ?_
    refine lv_imul hx hb dX11_layFrom_68 ?_
    refine lv_icmp_ge (tgt := 162) hx hb dX11_layFrom_69 (by decide) (fun hc => ?_) (fun hc => ?_)
    · have h := nx_it h hc
      obtain rfl := Option.some.inj h
      exact kR H locs ls hP hS (lv_sub hl [0, 1, 2, 3] rfl)
    · have h := nx_if h hc
      refine lv_aload_n hx hb dX11_layFrom_72 rfl (lv_at hl 0 rfl) ?_
      refine nx_gf X hP uw_X11 (ci := 10) rfl 0 rfl 10 (by decide) wf_RX11_38 rfl dX11_layFrom_73 ?_
      refine lv_iload hx hb dX11_layFrom_76 (lv_at hl 4 rfl) ?_
      refine lv_iconst (v := 4) hx hb dX11_layFrom_78 (by decide) ?_
      refine lv_idiv hx hb dX11_layFrom_79 (by decide) ?_
      obtain ⟨hv_11, h⟩ := nx_rb h
      refine nx_ld X hP 8 rfl hv_11 dX11_layFrom_80 ?_
      refine lv_iload hx hb dX11_layFrom_81 (lv_at hl 3 rfl) ?_
      refine lv_icmp_ne (tgt := 101) hx hb dX11_layFrom_83 (by decide) (fun hc => ?_) (fun hc => ?_)
      · have h := nx_if h hc
        refine lv_bipush (v := (-9)) hx hb dX11_layFrom_101 (by decide) ?_
        exact J103 _ _ _ _ _ h H locs ls hP hS (lv_sub hl [0, 1, 2, 3, 4] rfl)
      · have h := nx_it h hc
        refine lv_aload_n hx hb dX11_layFrom_86 rfl (lv_at hl 0 rfl) ?_
        refine lv_iload hx hb dX11_layFrom_87 (lv_at hl 4 rfl) ?_
        refine lv_iconst (v := 4) hx hb dX11_layFrom_89 (by decide) ?_
        refine lv_idiv hx hb dX11_layFrom_90 (by decide) ?_
        refine lv_iload hx hb dX11_layFrom_91 (lv_at hl 4 rfl) ?_
        refine lv_iconst (v := 4) hx hb dX11_layFrom_93 (by decide) ?_
        refine lv_irem hx hb dX11_layFrom_94 (by decide) ?_
        obtain ⟨r_14, hc_13, h⟩ := nx_bd h
        refine nx_ki (nx_runV (As := [.int (x5 / 4), .int (x5 - x5 / 4 * 4)]) (rest := []) X hS hP (c_X11_rollOf l E H.size a wide tall groups tours tourLength rowMany cameBy top east south rolled off kind mark rolls many onward at_ goes firstTour rowWay rowSeen prints homeward (x5 / 4) (x5 - x5 / 4 * 4) _ hc_13) nx_FA qV_RX11_123 ⟨rfl, rfl⟩ ⟨Nat.le_of_ble_eq_true rfl, Nat.le_of_ble_eq_true rfl⟩ ⟨Nat.zero_le _, Nat.zero_le _⟩ 0 rfl rfl rfl rfl hl.1 (Nat.le_of_ble_eq_true rfl) dX11_layFrom_95) hS nx_FA (fun H locs hP hS => ?_)
        refine lv_goto (tgt := 103) hx hb dX11_layFrom_98 (by decide) ?_
        exact J103 _ _ _ _ _ h H locs ls hP hS (lv_sub hl [0, 1, 2, 3, 4] rfl)
  have L55 : ∀ (x2 : Int32) (n : Nat) (x3 : Int32) (x4 : Int32) (rolls : Nat → Int32) (many : Nat → Int64) (z : ((Nat → Int32) × (Nat → Int64))), f_X11_layFrom_l55 N x2 wide tall groups top rolled kind mark n (x3, x4, rolls, many) = some z → ∀ (H : Heap) (locs : List Loc) (ls : Array Slot), va_P E.1 vwCl (mW E a wide tall groups tours tourLength rowMany cameBy top east south rolled off kind mark rolls many onward at_ goes firstTour rowWay rowSeen prints homeward) H → va_S (nx_A a 18 s.heap.size) s.heap H locs → lv_has ls 7 [(0, .ref (a 0)), (2, .int x2), (3, .int x3), (4, .int x4)] → ∀ (kR : ∀ (H : Heap) (locs : List Loc) (ls : Array Slot), va_P E.1 vwCl (mW E a wide tall groups tours tourLength rowMany cameBy top east south rolled off kind mark (z.1) (z.2) onward at_ goes firstTour rowWay rowSeen prints homeward) H → va_S (nx_A a 18 s.heap.size) s.heap H locs → lv_has ls 7 [(0, .ref (a 0))] → W p l e (nx_rm 3 73) s m args below meth c H locs 0 0 Q (F0 m 168 ls [])), W p l e (nx_rm 3 73) s m args below meth c H locs 0 0 Q (F0 m 55 ls []) := by
   intro x2 n
   induction n with
   | zero => intro x3 x4 rolls many z h; exact nomatch (show none = some z from h)
   | succ n ih =>
    intro x3 x4 rolls many z h H locs ls hP hS hl kR
    have h : f_X11_layFrom_b55 N x2 wide tall groups top rolled kind mark (f_X11_layFrom_l55 N x2 wide tall groups top rolled kind mark n) x3 x4 rolls many = some z := h
    unfold f_X11_layFrom_b55 at h
    refine lv_iload_n hx hb dX11_layFrom_55 rfl (lv_at hl 2 rfl) ?_
    refine lv_if_eq (tgt := 168) hx hb dX11_layFrom_56 (by decide) (fun hc => ?_) (fun hc => ?_)
    · have h := nx_it h hc
      obtain rfl := Option.some.inj h
      exact kR H locs ls hP hS (lv_sub hl [0] rfl)
    · have h := nx_if h hc
      refine lv_iconst (v := 0) hx hb dX11_layFrom_59 (by decide) ?_
      refine lv_istore_n (lv' := [(3, .int 0), (0, .ref (a 0)), (2, .int x2), (4, .int x4)]) hx hb dX11_layFrom_60 rfl hl (by decide) rfl (fun ls hl => ?_)
      refine lv_iconst (v := 0) hx hb dX11_layFrom_61 (by decide) ?_
      refine lv_istore (lv' := [(5, .int 0), (3, .int 0), (0, .ref (a 0)), (2, .int x2), (4, .int x4)]) hx hb dX11_layFrom_62 hl (by decide) rfl (fun ls hl => ?_)
      obtain ⟨z_15, hz_16, h⟩ := nx_bd h
      refine L64 _ _ N _ _ _ _ _ hz_16 H locs ls hP hS (lv_sub hl [2, 3, 1, 4, 0] rfl) (fun H locs ls hP hS hl => ?_)
      refine lv_iinc (v := (x4 + 1)) (lv' := [(4, .int (x4 + 1)), (0, .ref (a 0)), (2, .int x2), (3, .int z_15.1)]) hx hb dX11_layFrom_162 hl (k := 3) rfl rfl (by decide) rfl (fun ls hl => ?_)
      refine lv_goto (tgt := 55) hx hb dX11_layFrom_165 (by decide) ?_
      exact ih _ _ _ _ z h H locs ls hP hS (lv_sub hl [1, 2, 3, 0] rfl) kR
  unfold f_X11_layFrom at h
  suffices hw : ∀ (H : Heap) (locs : List Loc), va_P E.1 vwCl (mW E a wide tall groups tours tourLength rowMany cameBy top east south rolled off kind mark rolls many onward at_ goes firstTour rowWay rowSeen prints homeward) H → va_S (nx_A a 18 s.heap.size) s.heap H locs → W p l e (nx_rm 3 73) s m args below meth c H locs 0 0 Q (F0 m 0 ls []) from hw _ _ hP va_S.rf
  intro H locs hP hS
  refine lv_bipush (v := 24) hx hb dX11_layFrom_0 (by decide) ?_
  refine lv_aload_n hx hb dX11_layFrom_2 rfl (lv_at hl 0 rfl) ?_
  obtain ⟨r_18, hc_17, h⟩ := nx_bd h
  refine nx_ki (nx_runV (As := []) (rest := [.int 24]) X hS hP (c_X11_cells l E H.size a wide tall groups tours tourLength rowMany cameBy top east south rolled off kind mark rolls many onward at_ goes firstTour rowWay rowSeen prints homeward _ hc_17) nx_FA qV_RX11_100 ⟨rfl, rfl⟩ ⟨Nat.le_of_ble_eq_true rfl, Nat.le_of_ble_eq_true rfl⟩ ⟨Nat.zero_le _, Nat.zero_le _⟩ 0 rfl rfl rfl rfl hl.1 (Nat.le_of_ble_eq_true rfl) dX11_layFrom_3) hS nx_FA (fun H locs hP hS => ?_)
  refine lv_imul hx hb dX11_layFrom_6 ?_
  refine lv_istore_n (lv' := [(2, .int (24 * r_18)), (0, .ref (a 0)), (1, .int x1)]) hx hb dX11_layFrom_7 rfl hl (by decide) rfl (fun ls hl => ?_)
  refine lv_iconst (v := 0) hx hb dX11_layFrom_8 (by decide) ?_
  refine lv_istore_n (lv' := [(3, .int 0), (2, .int (24 * r_18)), (0, .ref (a 0)), (1, .int x1)]) hx hb dX11_layFrom_9 rfl hl (by decide) rfl (fun ls hl => ?_)
  obtain ⟨z_19, hz_20, h⟩ := nx_bd h
  refine L10 _ _ N _ _ _ _ hz_20 H locs ls hP hS (lv_sub hl [2, 3, 1, 0] rfl) (fun H locs ls hP hS hl => ?_)
  refine lv_aload_n hx hb dX11_layFrom_36 rfl (lv_at hl 0 rfl) ?_
  refine nx_gf X hP uw_X11 (ci := 10) rfl 0 rfl 10 (by decide) wf_RX11_38 rfl dX11_layFrom_37 ?_
  refine lv_iload_n hx hb dX11_layFrom_40 rfl (lv_at hl 1 rfl) ?_
  refine lv_iconst (v := 0) hx hb dX11_layFrom_41 (by decide) ?_
  obtain ⟨hv_21, h⟩ := nx_cb h
  refine nx_st X hI mW_ad hP hS 8 rfl hv_21 dX11_layFrom_42 (fun H locs hP hS => ?_)
  have hP : va_P E.1 vwCl (mW E a wide tall groups tours tourLength rowMany cameBy top east south rolled off kind mark (upd z_19.1 x1.toNatClampNeg 0) (z_19.2) onward at_ goes firstTour rowWay rowSeen prints homeward) H := hP
  refine lv_aload_n hx hb dX11_layFrom_43 rfl (lv_at hl 0 rfl) ?_
  refine nx_gf X hP uw_X11 (ci := 10) rfl 0 rfl 11 (by decide) wf_RX11_41 rfl dX11_layFrom_44 ?_
  refine lv_iload_n hx hb dX11_layFrom_47 rfl (lv_at hl 1 rfl) ?_
  refine lv_lconst (v := 1) hx hb dX11_layFrom_48 (by decide) ?_
  obtain ⟨hv_22, h⟩ := nx_cb h
  refine nx_stl X hI mW_ad hP hS 9 rfl hv_22 dX11_layFrom_49 (fun H locs hP hS => ?_)
  have hP : va_P E.1 vwCl (mW E a wide tall groups tours tourLength rowMany cameBy top east south rolled off kind mark (upd z_19.1 x1.toNatClampNeg 0) (vp_updL z_19.2 x1.toNatClampNeg 1) onward at_ goes firstTour rowWay rowSeen prints homeward) H := hP
  refine lv_iconst (v := 1) hx hb dX11_layFrom_50 (by decide) ?_
  refine lv_istore_n (lv' := [(3, .int 1), (0, .ref (a 0)), (1, .int x1), (2, .int (24 * r_18))]) hx hb dX11_layFrom_51 rfl hl (by decide) rfl (fun ls hl => ?_)
  refine lv_iconst (v := 0) hx hb dX11_layFrom_52 (by decide) ?_
  refine lv_istore (lv' := [(4, .int 0), (3, .int 1), (0, .ref (a 0)), (1, .int x1), (2, .int (24 * r_18))]) hx hb dX11_layFrom_53 hl (by decide) rfl (fun ls hl => ?_)
  obtain ⟨z_23, hz_24, h⟩ := nx_bd h
  refine L55 _ N _ _ _ _ _ hz_24 H locs ls hP hS (lv_sub hl [2, 4, 1, 0] rfl) (fun H locs ls hP hS hl => ?_)
  exact kr 168 ls (z_23.1, z_23.2) H locs dX11_layFrom_168 (Option.some.inj h) hP hS
def f_X11_shortestOf_b9 (x1 : Int32) (x2 : Int32) (top : Nat → Int32) (rolls : Nat → Int32) (rec : (Int32 × Int32) → Option (Int32)) (x3 : Int32) (x4 : Int32) : Option (Int32) :=
  if ((24 * x1) + 24) ≤ x4 then (some x3) else ((f_X11_isGoal x4 x1 x2 top).bind fun r_2 => if r_2 = 0 then (rec (x3, (x4 + 1))) else ((nx_rd rolls 600 x4).bind fun _ => if x3 ≤ (rolls x4.toNatClampNeg) then (rec (x3, (x4 + 1))) else ((nx_rd rolls 600 x4).bind fun _ => rec ((rolls x4.toNatClampNeg), (x4 + 1)))))
def f_X11_shortestOf_l9 (x1 : Int32) (x2 : Int32) (top : Nat → Int32) (rolls : Nat → Int32) : Nat → (Int32 × Int32) → Option (Int32) := nx_lp (fun rec z => f_X11_shortestOf_b9 x1 x2 top rolls rec z.1 z.2)
def f_X11_shortestOf (N : Nat) (x1 : Int32) (x2 : Int32) (top : Nat → Int32) (rolls : Nat → Int32) : Option (Int32) :=
  (f_X11_shortestOf_l9 x1 x2 top rolls N (100000000, (24 * x1))).bind fun z_7 => some z_7
set_option maxHeartbeats 4000000 in
set_option maxRecDepth 100000 in
theorem c_X11_shortestOf (l : Launch) (N : Nat) (E : nx_E) (sz : Nat) (a : Nat → Nat) (wide : Int32) (tall : Int32) (groups : Int32) (tours : Int32) (tourLength : Int32) (rowMany : Int32) (cameBy : Int32) (top : Nat → Int32) (east : Nat → Int32) (south : Nat → Int32) (rolled : Nat → Int32) (off : Nat → Int32) (kind : Nat → Int32) (mark : Nat → Int32) (rolls : Nat → Int32) (many : Nat → Int64) (onward : Nat → Int32) (at_ : Nat → Int32) (goes : Nat → Int32) (firstTour : Nat → Int32) (rowWay : Nat → Int32) (rowSeen : Nat → Int32) (prints : Nat → Int32) (homeward : Nat → Int32) (x1 : Int32) (x2 : Int32) (o : Int32) (h : f_X11_shortestOf N x1 x2 top rolls = some o) : Met l yX11_shortestOf (.code yX11_shortestOf cX11_shortestOf 5 (some .int) :: nx_T) (nx_rm 1 24) (va_Pc [.ref (a 0), .int x1, .int x2] (nx_P E (nx_F) sz (mW E a wide tall groups tours tourLength rowMany cameBy top east south rolled off kind mark rolls many onward at_ goes firstTour rowWay rowSeen prints homeward))) (va_Qi (fun v (_ : Unit) => v = o) (fun _ t => va_P E.1 vwCl (mW E a wide tall groups tours tourLength rowMany cameBy top east south rolled off kind mark rolls many onward at_ goes firstTour rowWay rowSeen prints homeward) t.heap) (nx_F)) 0 0 (nx_F) := by
  refine nx_enI (fun v (_ : Unit) => v = o) (fun (_ : Unit) => (mW E a wide tall groups tours tourLength rowMany cameBy top east south rolled off kind mark rolls many onward at_ goes firstTour rowWay rowSeen prints homeward)) (by decide) (Nat.le_of_ble_eq_true rfl) ?_
  intro p e s m below meth c Q X kr hsz hP ls hl
  subst hsz
  generalize hargs : (List.toArray [.ref (a 0), .int x1, .int x2] : Array Value) = args at X kr ⊢
  clear hargs
  obtain ⟨⟨hx, hb, hml, hown, hts⟩, hK, hSt, hNz⟩ := id X
  have hS : va_S (nx_F) s.heap s.heap [] := va_S.rf
  have hl : lv_has ls 5 [(0, .ref (a 0)), (1, .int x1), (2, .int x2)] := hl
  have L9 : ∀ (x1 : Int32) (x2 : Int32) (n : Nat) (x3 : Int32) (x4 : Int32) (z : (Int32)), f_X11_shortestOf_l9 x1 x2 top rolls n (x3, x4) = some z → ∀ (H : Heap) (locs : List Loc) (ls : Array Slot), va_P E.1 vwCl (mW E a wide tall groups tours tourLength rowMany cameBy top east south rolled off kind mark rolls many onward at_ goes firstTour rowWay rowSeen prints homeward) H → va_S (nx_F) s.heap H locs → lv_has ls 5 [(0, .ref (a 0)), (1, .int x1), (2, .int x2), (3, .int x3), (4, .int x4)] → ∀ (kR : ∀ (H : Heap) (locs : List Loc) (ls : Array Slot), va_P E.1 vwCl (mW E a wide tall groups tours tourLength rowMany cameBy top east south rolled off kind mark rolls many onward at_ goes firstTour rowWay rowSeen prints homeward) H → va_S (nx_F) s.heap H locs → lv_has ls 5 [(0, .ref (a 0)), (3, .int z)] → W p l e (nx_rm 1 24) s m args below meth c H locs 0 0 Q (F0 m 61 ls [])), W p l e (nx_rm 1 24) s m args below meth c H locs 0 0 Q (F0 m 9 ls []) := by
   intro x1 x2 n
   induction n with
   | zero => intro x3 x4 z h; exact nomatch (show none = some z from h)
   | succ n ih =>
    intro x3 x4 z h H locs ls hP hS hl kR
    have h : f_X11_shortestOf_b9 x1 x2 top rolls (f_X11_shortestOf_l9 x1 x2 top rolls n) x3 x4 = some z := h
    unfold f_X11_shortestOf_b9 at h
    refine lv_iload hx hb dX11_shortestOf_9 (lv_at hl 4 rfl) ?_
    refine lv_bipush (v := 24) hx hb dX11_shortestOf_11 (by decide) ?_
    refine lv_iload_n hx hb dX11_shortestOf_13 rfl (lv_at hl 1 rfl) ?_
    refine lv_imul hx hb dX11_shortestOf_14 ?_
    refine lv_bipush (v := 24) hx hb dX11_shortestOf_15 (by decide) ?_
    refine lv_iadd hx hb dX11_shortestOf_17 ?_
    refine lv_icmp_ge (tgt := 61) hx hb dX11_shortestOf_18 (by decide) (fun hc => ?_) (fun hc => ?_)
    · have h := nx_it h hc
      obtain rfl := Option.some.inj h
      exact kR H locs ls hP hS (lv_sub hl [0, 3] rfl)
    · have h := nx_if h hc
      refine lv_aload_n hx hb dX11_shortestOf_21 rfl (lv_at hl 0 rfl) ?_
      refine lv_iload hx hb dX11_shortestOf_22 (lv_at hl 4 rfl) ?_
      refine lv_iload_n hx hb dX11_shortestOf_24 rfl (lv_at hl 1 rfl) ?_
      refine lv_iload_n hx hb dX11_shortestOf_25 rfl (lv_at hl 2 rfl) ?_
      obtain ⟨r_2, hc_1, h⟩ := nx_bd h
      refine nx_ki (nx_runV (As := [.int x4, .int x1, .int x2]) (rest := []) X hS hP (c_X11_isGoal l E H.size a wide tall groups tours tourLength rowMany cameBy top east south rolled off kind mark rolls many onward at_ goes firstTour rowWay rowSeen prints homeward x4 x1 x2 _ hc_1) nx_FA qV_RX11_133 ⟨rfl, rfl⟩ ⟨Nat.le_of_ble_eq_true rfl, Nat.le_of_ble_eq_true rfl⟩ ⟨Nat.zero_le _, Nat.zero_le _⟩ 0 rfl rfl rfl rfl hl.1 (Nat.le_of_ble_eq_true rfl) dX11_shortestOf_26) hS nx_FA (fun H locs hP hS => ?_)
      refine lv_if_eq (tgt := 53) hx hb dX11_shortestOf_29 (by decide) (fun hc => ?_) (fun hc => ?_)
      · have h := nx_it h hc
        refine lv_iload_n hx hb dX11_shortestOf_53 rfl (lv_at hl 3 rfl) ?_
        refine lv_istore_n (lv' := [(3, .int x3), (0, .ref (a 0)), (1, .int x1), (2, .int x2), (4, .int x4)]) hx hb dX11_shortestOf_54 rfl hl (by decide) rfl (fun ls hl => ?_)
        refine lv_iinc (v := (x4 + 1)) (lv' := [(4, .int (x4 + 1)), (3, .int x3), (0, .ref (a 0)), (1, .int x1), (2, .int x2)]) hx hb dX11_shortestOf_55 hl (k := 4) rfl rfl (by decide) rfl (fun ls hl => ?_)
        refine lv_goto (tgt := 9) hx hb dX11_shortestOf_58 (by decide) ?_
        exact ih _ _ z h H locs ls hP hS (lv_sub hl [2, 3, 4, 1, 0] rfl) kR
      · have h := nx_if h hc
        refine lv_aload_n hx hb dX11_shortestOf_32 rfl (lv_at hl 0 rfl) ?_
        refine nx_gf X hP uw_X11 (ci := 10) rfl 0 rfl 10 (by decide) wf_RX11_38 rfl dX11_shortestOf_33 ?_
        refine lv_iload hx hb dX11_shortestOf_36 (lv_at hl 4 rfl) ?_
        obtain ⟨hv_3, h⟩ := nx_rb h
        refine nx_ld X hP 8 rfl hv_3 dX11_shortestOf_38 ?_
        refine lv_iload_n hx hb dX11_shortestOf_39 rfl (lv_at hl 3 rfl) ?_
        refine lv_icmp_ge (tgt := 53) hx hb dX11_shortestOf_40 (by decide) (fun hc => ?_) (fun hc => ?_)
        · have h := nx_it h hc
          refine lv_iload_n hx hb dX11_shortestOf_53 rfl (lv_at hl 3 rfl) ?_
          refine lv_istore_n (lv' := [(3, .int x3), (0, .ref (a 0)), (1, .int x1), (2, .int x2), (4, .int x4)]) hx hb dX11_shortestOf_54 rfl hl (by decide) rfl (fun ls hl => ?_)
          refine lv_iinc (v := (x4 + 1)) (lv' := [(4, .int (x4 + 1)), (3, .int x3), (0, .ref (a 0)), (1, .int x1), (2, .int x2)]) hx hb dX11_shortestOf_55 hl (k := 4) rfl rfl (by decide) rfl (fun ls hl => ?_)
          refine lv_goto (tgt := 9) hx hb dX11_shortestOf_58 (by decide) ?_
          exact ih _ _ z h H locs ls hP hS (lv_sub hl [2, 3, 4, 1, 0] rfl) kR
        · have h := nx_if h hc
          refine lv_aload_n hx hb dX11_shortestOf_43 rfl (lv_at hl 0 rfl) ?_
          refine nx_gf X hP uw_X11 (ci := 10) rfl 0 rfl 10 (by decide) wf_RX11_38 rfl dX11_shortestOf_44 ?_
          refine lv_iload hx hb dX11_shortestOf_47 (lv_at hl 4 rfl) ?_
          obtain ⟨hv_5, h⟩ := nx_rb h
          refine nx_ld X hP 8 rfl hv_5 dX11_shortestOf_49 ?_
          refine lv_goto (tgt := 54) hx hb dX11_shortestOf_50 (by decide) ?_
          refine lv_istore_n (lv' := [(3, .int (rolls x4.toNatClampNeg)), (0, .ref (a 0)), (1, .int x1), (2, .int x2), (4, .int x4)]) hx hb dX11_shortestOf_54 rfl hl (by decide) rfl (fun ls hl => ?_)
          refine lv_iinc (v := (x4 + 1)) (lv' := [(4, .int (x4 + 1)), (3, .int (rolls x4.toNatClampNeg)), (0, .ref (a 0)), (1, .int x1), (2, .int x2)]) hx hb dX11_shortestOf_55 hl (k := 4) rfl rfl (by decide) rfl (fun ls hl => ?_)
          refine lv_goto (tgt := 9) hx hb dX11_shortestOf_58 (by decide) ?_
          exact ih _ _ z h H locs ls hP hS (lv_sub hl [2, 3, 4, 1, 0] rfl) kR
  unfold f_X11_shortestOf at h
  suffices hw : ∀ (H : Heap) (locs : List Loc), va_P E.1 vwCl (mW E a wide tall groups tours tourLength rowMany cameBy top east south rolled off kind mark rolls many onward at_ goes firstTour rowWay rowSeen prints homeward) H → va_S (nx_F) s.heap H locs → W p l e (nx_rm 1 24) s m args below meth c H locs 0 0 Q (F0 m 0 ls []) from hw _ _ hP va_S.rf
  intro H locs hP hS
  refine lv_ldc hx hb hown (hts _ wk_RX11_99) dX11_shortestOf_0 ?_
  refine lv_istore_n (lv' := [(3, .int 100000000), (0, .ref (a 0)), (1, .int x1), (2, .int x2)]) hx hb dX11_shortestOf_2 rfl hl (by decide) rfl (fun ls hl => ?_)
  refine lv_bipush (v := 24) hx hb dX11_shortestOf_3 (by decide) ?_
  refine lv_iload_n hx hb dX11_shortestOf_5 rfl (lv_at hl 2 rfl) ?_
  refine lv_imul hx hb dX11_shortestOf_6 ?_
  refine lv_istore (lv' := [(4, .int (24 * x1)), (3, .int 100000000), (0, .ref (a 0)), (1, .int x1), (2, .int x2)]) hx hb dX11_shortestOf_7 hl (by decide) rfl (fun ls hl => ?_)
  obtain ⟨z_7, hz_8, h⟩ := nx_bd h
  refine L9 _ _ N _ _ _ hz_8 H locs ls hP hS (lv_sub hl [2, 3, 4, 1, 0] rfl) (fun H locs ls hP hS hl => ?_)
  refine lv_iload_n hx hb dX11_shortestOf_61 rfl (lv_at hl 1 rfl) ?_
  exact kr 62 ls z_7 () H locs dX11_shortestOf_62 (Option.some.inj h) hP hS
def f_X11_shortest (N : Nat) (x1 : Int32) (x2 : Int32) (x3 : Int32) (x4 : Int32) (wide : Int32) (tall : Int32) (groups : Int32) (top : Nat → Int32) (rolled : Nat → Int32) (kind : Nat → Int32) (mark : Nat → Int32) (rolls : Nat → Int32) (many : Nat → Int64) : Option (Int32 × ((Nat → Int32) × (Nat → Int64))) :=
  (f_X11_mayGo x1 x2 x3 x4 wide tall).bind fun r_2 => if 0 ≤ r_2 then ((f_X11_layFrom N ((24 * x1) + x2) wide tall groups top rolled kind mark rolls many).bind fun t_6 => (f_X11_shortestOf N x3 x4 top t_6.1).bind fun r_8 => if r_8 = 100000000 then (some ((-9), (t_6.1, t_6.2))) else (some (r_8, (t_6.1, t_6.2)))) else (some (r_2, (rolls, many)))
set_option maxHeartbeats 4000000 in
set_option maxRecDepth 100000 in
theorem c_X11_shortest (l : Launch) (N : Nat) (E : nx_E) (sz : Nat) (a : Nat → Nat) (wide : Int32) (tall : Int32) (groups : Int32) (tours : Int32) (tourLength : Int32) (rowMany : Int32) (cameBy : Int32) (top : Nat → Int32) (east : Nat → Int32) (south : Nat → Int32) (rolled : Nat → Int32) (off : Nat → Int32) (kind : Nat → Int32) (mark : Nat → Int32) (rolls : Nat → Int32) (many : Nat → Int64) (onward : Nat → Int32) (at_ : Nat → Int32) (goes : Nat → Int32) (firstTour : Nat → Int32) (rowWay : Nat → Int32) (rowSeen : Nat → Int32) (prints : Nat → Int32) (homeward : Nat → Int32) (x1 : Int32) (x2 : Int32) (x3 : Int32) (x4 : Int32) (hI : nx_inj a 18) (o : Int32 × ((Nat → Int32) × (Nat → Int64))) (h : f_X11_shortest N x1 x2 x3 x4 wide tall groups top rolled kind mark rolls many = some o) : Met l yX11_shortest (.code yX11_shortest cX11_shortest 7 (some .int) :: nx_T) (nx_rm 4 99) (va_Pc [.ref (a 0), .int x1, .int x2, .int x3, .int x4] (nx_P E (nx_A a 18 sz) sz (mW E a wide tall groups tours tourLength rowMany cameBy top east south rolled off kind mark rolls many onward at_ goes firstTour rowWay rowSeen prints homeward))) (va_Qi (fun v u => (v, u) = o) (fun u t => va_P E.1 vwCl (mW E a wide tall groups tours tourLength rowMany cameBy top east south rolled off kind mark (u.1) (u.2) onward at_ goes firstTour rowWay rowSeen prints homeward) t.heap) (nx_A a 18 sz)) 0 0 (nx_A a 18 sz) := by
  refine nx_enI (fun v u => (v, u) = o) (fun (u : (Nat → Int32) × (Nat → Int64)) => (mW E a wide tall groups tours tourLength rowMany cameBy top east south rolled off kind mark (u.1) (u.2) onward at_ goes firstTour rowWay rowSeen prints homeward)) (by decide) (Nat.le_of_ble_eq_true rfl) ?_
  intro p e s m below meth c Q X kr hsz hP ls hl
  subst hsz
  generalize hargs : (List.toArray [.ref (a 0), .int x1, .int x2, .int x3, .int x4] : Array Value) = args at X kr ⊢
  clear hargs
  obtain ⟨⟨hx, hb, hml, hown, hts⟩, hK, hSt, hNz⟩ := id X
  have hS : va_S (nx_A a 18 s.heap.size) s.heap s.heap [] := va_S.rf
  have hl : lv_has ls 7 [(0, .ref (a 0)), (1, .int x1), (2, .int x2), (3, .int x3), (4, .int x4)] := hl
  unfold f_X11_shortest at h
  suffices hw : ∀ (H : Heap) (locs : List Loc), va_P E.1 vwCl (mW E a wide tall groups tours tourLength rowMany cameBy top east south rolled off kind mark rolls many onward at_ goes firstTour rowWay rowSeen prints homeward) H → va_S (nx_A a 18 s.heap.size) s.heap H locs → W p l e (nx_rm 4 99) s m args below meth c H locs 0 0 Q (F0 m 0 ls []) from hw _ _ hP va_S.rf
  intro H locs hP hS
  refine lv_aload_n hx hb dX11_shortest_0 rfl (lv_at hl 0 rfl) ?_
  refine lv_iload_n hx hb dX11_shortest_1 rfl (lv_at hl 1 rfl) ?_
  refine lv_iload_n hx hb dX11_shortest_2 rfl (lv_at hl 2 rfl) ?_
  refine lv_iload_n hx hb dX11_shortest_3 rfl (lv_at hl 3 rfl) ?_
  refine lv_iload hx hb dX11_shortest_4 (lv_at hl 4 rfl) ?_
  obtain ⟨r_2, hc_1, h⟩ := nx_bd h
  refine nx_ki (nx_runV (As := [.int x1, .int x2, .int x3, .int x4]) (rest := []) X hS hP (c_X11_mayGo l E H.size a wide tall groups tours tourLength rowMany cameBy top east south rolled off kind mark rolls many onward at_ goes firstTour rowWay rowSeen prints homeward x1 x2 x3 x4 _ hc_1) nx_FA qV_RX11_137 ⟨rfl, rfl⟩ ⟨Nat.le_of_ble_eq_true rfl, Nat.le_of_ble_eq_true rfl⟩ ⟨Nat.zero_le _, Nat.zero_le _⟩ 0 rfl rfl rfl rfl hl.1 (Nat.le_of_ble_eq_true rfl) dX11_shortest_6) hS nx_FA (fun H locs hP hS => ?_)
  refine lv_istore (lv' := [(5, .int r_2), (0, .ref (a 0)), (1, .int x1), (2, .int x2), (3, .int x3), (4, .int x4)]) hx hb dX11_shortest_9 hl (by decide) rfl (fun ls hl => ?_)
  refine lv_iload hx hb dX11_shortest_11 (lv_at hl 0 rfl) ?_
  refine lv_if_ge (tgt := 19) hx hb dX11_shortest_13 (by decide) (fun hc => ?_) (fun hc => ?_)
  · have h := nx_it h hc
    refine lv_aload_n hx hb dX11_shortest_19 rfl (lv_at hl 1 rfl) ?_
    refine lv_bipush (v := 24) hx hb dX11_shortest_20 (by decide) ?_
    refine lv_iload_n hx hb dX11_shortest_22 rfl (lv_at hl 2 rfl) ?_
    refine lv_imul hx hb dX11_shortest_23 ?_
    refine lv_iload_n hx hb dX11_shortest_24 rfl (lv_at hl 3 rfl) ?_
    refine lv_iadd hx hb dX11_shortest_25 ?_
    obtain ⟨⟨k_4, k_5⟩, hc_3, h⟩ := nx_bd h
    refine nx_kv (nx_runV (As := [.int ((24 * x1) + x2)]) (rest := []) X hS hP (c_X11_layFrom l N E H.size a wide tall groups tours tourLength rowMany cameBy top east south rolled off kind mark rolls many onward at_ goes firstTour rowWay rowSeen prints homeward ((24 * x1) + x2) hI _ hc_3) (nx_Am hS.1) qV_RX11_141 ⟨rfl, rfl⟩ ⟨Nat.le_of_ble_eq_true rfl, Nat.le_of_ble_eq_true rfl⟩ ⟨Nat.zero_le _, Nat.zero_le _⟩ 0 rfl rfl rfl rfl hl.1 (Nat.le_of_ble_eq_true rfl) dX11_shortest_26) hS (nx_Am hS.1) (fun H locs hP hS => ?_)
    have hP : va_P E.1 vwCl (mW E a wide tall groups tours tourLength rowMany cameBy top east south rolled off kind mark k_4 k_5 onward at_ goes firstTour rowWay rowSeen prints homeward) H := hP
    refine lv_aload_n hx hb dX11_shortest_29 rfl (lv_at hl 1 rfl) ?_
    refine lv_iload_n hx hb dX11_shortest_30 rfl (lv_at hl 4 rfl) ?_
    refine lv_iload hx hb dX11_shortest_31 (lv_at hl 5 rfl) ?_
    obtain ⟨r_8, hc_7, h⟩ := nx_bd h
    refine nx_ki (nx_runV (As := [.int x3, .int x4]) (rest := []) X hS hP (c_X11_shortestOf l N E H.size a wide tall groups tours tourLength rowMany cameBy top east south rolled off kind mark k_4 k_5 onward at_ goes firstTour rowWay rowSeen prints homeward x3 x4 _ hc_7) nx_FA qV_RX11_145 ⟨rfl, rfl⟩ ⟨Nat.le_of_ble_eq_true rfl, Nat.le_of_ble_eq_true rfl⟩ ⟨Nat.zero_le _, Nat.zero_le _⟩ 0 rfl rfl rfl rfl hl.1 (Nat.le_of_ble_eq_true rfl) dX11_shortest_33) hS nx_FA (fun H locs hP hS => ?_)
    refine lv_istore (lv' := [(6, .int r_8), (5, .int r_2), (0, .ref (a 0)), (1, .int x1), (2, .int x2), (3, .int x3), (4, .int x4)]) hx hb dX11_shortest_36 hl (by decide) rfl (fun ls hl => ?_)
    refine lv_iload hx hb dX11_shortest_38 (lv_at hl 0 rfl) ?_
    refine lv_ldc hx hb hown (hts _ wk_RX11_99) dX11_shortest_40 ?_
    refine lv_icmp_ne (tgt := 50) hx hb dX11_shortest_42 (by decide) (fun hc => ?_) (fun hc => ?_)
    · have h := nx_if h hc
      refine lv_iload hx hb dX11_shortest_50 (lv_at hl 0 rfl) ?_
      exact kr 52 ls r_8 (k_4, k_5) H locs dX11_shortest_52 (Option.some.inj h) hP hS
    · have h := nx_it h hc
      refine lv_bipush (v := (-9)) hx hb dX11_shortest_45 (by decide) ?_
      refine lv_goto (tgt := 52) hx hb dX11_shortest_47 (by decide) ?_
      exact kr 52 ls (-9) (k_4, k_5) H locs dX11_shortest_52 (Option.some.inj h) hP hS
  · have h := nx_if h hc
    refine lv_iload hx hb dX11_shortest_16 (lv_at hl 0 rfl) ?_
    exact kr 18 ls r_2 (rolls, many) H locs dX11_shortest_18 (Option.some.inj h) hP hS
def f_X11_ways_j104 (rec : (Int64 × Int32) → Option (Int64)) (x3 : Int32) (x4 : Int32) (x6 : Int32) (x9 : Int32) (s0 : Int64) (s1 : Int64) : Option (Int64) :=
  rec ((s1 + s0), (x9 + 1))
def f_X11_ways_b48 (x3 : Int32) (x4 : Int32) (x6 : Int32) (top : Nat → Int32) (rolls : Nat → Int32) (many : Nat → Int64) (rec : (Int64 × Int32) → Option (Int64)) (x7 : Int64) (x9 : Int32) : Option (Int64) :=
  if ((24 * x3) + 24) ≤ x9 then (some x7) else (if 100000000 ≤ x6 then (some x7) else ((f_X11_isGoal x9 x3 x4 top).bind fun r_2 => if r_2 = 0 then (f_X11_ways_j104 rec x3 x4 x6 x9 0 x7) else ((nx_rd rolls 600 x9).bind fun _ => if (rolls x9.toNatClampNeg) = x6 then ((nx_rd many 600 x9).bind fun _ => f_X11_ways_j104 rec x3 x4 x6 x9 (many x9.toNatClampNeg) x7) else (f_X11_ways_j104 rec x3 x4 x6 x9 0 x7))))
def f_X11_ways_l48 (x3 : Int32) (x4 : Int32) (x6 : Int32) (top : Nat → Int32) (rolls : Nat → Int32) (many : Nat → Int64) : Nat → (Int64 × Int32) → Option (Int64) := nx_lp (fun rec z => f_X11_ways_b48 x3 x4 x6 top rolls many rec z.1 z.2)
def f_X11_ways (N : Nat) (x1 : Int32) (x2 : Int32) (x3 : Int32) (x4 : Int32) (wide : Int32) (tall : Int32) (groups : Int32) (top : Nat → Int32) (rolled : Nat → Int32) (kind : Nat → Int32) (mark : Nat → Int32) (rolls : Nat → Int32) (many : Nat → Int64) : Option (Int64 × ((Nat → Int32) × (Nat → Int64))) :=
  (f_X11_mayGo x1 x2 x3 x4 wide tall).bind fun r_8 => if 0 ≤ r_8 then ((f_X11_layFrom N ((24 * x1) + x2) wide tall groups top rolled kind mark rolls many).bind fun t_12 => (f_X11_shortestOf N x3 x4 top t_12.1).bind fun r_14 => (f_X11_ways_l48 x3 x4 r_14 top t_12.1 t_12.2 N (0, (24 * x3))).bind fun z_15 => some (z_15, (t_12.1, t_12.2))) else (some (((r_8 : Int32).toInt64), (rolls, many)))
set_option maxHeartbeats 4000000 in
set_option maxRecDepth 100000 in
theorem c_X11_ways (l : Launch) (N : Nat) (E : nx_E) (sz : Nat) (a : Nat → Nat) (wide : Int32) (tall : Int32) (groups : Int32) (tours : Int32) (tourLength : Int32) (rowMany : Int32) (cameBy : Int32) (top : Nat → Int32) (east : Nat → Int32) (south : Nat → Int32) (rolled : Nat → Int32) (off : Nat → Int32) (kind : Nat → Int32) (mark : Nat → Int32) (rolls : Nat → Int32) (many : Nat → Int64) (onward : Nat → Int32) (at_ : Nat → Int32) (goes : Nat → Int32) (firstTour : Nat → Int32) (rowWay : Nat → Int32) (rowSeen : Nat → Int32) (prints : Nat → Int32) (homeward : Nat → Int32) (x1 : Int32) (x2 : Int32) (x3 : Int32) (x4 : Int32) (hI : nx_inj a 18) (o : Int64 × ((Nat → Int32) × (Nat → Int64))) (h : f_X11_ways N x1 x2 x3 x4 wide tall groups top rolled kind mark rolls many = some o) : Met l yX11_ways (.code yX11_ways cX11_ways 10 (some .long) :: nx_T) (nx_rm 4 99) (va_Pc [.ref (a 0), .int x1, .int x2, .int x3, .int x4] (nx_P E (nx_A a 18 sz) sz (mW E a wide tall groups tours tourLength rowMany cameBy top east south rolled off kind mark rolls many onward at_ goes firstTour rowWay rowSeen prints homeward))) (va_Ql (fun v u => (v, u) = o) (fun u t => va_P E.1 vwCl (mW E a wide tall groups tours tourLength rowMany cameBy top east south rolled off kind mark (u.1) (u.2) onward at_ goes firstTour rowWay rowSeen prints homeward) t.heap) (nx_A a 18 sz)) 0 0 (nx_A a 18 sz) := by
  refine nx_enJ (fun v u => (v, u) = o) (fun (u : (Nat → Int32) × (Nat → Int64)) => (mW E a wide tall groups tours tourLength rowMany cameBy top east south rolled off kind mark (u.1) (u.2) onward at_ goes firstTour rowWay rowSeen prints homeward)) (by decide) (Nat.le_of_ble_eq_true rfl) ?_
  intro p e s m below meth c Q X kr hsz hP ls hl
  subst hsz
  generalize hargs : (List.toArray [.ref (a 0), .int x1, .int x2, .int x3, .int x4] : Array Value) = args at X kr ⊢
  clear hargs
  obtain ⟨⟨hx, hb, hml, hown, hts⟩, hK, hSt, hNz⟩ := id X
  have hS : va_S (nx_A a 18 s.heap.size) s.heap s.heap [] := va_S.rf
  have hl : lv_has ls 10 [(0, .ref (a 0)), (1, .int x1), (2, .int x2), (3, .int x3), (4, .int x4)] := hl
  have L48 : ∀ (x3 : Int32) (x4 : Int32) (x6 : Int32) (rolls : Nat → Int32) (many : Nat → Int64) (n : Nat) (x7 : Int64) (x9 : Int32) (z : (Int64)), f_X11_ways_l48 x3 x4 x6 top rolls many n (x7, x9) = some z → ∀ (H : Heap) (locs : List Loc) (ls : Array Slot), va_P E.1 vwCl (mW E a wide tall groups tours tourLength rowMany cameBy top east south rolled off kind mark rolls many onward at_ goes firstTour rowWay rowSeen prints homeward) H → va_S (nx_A a 18 s.heap.size) s.heap H locs → lv_has ls 10 [(0, .ref (a 0)), (3, .int x3), (4, .int x4), (6, .int x6), (7, .long x7), (9, .int x9)] → ∀ (kR : ∀ (H : Heap) (locs : List Loc) (ls : Array Slot), va_P E.1 vwCl (mW E a wide tall groups tours tourLength rowMany cameBy top east south rolled off kind mark rolls many onward at_ goes firstTour rowWay rowSeen prints homeward) H → va_S (nx_A a 18 s.heap.size) s.heap H locs → lv_has ls 10 [(0, .ref (a 0)), (7, .long z)] → W p l e (nx_rm 4 99) s m args below meth c H locs 0 0 Q (F0 m 113 ls [])), W p l e (nx_rm 4 99) s m args below meth c H locs 0 0 Q (F0 m 48 ls []) := by
   intro x3 x4 x6 rolls many n
   induction n with
   | zero => intro x7 x9 z h; exact nomatch (show none = some z from h)
   | succ n ih =>
    intro x7 x9 z h H locs ls hP hS hl kR
    have h : f_X11_ways_b48 x3 x4 x6 top rolls many (f_X11_ways_l48 x3 x4 x6 top rolls many n) x7 x9 = some z := h
    have J104 : ∀ (x9 : Int32) (s0 : Int64) (s1 : Int64), f_X11_ways_j104 (f_X11_ways_l48 x3 x4 x6 top rolls many n) x3 x4 x6 x9 s0 s1 = some z → ∀ (H : Heap) (locs : List Loc) (ls : Array Slot), va_P E.1 vwCl (mW E a wide tall groups tours tourLength rowMany cameBy top east south rolled off kind mark rolls many onward at_ goes firstTour rowWay rowSeen prints homeward) H → va_S (nx_A a 18 s.heap.size) s.heap H locs → lv_has ls 10 [(0, .ref (a 0)), (3, .int x3), (4, .int x4), (6, .int x6), (9, .int x9)] → W p l e (nx_rm 4 99) s m args below meth c H locs 0 0 Q (F0 m 104 ls [.long s0, .long s1]) := by
      intro x9 s0 s1 h H locs ls hP hS hl
      unfold f_X11_ways_j104 at h
      refine lv_ladd hx hb dX11_ways_104 ?_
      refine lv_lstore (lv' := [(7, .long (s1 + s0)), (0, .ref (a 0)), (3, .int x3), (4, .int x4), (6, .int x6), (9, .int x9)]) hx hb dX11_ways_105 hl (by decide) rfl (fun ls hl => ?_)
      refine lv_iinc (v := (x9 + 1)) (lv' := [(9, .int (x9 + 1)), (7, .long (s1 + s0)), (0, .ref (a 0)), (3, .int x3), (4, .int x4), (6, .int x6)]) hx hb dX11_ways_107 hl (k := 5) rfl rfl (by decide) rfl (fun ls hl => ?_)
      refine lv_goto (tgt := 48) hx hb dX11_ways_110 (by decide) ?_
      exact ih _ _ z h H locs ls hP hS (lv_sub hl [2, 3, 4, 5, 1, 0] rfl) kR
    unfold f_X11_ways_b48 at h
    refine lv_iload hx hb dX11_ways_48 (lv_at hl 5 rfl) ?_
    refine lv_bipush (v := 24) hx hb dX11_ways_50 (by decide) ?_
    refine lv_iload_n hx hb dX11_ways_52 rfl (lv_at hl 1 rfl) ?_
    refine lv_imul hx hb dX11_ways_53 ?_
    refine lv_bipush (v := 24) hx hb dX11_ways_54 (by decide) ?_
    refine lv_iadd hx hb dX11_ways_56 ?_
    refine lv_icmp_ge (tgt := 113) hx hb dX11_ways_57 (by decide) (fun hc => ?_) (fun hc => ?_)
    · have h := nx_it h hc
      obtain rfl := Option.some.inj h
      exact kR H locs ls hP hS (lv_sub hl [0, 4] rfl)
    · have h := nx_if h hc
      refine lv_iload hx hb dX11_ways_60 (lv_at hl 3 rfl) ?_
      refine lv_ldc hx hb hown (hts _ wk_RX11_99) dX11_ways_62 ?_
      refine lv_icmp_ge (tgt := 113) hx hb dX11_ways_64 (by decide) (fun hc => ?_) (fun hc => ?_)
      · have h := nx_it h hc
        obtain rfl := Option.some.inj h
        exact kR H locs ls hP hS (lv_sub hl [0, 4] rfl)
      · have h := nx_if h hc
        refine lv_lload hx hb dX11_ways_67 (lv_at hl 4 rfl) ?_
        refine lv_aload_n hx hb dX11_ways_69 rfl (lv_at hl 0 rfl) ?_
        refine lv_iload hx hb dX11_ways_70 (lv_at hl 5 rfl) ?_
        refine lv_iload_n hx hb dX11_ways_72 rfl (lv_at hl 1 rfl) ?_
        refine lv_iload hx hb dX11_ways_73 (lv_at hl 2 rfl) ?_
        obtain ⟨r_2, hc_1, h⟩ := nx_bd h
        refine nx_ki (nx_runV (As := [.int x9, .int x3, .int x4]) (rest := [.long x7]) X hS hP (c_X11_isGoal l E H.size a wide tall groups tours tourLength rowMany cameBy top east south rolled off kind mark rolls many onward at_ goes firstTour rowWay rowSeen prints homeward x9 x3 x4 _ hc_1) nx_FA qV_RX11_133 ⟨rfl, rfl⟩ ⟨Nat.le_of_ble_eq_true rfl, Nat.le_of_ble_eq_true rfl⟩ ⟨Nat.zero_le _, Nat.zero_le _⟩ 0 rfl rfl rfl rfl hl.1 (Nat.le_of_ble_eq_true rfl) dX11_ways_75) hS nx_FA (fun H locs hP hS => ?_)
        refine lv_if_eq (tgt := 103) hx hb dX11_ways_78 (by decide) (fun hc => ?_) (fun hc => ?_)
        · have h := nx_it h hc
          refine lv_lconst (v := 0) hx hb dX11_ways_103 (by decide) ?_
          exact J104 _ _ _ h H locs ls hP hS (lv_sub hl [0, 1, 2, 3, 5] rfl)
        · have h := nx_if h hc
          refine lv_aload_n hx hb dX11_ways_81 rfl (lv_at hl 0 rfl) ?_
          refine nx_gf X hP uw_X11 (ci := 10) rfl 0 rfl 10 (by decide) wf_RX11_38 rfl dX11_ways_82 ?_
          refine lv_iload hx hb dX11_ways_85 (lv_at hl 5 rfl) ?_
          obtain ⟨hv_3, h⟩ := nx_rb h
          refine nx_ld X hP 8 rfl hv_3 dX11_ways_87 ?_
          refine lv_iload hx hb dX11_ways_88 (lv_at hl 3 rfl) ?_
          refine lv_icmp_ne (tgt := 103) hx hb dX11_ways_90 (by decide) (fun hc => ?_) (fun hc => ?_)
          · have h := nx_if h hc
            refine lv_lconst (v := 0) hx hb dX11_ways_103 (by decide) ?_
            exact J104 _ _ _ h H locs ls hP hS (lv_sub hl [0, 1, 2, 3, 5] rfl)
          · have h := nx_it h hc
            refine lv_aload_n hx hb dX11_ways_93 rfl (lv_at hl 0 rfl) ?_
            refine nx_gf X hP uw_X11 (ci := 10) rfl 0 rfl 11 (by decide) wf_RX11_41 rfl dX11_ways_94 ?_
            refine lv_iload hx hb dX11_ways_97 (lv_at hl 5 rfl) ?_
            obtain ⟨hv_5, h⟩ := nx_rb h
            refine nx_ldl X hP 9 rfl hv_5 dX11_ways_99 ?_
            refine lv_goto (tgt := 104) hx hb dX11_ways_100 (by decide) ?_
            exact J104 _ _ _ h H locs ls hP hS (lv_sub hl [0, 1, 2, 3, 5] rfl)
  unfold f_X11_ways at h
  suffices hw : ∀ (H : Heap) (locs : List Loc), va_P E.1 vwCl (mW E a wide tall groups tours tourLength rowMany cameBy top east south rolled off kind mark rolls many onward at_ goes firstTour rowWay rowSeen prints homeward) H → va_S (nx_A a 18 s.heap.size) s.heap H locs → W p l e (nx_rm 4 99) s m args below meth c H locs 0 0 Q (F0 m 0 ls []) from hw _ _ hP va_S.rf
  intro H locs hP hS
  refine lv_aload_n hx hb dX11_ways_0 rfl (lv_at hl 0 rfl) ?_
  refine lv_iload_n hx hb dX11_ways_1 rfl (lv_at hl 1 rfl) ?_
  refine lv_iload_n hx hb dX11_ways_2 rfl (lv_at hl 2 rfl) ?_
  refine lv_iload_n hx hb dX11_ways_3 rfl (lv_at hl 3 rfl) ?_
  refine lv_iload hx hb dX11_ways_4 (lv_at hl 4 rfl) ?_
  obtain ⟨r_8, hc_7, h⟩ := nx_bd h
  refine nx_ki (nx_runV (As := [.int x1, .int x2, .int x3, .int x4]) (rest := []) X hS hP (c_X11_mayGo l E H.size a wide tall groups tours tourLength rowMany cameBy top east south rolled off kind mark rolls many onward at_ goes firstTour rowWay rowSeen prints homeward x1 x2 x3 x4 _ hc_7) nx_FA qV_RX11_137 ⟨rfl, rfl⟩ ⟨Nat.le_of_ble_eq_true rfl, Nat.le_of_ble_eq_true rfl⟩ ⟨Nat.zero_le _, Nat.zero_le _⟩ 0 rfl rfl rfl rfl hl.1 (Nat.le_of_ble_eq_true rfl) dX11_ways_6) hS nx_FA (fun H locs hP hS => ?_)
  refine lv_istore (lv' := [(5, .int r_8), (0, .ref (a 0)), (1, .int x1), (2, .int x2), (3, .int x3), (4, .int x4)]) hx hb dX11_ways_9 hl (by decide) rfl (fun ls hl => ?_)
  refine lv_iload hx hb dX11_ways_11 (lv_at hl 0 rfl) ?_
  refine lv_if_ge (tgt := 20) hx hb dX11_ways_13 (by decide) (fun hc => ?_) (fun hc => ?_)
  · have h := nx_it h hc
    refine lv_aload_n hx hb dX11_ways_20 rfl (lv_at hl 1 rfl) ?_
    refine lv_bipush (v := 24) hx hb dX11_ways_21 (by decide) ?_
    refine lv_iload_n hx hb dX11_ways_23 rfl (lv_at hl 2 rfl) ?_
    refine lv_imul hx hb dX11_ways_24 ?_
    refine lv_iload_n hx hb dX11_ways_25 rfl (lv_at hl 3 rfl) ?_
    refine lv_iadd hx hb dX11_ways_26 ?_
    obtain ⟨⟨k_10, k_11⟩, hc_9, h⟩ := nx_bd h
    refine nx_kv (nx_runV (As := [.int ((24 * x1) + x2)]) (rest := []) X hS hP (c_X11_layFrom l N E H.size a wide tall groups tours tourLength rowMany cameBy top east south rolled off kind mark rolls many onward at_ goes firstTour rowWay rowSeen prints homeward ((24 * x1) + x2) hI _ hc_9) (nx_Am hS.1) qV_RX11_141 ⟨rfl, rfl⟩ ⟨Nat.le_of_ble_eq_true rfl, Nat.le_of_ble_eq_true rfl⟩ ⟨Nat.zero_le _, Nat.zero_le _⟩ 0 rfl rfl rfl rfl hl.1 (Nat.le_of_ble_eq_true rfl) dX11_ways_27) hS (nx_Am hS.1) (fun H locs hP hS => ?_)
    have hP : va_P E.1 vwCl (mW E a wide tall groups tours tourLength rowMany cameBy top east south rolled off kind mark k_10 k_11 onward at_ goes firstTour rowWay rowSeen prints homeward) H := hP
    refine lv_aload_n hx hb dX11_ways_30 rfl (lv_at hl 1 rfl) ?_
    refine lv_iload_n hx hb dX11_ways_31 rfl (lv_at hl 4 rfl) ?_
    refine lv_iload hx hb dX11_ways_32 (lv_at hl 5 rfl) ?_
    obtain ⟨r_14, hc_13, h⟩ := nx_bd h
    refine nx_ki (nx_runV (As := [.int x3, .int x4]) (rest := []) X hS hP (c_X11_shortestOf l N E H.size a wide tall groups tours tourLength rowMany cameBy top east south rolled off kind mark k_10 k_11 onward at_ goes firstTour rowWay rowSeen prints homeward x3 x4 _ hc_13) nx_FA qV_RX11_145 ⟨rfl, rfl⟩ ⟨Nat.le_of_ble_eq_true rfl, Nat.le_of_ble_eq_true rfl⟩ ⟨Nat.zero_le _, Nat.zero_le _⟩ 0 rfl rfl rfl rfl hl.1 (Nat.le_of_ble_eq_true rfl) dX11_ways_34) hS nx_FA (fun H locs hP hS => ?_)
    refine lv_istore (lv' := [(6, .int r_14), (5, .int r_8), (0, .ref (a 0)), (1, .int x1), (2, .int x2), (3, .int x3), (4, .int x4)]) hx hb dX11_ways_37 hl (by decide) rfl (fun ls hl => ?_)
    refine lv_lconst (v := 0) hx hb dX11_ways_39 (by decide) ?_
    refine lv_lstore (lv' := [(7, .long 0), (6, .int r_14), (5, .int r_8), (0, .ref (a 0)), (1, .int x1), (2, .int x2), (3, .int x3), (4, .int x4)]) hx hb dX11_ways_40 hl (by decide) rfl (fun ls hl => ?_)
    refine lv_bipush (v := 24) hx hb dX11_ways_42 (by decide) ?_
    refine lv_iload_n hx hb dX11_ways_44 rfl (lv_at hl 6 rfl) ?_
    refine lv_imul hx hb dX11_ways_45 ?_
    refine lv_istore (lv' := [(9, .int (24 * x3)), (7, .long 0), (6, .int r_14), (5, .int r_8), (0, .ref (a 0)), (1, .int x1), (2, .int x2), (3, .int x3), (4, .int x4)]) hx hb dX11_ways_46 hl (by decide) rfl (fun ls hl => ?_)
    obtain ⟨z_15, hz_16, h⟩ := nx_bd h
    refine L48 _ _ _ _ _ N _ _ _ hz_16 H locs ls hP hS (lv_sub hl [4, 7, 8, 2, 1, 0] rfl) (fun H locs ls hP hS hl => ?_)
    refine lv_lload hx hb dX11_ways_113 (lv_at hl 1 rfl) ?_
    exact kr 115 ls z_15 (k_10, k_11) H locs dX11_ways_115 (Option.some.inj h) hP hS
  · have h := nx_if h hc
    refine lv_iload hx hb dX11_ways_16 (lv_at hl 0 rfl) ?_
    refine lv_i2l (v := (r_8 : Int32).toInt64) hx hb dX11_ways_18 rfl ?_
    exact kr 19 ls ((r_8 : Int32).toInt64) (rolls, many) H locs dX11_ways_19 (Option.some.inj h) hP hS
def f_X11_layOnward_j40 (rec : (Int32 × (Nat → Int32)) → Option ((Nat → Int32))) (x1 : Int32) (x2 : Int32) (x3 : Int32) (x4 : Int32) (s0 : Int32) (s1 : Int32) (onward : Nat → Int32) : Option ((Nat → Int32)) :=
  (nx_ck 600 s1).bind fun _ => rec ((x4 + 1), (upd onward s1.toNatClampNeg s0))
def f_X11_layOnward_b11 (x1 : Int32) (x2 : Int32) (x3 : Int32) (top : Nat → Int32) (rec : (Int32 × (Nat → Int32)) → Option ((Nat → Int32))) (x4 : Int32) (onward : Nat → Int32) : Option ((Nat → Int32)) :=
  if x3 ≤ x4 then (some onward) else ((f_X11_isGoal x4 x1 x2 top).bind fun r_3 => if r_3 = 0 then (f_X11_layOnward_j40 rec x1 x2 x3 x4 100000000 x4 onward) else (f_X11_layOnward_j40 rec x1 x2 x3 x4 0 x4 onward))
def f_X11_layOnward_l11 (x1 : Int32) (x2 : Int32) (x3 : Int32) (top : Nat → Int32) : Nat → (Int32 × (Nat → Int32)) → Option ((Nat → Int32)) := nx_lp (fun rec z => f_X11_layOnward_b11 x1 x2 x3 top rec z.1 z.2)
def f_X11_layOnward_b61 (x3 : Int32) (wide : Int32) (tall : Int32) (groups : Int32) (top : Nat → Int32) (rolled : Nat → Int32) (kind : Nat → Int32) (mark : Nat → Int32) (rec : (Int32 × Int32 × (Nat → Int32)) → Option (Int32 × (Nat → Int32))) (x4 : Int32) (x5 : Int32) (onward : Nat → Int32) : Option (Int32 × (Nat → Int32)) :=
  if (4 * x3) ≤ x5 then (some (x4, onward)) else ((f_X11_rollOf (x5 / 4) (x5 - x5 / 4 * 4) wide tall groups top rolled kind mark).bind fun r_5 => if r_5 = (-9) then (rec (x4, (x5 + 1), onward)) else ((nx_rd onward 600 r_5).bind fun _ => (nx_rd onward 600 (x5 / 4)).bind fun _ => if (onward (x5 / 4).toNatClampNeg) ≤ ((onward r_5.toNatClampNeg) + 1) then (rec (x4, (x5 + 1), onward)) else ((nx_rd onward 600 r_5).bind fun _ => (nx_ck 600 (x5 / 4)).bind fun _ => rec (1, (x5 + 1), (upd onward (x5 / 4).toNatClampNeg ((onward r_5.toNatClampNeg) + 1))))))
def f_X11_layOnward_l61 (x3 : Int32) (wide : Int32) (tall : Int32) (groups : Int32) (top : Nat → Int32) (rolled : Nat → Int32) (kind : Nat → Int32) (mark : Nat → Int32) : Nat → (Int32 × Int32 × (Nat → Int32)) → Option (Int32 × (Nat → Int32)) := nx_lp (fun rec z => f_X11_layOnward_b61 x3 wide tall groups top rolled kind mark rec z.1 z.2.1 z.2.2)
def f_X11_layOnward_b50 (N : Nat) (x3 : Int32) (wide : Int32) (tall : Int32) (groups : Int32) (top : Nat → Int32) (rolled : Nat → Int32) (kind : Nat → Int32) (mark : Nat → Int32) (rec : (Int32 × (Nat → Int32)) → Option ((Nat → Int32))) (x4 : Int32) (onward : Nat → Int32) : Option ((Nat → Int32)) :=
  if x4 = 0 then (some onward) else ((f_X11_layOnward_l61 x3 wide tall groups top rolled kind mark N (0, 0, onward)).bind fun z_13 => rec (z_13.1, z_13.2))
def f_X11_layOnward_l50 (N : Nat) (x3 : Int32) (wide : Int32) (tall : Int32) (groups : Int32) (top : Nat → Int32) (rolled : Nat → Int32) (kind : Nat → Int32) (mark : Nat → Int32) : Nat → (Int32 × (Nat → Int32)) → Option ((Nat → Int32)) := nx_lp (fun rec z => f_X11_layOnward_b50 N x3 wide tall groups top rolled kind mark rec z.1 z.2)
def f_X11_layOnward (N : Nat) (x1 : Int32) (x2 : Int32) (wide : Int32) (tall : Int32) (groups : Int32) (top : Nat → Int32) (rolled : Nat → Int32) (kind : Nat → Int32) (mark : Nat → Int32) (onward : Nat → Int32) : Option ((Nat → Int32)) :=
  (f_X11_cells wide tall).bind fun r_16 => (f_X11_layOnward_l11 x1 x2 (24 * r_16) top N (0, onward)).bind fun z_17 => (f_X11_layOnward_l50 N (24 * r_16) wide tall groups top rolled kind mark N (1, z_17)).bind fun z_19 => some z_19
set_option maxHeartbeats 4000000 in
set_option maxRecDepth 100000 in
theorem c_X11_layOnward (l : Launch) (N : Nat) (E : nx_E) (sz : Nat) (a : Nat → Nat) (wide : Int32) (tall : Int32) (groups : Int32) (tours : Int32) (tourLength : Int32) (rowMany : Int32) (cameBy : Int32) (top : Nat → Int32) (east : Nat → Int32) (south : Nat → Int32) (rolled : Nat → Int32) (off : Nat → Int32) (kind : Nat → Int32) (mark : Nat → Int32) (rolls : Nat → Int32) (many : Nat → Int64) (onward : Nat → Int32) (at_ : Nat → Int32) (goes : Nat → Int32) (firstTour : Nat → Int32) (rowWay : Nat → Int32) (rowSeen : Nat → Int32) (prints : Nat → Int32) (homeward : Nat → Int32) (x1 : Int32) (x2 : Int32) (hI : nx_inj a 18) (o : (Nat → Int32)) (h : f_X11_layOnward N x1 x2 wide tall groups top rolled kind mark onward = some o) : Met l yX11_layOnward (.code yX11_layOnward cX11_layOnward 7 none :: nx_T) (nx_rm 3 73) (va_Pc [.ref (a 0), .int x1, .int x2] (nx_P E (nx_A a 18 sz) sz (mW E a wide tall groups tours tourLength rowMany cameBy top east south rolled off kind mark rolls many onward at_ goes firstTour rowWay rowSeen prints homeward))) (va_Qv (fun u => u = o) (fun u t => va_P E.1 vwCl (mW E a wide tall groups tours tourLength rowMany cameBy top east south rolled off kind mark rolls many u at_ goes firstTour rowWay rowSeen prints homeward) t.heap) (nx_A a 18 sz)) 0 0 (nx_A a 18 sz) := by
  refine nx_enV (fun u => u = o) (fun (u : (Nat → Int32)) => (mW E a wide tall groups tours tourLength rowMany cameBy top east south rolled off kind mark rolls many u at_ goes firstTour rowWay rowSeen prints homeward)) (by decide) (Nat.le_of_ble_eq_true rfl) ?_
  intro p e s m below meth c Q X kr hsz hP ls hl
  subst hsz
  generalize hargs : (List.toArray [.ref (a 0), .int x1, .int x2] : Array Value) = args at X kr ⊢
  clear hargs
  obtain ⟨⟨hx, hb, hml, hown, hts⟩, hK, hSt, hNz⟩ := id X
  have hS : va_S (nx_A a 18 s.heap.size) s.heap s.heap [] := va_S.rf
  have hl : lv_has ls 7 [(0, .ref (a 0)), (1, .int x1), (2, .int x2)] := hl
  have L11 : ∀ (x1 : Int32) (x2 : Int32) (x3 : Int32) (n : Nat) (x4 : Int32) (onward : Nat → Int32) (z : ((Nat → Int32))), f_X11_layOnward_l11 x1 x2 x3 top n (x4, onward) = some z → ∀ (H : Heap) (locs : List Loc) (ls : Array Slot), va_P E.1 vwCl (mW E a wide tall groups tours tourLength rowMany cameBy top east south rolled off kind mark rolls many onward at_ goes firstTour rowWay rowSeen prints homeward) H → va_S (nx_A a 18 s.heap.size) s.heap H locs → lv_has ls 7 [(0, .ref (a 0)), (1, .int x1), (2, .int x2), (3, .int x3), (4, .int x4)] → ∀ (kR : ∀ (H : Heap) (locs : List Loc) (ls : Array Slot), va_P E.1 vwCl (mW E a wide tall groups tours tourLength rowMany cameBy top east south rolled off kind mark rolls many z at_ goes firstTour rowWay rowSeen prints homeward) H → va_S (nx_A a 18 s.heap.size) s.heap H locs → lv_has ls 7 [(0, .ref (a 0)), (3, .int x3)] → W p l e (nx_rm 3 73) s m args below meth c H locs 0 0 Q (F0 m 47 ls [])), W p l e (nx_rm 3 73) s m args below meth c H locs 0 0 Q (F0 m 11 ls []) := by
   intro x1 x2 x3 n
   induction n with
   | zero => intro x4 onward z h; exact nomatch (show none = some z from h)
   | succ n ih =>
    intro x4 onward z h H locs ls hP hS hl kR
    have h : f_X11_layOnward_b11 x1 x2 x3 top (f_X11_layOnward_l11 x1 x2 x3 top n) x4 onward = some z := h
    have J40 : ∀ (x4 : Int32) (s0 : Int32) (s1 : Int32) (onward : Nat → Int32), f_X11_layOnward_j40 (f_X11_layOnward_l11 x1 x2 x3 top n) x1 x2 x3 x4 s0 s1 onward = some z → ∀ (H : Heap) (locs : List Loc) (ls : Array Slot), va_P E.1 vwCl (mW E a wide tall groups tours tourLength rowMany cameBy top east south rolled off kind mark rolls many onward at_ goes firstTour rowWay rowSeen prints homeward) H → va_S (nx_A a 18 s.heap.size) s.heap H locs → lv_has ls 7 [(0, .ref (a 0)), (1, .int x1), (2, .int x2), (3, .int x3), (4, .int x4)] → W p l e (nx_rm 3 73) s m args below meth c H locs 0 0 Q (F0 m 40 ls [.int s0, .int s1, .ref (a 10)]) := by
      intro x4 s0 s1 onward h H locs ls hP hS hl
      unfold f_X11_layOnward_j40 at h
      obtain ⟨hv_1, h⟩ := nx_cb h
      refine nx_st X hI mW_ad hP hS 10 rfl hv_1 dX11_layOnward_40 (fun H locs hP hS => ?_)
      have hP : va_P E.1 vwCl (mW E a wide tall groups tours tourLength rowMany cameBy top east south rolled off kind mark rolls many (upd onward s1.toNatClampNeg s0) at_ goes firstTour rowWay rowSeen prints homeward) H := hP
      refine lv_iinc (v := (x4 + 1)) (lv' := [(4, .int (x4 + 1)), (0, .ref (a 0)), (1, .int x1), (2, .int x2), (3, .int x3)]) hx hb dX11_layOnward_41 hl (k := 4) rfl rfl (by decide) rfl (fun ls hl => ?_)
      refine lv_goto (tgt := 11) hx hb dX11_layOnward_44 (by decide) ?_
      exact ih _ _ z h H locs ls hP hS (lv_sub hl [1, 2, 3, 4, 0] rfl) kR
    unfold f_X11_layOnward_b11 at h
    refine lv_iload hx hb dX11_layOnward_11 (lv_at hl 4 rfl) ?_
    refine lv_iload_n hx hb dX11_layOnward_13 rfl (lv_at hl 3 rfl) ?_
    refine lv_icmp_ge (tgt := 47) hx hb dX11_layOnward_14 (by decide) (fun hc => ?_) (fun hc => ?_)
    · have h := nx_it h hc
      obtain rfl := Option.some.inj h
      exact kR H locs ls hP hS (lv_sub hl [0, 3] rfl)
    · have h := nx_if h hc
      refine lv_aload_n hx hb dX11_layOnward_17 rfl (lv_at hl 0 rfl) ?_
      refine nx_gf X hP uw_X11 (ci := 10) rfl 0 rfl 12 (by decide) wf_RX11_45 rfl dX11_layOnward_18 ?_
      refine lv_iload hx hb dX11_layOnward_21 (lv_at hl 4 rfl) ?_
      refine lv_aload_n hx hb dX11_layOnward_23 rfl (lv_at hl 0 rfl) ?_
      refine lv_iload hx hb dX11_layOnward_24 (lv_at hl 4 rfl) ?_
      refine lv_iload_n hx hb dX11_layOnward_26 rfl (lv_at hl 1 rfl) ?_
      refine lv_iload_n hx hb dX11_layOnward_27 rfl (lv_at hl 2 rfl) ?_
      obtain ⟨r_3, hc_2, h⟩ := nx_bd h
      refine nx_ki (nx_runV (As := [.int x4, .int x1, .int x2]) (rest := [.int x4, .ref (a 10)]) X hS hP (c_X11_isGoal l E H.size a wide tall groups tours tourLength rowMany cameBy top east south rolled off kind mark rolls many onward at_ goes firstTour rowWay rowSeen prints homeward x4 x1 x2 _ hc_2) nx_FA qV_RX11_133 ⟨rfl, rfl⟩ ⟨Nat.le_of_ble_eq_true rfl, Nat.le_of_ble_eq_true rfl⟩ ⟨Nat.zero_le _, Nat.zero_le _⟩ 0 rfl rfl rfl rfl hl.1 (Nat.le_of_ble_eq_true rfl) dX11_layOnward_28) hS nx_FA (fun H locs hP hS => ?_)
      refine lv_if_eq (tgt := 38) hx hb dX11_layOnward_31 (by decide) (fun hc => ?_) (fun hc => ?_)
      · have h := nx_it h hc
        refine lv_ldc hx hb hown (hts _ wk_RX11_99) dX11_layOnward_38 ?_
        exact J40 _ _ _ _ h H locs ls hP hS (lv_sub hl [0, 1, 2, 3, 4] rfl)
      · have h := nx_if h hc
        refine lv_iconst (v := 0) hx hb dX11_layOnward_34 (by decide) ?_
        refine lv_goto (tgt := 40) hx hb dX11_layOnward_35 (by decide) ?_
        exact J40 _ _ _ _ h H locs ls hP hS (lv_sub hl [0, 1, 2, 3, 4] rfl)
  have L61 : ∀ (x3 : Int32) (n : Nat) (x4 : Int32) (x5 : Int32) (onward : Nat → Int32) (z : (Int32 × (Nat → Int32))), f_X11_layOnward_l61 x3 wide tall groups top rolled kind mark n (x4, x5, onward) = some z → ∀ (H : Heap) (locs : List Loc) (ls : Array Slot), va_P E.1 vwCl (mW E a wide tall groups tours tourLength rowMany cameBy top east south rolled off kind mark rolls many onward at_ goes firstTour rowWay rowSeen prints homeward) H → va_S (nx_A a 18 s.heap.size) s.heap H locs → lv_has ls 7 [(0, .ref (a 0)), (3, .int x3), (4, .int x4), (5, .int x5)] → ∀ (kR : ∀ (H : Heap) (locs : List Loc) (ls : Array Slot), va_P E.1 vwCl (mW E a wide tall groups tours tourLength rowMany cameBy top east south rolled off kind mark rolls many (z.2) at_ goes firstTour rowWay rowSeen prints homeward) H → va_S (nx_A a 18 s.heap.size) s.heap H locs → lv_has ls 7 [(0, .ref (a 0)), (3, .int x3), (4, .int z.1)] → W p l e (nx_rm 3 73) s m args below meth c H locs 0 0 Q (F0 m 138 ls [])), W p l e (nx_rm 3 73) s m args below meth c H locs 0 0 Q (F0 m 61 ls []) := by
   intro x3 n
   induction n with
   | zero => intro x4 x5 onward z h; exact nomatch (show none = some z from h)
   | succ n ih =>
    intro x4 x5 onward z h H locs ls hP hS hl kR
    have h : f_X11_layOnward_b61 x3 wide tall groups top rolled kind mark (f_X11_layOnward_l61 x3 wide tall groups top rolled kind mark n) x4 x5 onward = some z := h
    unfold f_X11_layOnward_b61 at h
    refine lv_iload hx hb dX11_layOnward_61 (lv_at hl 3 rfl) ?_
    refine lv_iconst (v := 4) hx hb dX11_layOnward_63 (by decide) ?_
    refine lv_iload_n hx hb dX11_layOnward_64 rfl (lv_at hl 1 rfl) ?_
    refine lv_imul hx hb dX11_layOnward_65 ?_
    refine lv_icmp_ge (tgt := 138) hx hb dX11_layOnward_66 (by decide) (fun hc => ?_) (fun hc => ?_)
    · have h := nx_it h hc
      obtain rfl := Option.some.inj h
      exact kR H locs ls hP hS (lv_sub hl [0, 1, 2] rfl)
    · have h := nx_if h hc
      refine lv_aload_n hx hb dX11_layOnward_69 rfl (lv_at hl 0 rfl) ?_
      refine lv_iload hx hb dX11_layOnward_70 (lv_at hl 3 rfl) ?_
      refine lv_iconst (v := 4) hx hb dX11_layOnward_72 (by decide) ?_
      refine lv_idiv hx hb dX11_layOnward_73 (by decide) ?_
      refine lv_iload hx hb dX11_layOnward_74 (lv_at hl 3 rfl) ?_
      refine lv_iconst (v := 4) hx hb dX11_layOnward_76 (by decide) ?_
      refine lv_irem hx hb dX11_layOnward_77 (by decide) ?_
      obtain ⟨r_5, hc_4, h⟩ := nx_bd h
      refine nx_ki (nx_runV (As := [.int (x5 / 4), .int (x5 - x5 / 4 * 4)]) (rest := []) X hS hP (c_X11_rollOf l E H.size a wide tall groups tours tourLength rowMany cameBy top east south rolled off kind mark rolls many onward at_ goes firstTour rowWay rowSeen prints homeward (x5 / 4) (x5 - x5 / 4 * 4) _ hc_4) nx_FA qV_RX11_123 ⟨rfl, rfl⟩ ⟨Nat.le_of_ble_eq_true rfl, Nat.le_of_ble_eq_true rfl⟩ ⟨Nat.zero_le _, Nat.zero_le _⟩ 0 rfl rfl rfl rfl hl.1 (Nat.le_of_ble_eq_true rfl) dX11_layOnward_78) hS nx_FA (fun H locs hP hS => ?_)
      refine lv_istore (lv' := [(6, .int r_5), (0, .ref (a 0)), (3, .int x3), (4, .int x4), (5, .int x5)]) hx hb dX11_layOnward_81 hl (by decide) rfl (fun ls hl => ?_)
      refine lv_iload hx hb dX11_layOnward_83 (lv_at hl 0 rfl) ?_
      refine lv_bipush (v := (-9)) hx hb dX11_layOnward_85 (by decide) ?_
      refine lv_icmp_eq (tgt := 132) hx hb dX11_layOnward_87 (by decide) (fun hc => ?_) (fun hc => ?_)
      · have h := nx_it h hc
        refine lv_iinc (v := (x5 + 1)) (lv' := [(5, .int (x5 + 1)), (6, .int r_5), (0, .ref (a 0)), (3, .int x3), (4, .int x4)]) hx hb dX11_layOnward_132 hl (k := 4) rfl rfl (by decide) rfl (fun ls hl => ?_)
        refine lv_goto (tgt := 61) hx hb dX11_layOnward_135 (by decide) ?_
        exact ih _ _ _ z h H locs ls hP hS (lv_sub hl [2, 3, 4, 0] rfl) kR
      · have h := nx_if h hc
        refine lv_aload_n hx hb dX11_layOnward_90 rfl (lv_at hl 1 rfl) ?_
        refine nx_gf X hP uw_X11 (ci := 10) rfl 0 rfl 12 (by decide) wf_RX11_45 rfl dX11_layOnward_91 ?_
        refine lv_iload hx hb dX11_layOnward_94 (lv_at hl 0 rfl) ?_
        obtain ⟨hv_6, h⟩ := nx_rb h
        refine nx_ld X hP 10 rfl hv_6 dX11_layOnward_96 ?_
        refine lv_iconst (v := 1) hx hb dX11_layOnward_97 (by decide) ?_
        refine lv_iadd hx hb dX11_layOnward_98 ?_
        refine lv_aload_n hx hb dX11_layOnward_99 rfl (lv_at hl 1 rfl) ?_
        refine nx_gf X hP uw_X11 (ci := 10) rfl 0 rfl 12 (by decide) wf_RX11_45 rfl dX11_layOnward_100 ?_
        refine lv_iload hx hb dX11_layOnward_103 (lv_at hl 4 rfl) ?_
        refine lv_iconst (v := 4) hx hb dX11_layOnward_105 (by decide) ?_
        refine lv_idiv hx hb dX11_layOnward_106 (by decide) ?_
        obtain ⟨hv_8, h⟩ := nx_rb h
        refine nx_ld X hP 10 rfl hv_8 dX11_layOnward_107 ?_
        refine lv_icmp_ge (tgt := 132) hx hb dX11_layOnward_108 (by decide) (fun hc => ?_) (fun hc => ?_)
        · have h := nx_it h hc
          refine lv_iinc (v := (x5 + 1)) (lv' := [(5, .int (x5 + 1)), (6, .int r_5), (0, .ref (a 0)), (3, .int x3), (4, .int x4)]) hx hb dX11_layOnward_132 hl (k := 4) rfl rfl (by decide) rfl (fun ls hl => ?_)
          refine lv_goto (tgt := 61) hx hb dX11_layOnward_135 (by decide) ?_
          exact ih _ _ _ z h H locs ls hP hS (lv_sub hl [2, 3, 4, 0] rfl) kR
        · have h := nx_if h hc
          refine lv_aload_n hx hb dX11_layOnward_111 rfl (lv_at hl 1 rfl) ?_
          refine nx_gf X hP uw_X11 (ci := 10) rfl 0 rfl 12 (by decide) wf_RX11_45 rfl dX11_layOnward_112 ?_
          refine lv_iload hx hb dX11_layOnward_115 (lv_at hl 4 rfl) ?_
          refine lv_iconst (v := 4) hx hb dX11_layOnward_117 (by decide) ?_
          refine lv_idiv hx hb dX11_layOnward_118 (by decide) ?_
          refine lv_aload_n hx hb dX11_layOnward_119 rfl (lv_at hl 1 rfl) ?_
          refine nx_gf X hP uw_X11 (ci := 10) rfl 0 rfl 12 (by decide) wf_RX11_45 rfl dX11_layOnward_120 ?_
          refine lv_iload hx hb dX11_layOnward_123 (lv_at hl 0 rfl) ?_
          obtain ⟨hv_10, h⟩ := nx_rb h
          refine nx_ld X hP 10 rfl hv_10 dX11_layOnward_125 ?_
          refine lv_iconst (v := 1) hx hb dX11_layOnward_126 (by decide) ?_
          refine lv_iadd hx hb dX11_layOnward_127 ?_
          obtain ⟨hv_12, h⟩ := nx_cb h
          refine nx_st X hI mW_ad hP hS 10 rfl hv_12 dX11_layOnward_128 (fun H locs hP hS => ?_)
          have hP : va_P E.1 vwCl (mW E a wide tall groups tours tourLength rowMany cameBy top east south rolled off kind mark rolls many (upd onward (x5 / 4).toNatClampNeg ((onward r_5.toNatClampNeg) + 1)) at_ goes firstTour rowWay rowSeen prints homeward) H := hP
          refine lv_iconst (v := 1) hx hb dX11_layOnward_129 (by decide) ?_
          refine lv_istore (lv' := [(4, .int 1), (6, .int r_5), (0, .ref (a 0)), (3, .int x3), (5, .int x5)]) hx hb dX11_layOnward_130 hl (by decide) rfl (fun ls hl => ?_)
          refine lv_iinc (v := (x5 + 1)) (lv' := [(5, .int (x5 + 1)), (4, .int 1), (6, .int r_5), (0, .ref (a 0)), (3, .int x3)]) hx hb dX11_layOnward_132 hl (k := 4) rfl rfl (by decide) rfl (fun ls hl => ?_)
          refine lv_goto (tgt := 61) hx hb dX11_layOnward_135 (by decide) ?_
          exact ih _ _ _ z h H locs ls hP hS (lv_sub hl [3, 4, 1, 0] rfl) kR
  have L50 : ∀ (x3 : Int32) (n : Nat) (x4 : Int32) (onward : Nat → Int32) (z : ((Nat → Int32))), f_X11_layOnward_l50 N x3 wide tall groups top rolled kind mark n (x4, onward) = some z → ∀ (H : Heap) (locs : List Loc) (ls : Array Slot), va_P E.1 vwCl (mW E a wide tall groups tours tourLength rowMany cameBy top east south rolled off kind mark rolls many onward at_ goes firstTour rowWay rowSeen prints homeward) H → va_S (nx_A a 18 s.heap.size) s.heap H locs → lv_has ls 7 [(0, .ref (a 0)), (3, .int x3), (4, .int x4)] → ∀ (kR : ∀ (H : Heap) (locs : List Loc) (ls : Array Slot), va_P E.1 vwCl (mW E a wide tall groups tours tourLength rowMany cameBy top east south rolled off kind mark rolls many z at_ goes firstTour rowWay rowSeen prints homeward) H → va_S (nx_A a 18 s.heap.size) s.heap H locs → lv_has ls 7 [(0, .ref (a 0))] → W p l e (nx_rm 3 73) s m args below meth c H locs 0 0 Q (F0 m 141 ls [])), W p l e (nx_rm 3 73) s m args below meth c H locs 0 0 Q (F0 m 50 ls []) := by
   intro x3 n
   induction n with
   | zero => intro x4 onward z h; exact nomatch (show none = some z from h)
   | succ n ih =>
    intro x4 onward z h H locs ls hP hS hl kR
    have h : f_X11_layOnward_b50 N x3 wide tall groups top rolled kind mark (f_X11_layOnward_l50 N x3 wide tall groups top rolled kind mark n) x4 onward = some z := h
    unfold f_X11_layOnward_b50 at h
    refine lv_iload hx hb dX11_layOnward_50 (lv_at hl 2 rfl) ?_
    refine lv_if_eq (tgt := 141) hx hb dX11_layOnward_52 (by decide) (fun hc => ?_) (fun hc => ?_)
    · have h := nx_it h hc
      obtain rfl := Option.some.inj h
      exact kR H locs ls hP hS (lv_sub hl [0] rfl)
    · have h := nx_if h hc
      refine lv_iconst (v := 0) hx hb dX11_layOnward_55 (by decide) ?_
      refine lv_istore (lv' := [(4, .int 0), (0, .ref (a 0)), (3, .int x3)]) hx hb dX11_layOnward_56 hl (by decide) rfl (fun ls hl => ?_)
      refine lv_iconst (v := 0) hx hb dX11_layOnward_58 (by decide) ?_
      refine lv_istore (lv' := [(5, .int 0), (4, .int 0), (0, .ref (a 0)), (3, .int x3)]) hx hb dX11_layOnward_59 hl (by decide) rfl (fun ls hl => ?_)
      obtain ⟨z_13, hz_14, h⟩ := nx_bd h
      refine L61 _ N _ _ _ _ hz_14 H locs ls hP hS (lv_sub hl [2, 3, 1, 0] rfl) (fun H locs ls hP hS hl => ?_)
      refine lv_goto (tgt := 50) hx hb dX11_layOnward_138 (by decide) ?_
      exact ih _ _ z h H locs ls hP hS (lv_sub hl [0, 1, 2] rfl) kR
  unfold f_X11_layOnward at h
  suffices hw : ∀ (H : Heap) (locs : List Loc), va_P E.1 vwCl (mW E a wide tall groups tours tourLength rowMany cameBy top east south rolled off kind mark rolls many onward at_ goes firstTour rowWay rowSeen prints homeward) H → va_S (nx_A a 18 s.heap.size) s.heap H locs → W p l e (nx_rm 3 73) s m args below meth c H locs 0 0 Q (F0 m 0 ls []) from hw _ _ hP va_S.rf
  intro H locs hP hS
  refine lv_bipush (v := 24) hx hb dX11_layOnward_0 (by decide) ?_
  refine lv_aload_n hx hb dX11_layOnward_2 rfl (lv_at hl 0 rfl) ?_
  obtain ⟨r_16, hc_15, h⟩ := nx_bd h
  refine nx_ki (nx_runV (As := []) (rest := [.int 24]) X hS hP (c_X11_cells l E H.size a wide tall groups tours tourLength rowMany cameBy top east south rolled off kind mark rolls many onward at_ goes firstTour rowWay rowSeen prints homeward _ hc_15) nx_FA qV_RX11_100 ⟨rfl, rfl⟩ ⟨Nat.le_of_ble_eq_true rfl, Nat.le_of_ble_eq_true rfl⟩ ⟨Nat.zero_le _, Nat.zero_le _⟩ 0 rfl rfl rfl rfl hl.1 (Nat.le_of_ble_eq_true rfl) dX11_layOnward_3) hS nx_FA (fun H locs hP hS => ?_)
  refine lv_imul hx hb dX11_layOnward_6 ?_
  refine lv_istore_n (lv' := [(3, .int (24 * r_16)), (0, .ref (a 0)), (1, .int x1), (2, .int x2)]) hx hb dX11_layOnward_7 rfl hl (by decide) rfl (fun ls hl => ?_)
  refine lv_iconst (v := 0) hx hb dX11_layOnward_8 (by decide) ?_
  refine lv_istore (lv' := [(4, .int 0), (3, .int (24 * r_16)), (0, .ref (a 0)), (1, .int x1), (2, .int x2)]) hx hb dX11_layOnward_9 hl (by decide) rfl (fun ls hl => ?_)
  obtain ⟨z_17, hz_18, h⟩ := nx_bd h
  refine L11 _ _ _ N _ _ _ hz_18 H locs ls hP hS (lv_sub hl [2, 3, 4, 1, 0] rfl) (fun H locs ls hP hS hl => ?_)
  refine lv_iconst (v := 1) hx hb dX11_layOnward_47 (by decide) ?_
  refine lv_istore (lv' := [(4, .int 1), (0, .ref (a 0)), (3, .int (24 * r_16))]) hx hb dX11_layOnward_48 hl (by decide) rfl (fun ls hl => ?_)
  obtain ⟨z_19, hz_20, h⟩ := nx_bd h
  refine L50 _ N _ _ _ hz_20 H locs ls hP hS (lv_sub hl [1, 2, 0] rfl) (fun H locs ls hP hS hl => ?_)
  exact kr 141 ls z_19 H locs dX11_layOnward_141 (Option.some.inj h) hP hS
