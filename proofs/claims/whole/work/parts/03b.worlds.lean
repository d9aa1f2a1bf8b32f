def cW (E : nx_E) (a : Nat → Nat) (size : Int32) (on : Int32) (kinds : Nat → Int32) (marks : Nat → Int32) (nb : Nat → Int32) (reached : Int32) (dist : Nat → Int32) (lastW : Nat → Int32) (par : Nat → Int32) (ord : Nat → Int32) (paths : Nat → Int64) (costs : Nat → Int32) (wanted : Int32) (tlen : Int32) (onlyF : Int32) (found : Int32) (steps : Nat → Int32) (plen : Int32) (rowW : Nat → Int32) (rowS : Nat → Int32) (tally : Nat → Int32) : va_W :=
  [(a 0, .inr (9, [.ref (a 1), .ref (a 5), .ref (a 6), .ref (a 12), .ref (a 13), .ref (a 15), .ref (a 17), .ref (a 21)])),
   (a 1, .inr (2, [.ref (a 2), .ref (a 3), .ref (a 4), .int size, .int on])),
   (a 2, .inl (E.2.1, 25, .inl kinds)),
   (a 3, .inl (E.2.1, 25, .inl marks)),
   (a 4, .inl (E.2.1, 100, .inl nb)),
   (a 5, .inr (3, [])),
   (a 6, .inr (7, [.ref (a 7), .ref (a 8), .ref (a 9), .ref (a 10), .ref (a 11), .int reached])),
   (a 7, .inl (E.2.1, 600, .inl dist)),
   (a 8, .inl (E.2.1, 600, .inl lastW)),
   (a 9, .inl (E.2.1, 600, .inl par)),
   (a 10, .inl (E.2.1, 600, .inl ord)),
   (a 11, .inl (E.2.2.1, 600, .inr (.inl paths))),
   (a 12, .inr (4, [.ref (a 1)])),
   (a 13, .inr (5, [.ref (a 12), .ref (a 6), .ref (a 14)])),
   (a 14, .inl (E.2.1, 600, .inl costs)),
   (a 15, .inr (8, [.ref (a 1), .ref (a 12), .ref (a 16), .int wanted, .int tlen, .int onlyF, .int found])),
   (a 16, .inl (E.2.1, 16, .inl steps)),
   (a 17, .inr (6, [.ref (a 1), .ref (a 12), .ref (a 18), .ref (a 19), .ref (a 20), .int plen])),
   (a 18, .inl (E.2.1, 20, .inl rowW)),
   (a 19, .inl (E.2.1, 20, .inl rowS)),
   (a 20, .inl (E.2.1, 28, .inl tally)),
   (a 21, .inr (1, [.ref (a 1), .ref (a 6), .ref (a 22), .ref (a 23)])),
   (a 22, .inr (0, [.ref (a 1), .int 0])),
   (a 23, .inr (0, [.ref (a 1), .int 1]))]
theorem cW_ad {E : nx_E} {a : Nat → Nat} {size : Int32} {on : Int32} {kinds : Nat → Int32} {marks : Nat → Int32} {nb : Nat → Int32} {reached : Int32} {dist : Nat → Int32} {lastW : Nat → Int32} {par : Nat → Int32} {ord : Nat → Int32} {paths : Nat → Int64} {costs : Nat → Int32} {wanted : Int32} {tlen : Int32} {onlyF : Int32} {found : Int32} {steps : Nat → Int32} {plen : Int32} {rowW : Nat → Int32} {rowS : Nat → Int32} {tally : Nat → Int32} : nx_ad a 24 (cW E a size on kinds marks nb reached dist lastW par ord paths costs wanted tlen onlyF found steps plen rowW rowS tally) := rfl
def mW (E : nx_E) (a : Nat → Nat) (wide : Int32) (tall : Int32) (groups : Int32) (tours : Int32) (tourLength : Int32) (rowMany : Int32) (cameBy : Int32) (top : Nat → Int32) (east : Nat → Int32) (south : Nat → Int32) (rolled : Nat → Int32) (off : Nat → Int32) (kind : Nat → Int32) (mark : Nat → Int32) (rolls : Nat → Int32) (many : Nat → Int64) (onward : Nat → Int32) (at_ : Nat → Int32) (goes : Nat → Int32) (firstTour : Nat → Int32) (rowWay : Nat → Int32) (rowSeen : Nat → Int32) (prints : Nat → Int32) (homeward : Nat → Int32) : va_W :=
  [(a 0, .inr (10, [.ref (a 1), .ref (a 2), .ref (a 3), .ref (a 4), .ref (a 5), .int wide, .int tall, .ref (a 6), .ref (a 7), .int groups, .ref (a 8), .ref (a 9), .ref (a 10), .ref (a 11), .ref (a 12), .ref (a 13), .int tours, .int tourLength, .int rowMany, .ref (a 14), .ref (a 15), .ref (a 16), .ref (a 17), .int cameBy])),
   (a 1, .inl (E.2.1, 24, .inl top)),
   (a 2, .inl (E.2.1, 24, .inl east)),
   (a 3, .inl (E.2.1, 24, .inl south)),
   (a 4, .inl (E.2.1, 96, .inl rolled)),
   (a 5, .inl (E.2.1, 24, .inl off)),
   (a 6, .inl (E.2.1, 25, .inl kind)),
   (a 7, .inl (E.2.1, 25, .inl mark)),
   (a 8, .inl (E.2.1, 600, .inl rolls)),
   (a 9, .inl (E.2.2.1, 600, .inr (.inl many))),
   (a 10, .inl (E.2.1, 600, .inl onward)),
   (a 11, .inl (E.2.1, 17, .inl at_)),
   (a 12, .inl (E.2.1, 17, .inl goes)),
   (a 13, .inl (E.2.1, 16, .inl firstTour)),
   (a 14, .inl (E.2.1, 20, .inl rowWay)),
   (a 15, .inl (E.2.1, 20, .inl rowSeen)),
   (a 16, .inl (E.2.1, 7, .inl prints)),
   (a 17, .inl (E.2.1, 600, .inl homeward))]
theorem mW_ad {E : nx_E} {a : Nat → Nat} {wide : Int32} {tall : Int32} {groups : Int32} {tours : Int32} {tourLength : Int32} {rowMany : Int32} {cameBy : Int32} {top : Nat → Int32} {east : Nat → Int32} {south : Nat → Int32} {rolled : Nat → Int32} {off : Nat → Int32} {kind : Nat → Int32} {mark : Nat → Int32} {rolls : Nat → Int32} {many : Nat → Int64} {onward : Nat → Int32} {at_ : Nat → Int32} {goes : Nat → Int32} {firstTour : Nat → Int32} {rowWay : Nat → Int32} {rowSeen : Nat → Int32} {prints : Nat → Int32} {homeward : Nat → Int32} : nx_ad a 18 (mW E a wide tall groups tours tourLength rowMany cameBy top east south rolled off kind mark rolls many onward at_ goes firstTour rowWay rowSeen prints homeward) := rfl
def bW (E : nx_E) (a : Nat → Nat) (size : Int32) (on : Int32) (kinds : Nat → Int32) (marks : Nat → Int32) (nb : Nat → Int32) : va_W :=
  [(a 0, .inr (2, [.ref (a 1), .ref (a 2), .ref (a 3), .int size, .int on])),
   (a 1, .inl (E.2.1, 25, .inl kinds)),
   (a 2, .inl (E.2.1, 25, .inl marks)),
   (a 3, .inl (E.2.1, 100, .inl nb))]
theorem bW_ad {E : nx_E} {a : Nat → Nat} {size : Int32} {on : Int32} {kinds : Nat → Int32} {marks : Nat → Int32} {nb : Nat → Int32} : nx_ad a 4 (bW E a size on kinds marks nb) := rfl
def nx_rmc (f n c s : Nat) : Room := { frames := f, cells := c, slots := s, locals := n }
theorem uw_X0 : ∀ w ∈ u_ws RX0 TX0 2, w ∈ nx_T := fun w h => (fun (g : GoodIn tables_1 (u_ws RX0 TX0 2)) => nx_in (List.mem_append_right _ (g w h).1) (List.all_eq_true.mp (by decide +kernel : (u_ws RX0 TX0 2).all goodWord = true) w h)) (goodIn_q _ [186, 188] (by decide +kernel) (by decide +kernel))
theorem uw_X1 : ∀ w ∈ u_ws RX1 TX1 4, w ∈ nx_T := fun w h => (fun (g : GoodIn tables_1 (u_ws RX1 TX1 4)) => nx_in (List.mem_append_right _ (g w h).1) (List.all_eq_true.mp (by decide +kernel : (u_ws RX1 TX1 4).all goodWord = true) w h)) (goodIn_q _ [195, 197, 199, 201] (by decide +kernel) (by decide +kernel))
theorem uw_X2 : ∀ w ∈ u_ws RX2 TX2 5, w ∈ nx_T := fun w h => (fun (g : GoodIn tables_1 (u_ws RX2 TX2 5)) => nx_in (List.mem_append_right _ (g w h).1) (List.all_eq_true.mp (by decide +kernel : (u_ws RX2 TX2 5).all goodWord = true) w h)) (goodIn_q _ [45, 47, 49, 51, 53] (by decide +kernel) (by decide +kernel))
theorem uw_X4 : ∀ w ∈ u_ws RX4 TX4 1, w ∈ nx_T := fun w h => (fun (g : GoodIn tables_1 (u_ws RX4 TX4 1)) => nx_in (List.mem_append_right _ (g w h).1) (List.all_eq_true.mp (by decide +kernel : (u_ws RX4 TX4 1).all goodWord = true) w h)) (goodIn_q _ [100] (by decide +kernel) (by decide +kernel))
theorem uw_X5 : ∀ w ∈ u_ws RX5 TX5 3, w ∈ nx_T := fun w h => (fun (g : GoodIn tables_1 (u_ws RX5 TX5 3)) => nx_in (List.mem_append_right _ (g w h).1) (List.all_eq_true.mp (by decide +kernel : (u_ws RX5 TX5 3).all goodWord = true) w h)) (goodIn_q _ [112, 114, 116] (by decide +kernel) (by decide +kernel))
theorem uw_X7 : ∀ w ∈ u_ws RX7 TX7 6, w ∈ nx_T := fun w h => (fun (g : GoodIn tables_1 (u_ws RX7 TX7 6)) => nx_in (List.mem_append_right _ (g w h).1) (List.all_eq_true.mp (by decide +kernel : (u_ws RX7 TX7 6).all goodWord = true) w h)) (goodIn_q _ [159, 161, 163, 165, 167, 169] (by decide +kernel) (by decide +kernel))
theorem uw_X8 : ∀ w ∈ u_ws RX8 TX8 6, w ∈ nx_T := fun w h => (fun (g : GoodIn tables_1 (u_ws RX8 TX8 6)) => nx_in (List.mem_append_right _ (g w h).1) (List.all_eq_true.mp (by decide +kernel : (u_ws RX8 TX8 6).all goodWord = true) w h)) (goodIn_q _ [79, 81, 83, 85, 87, 89] (by decide +kernel) (by decide +kernel))
theorem uw_X9 : ∀ w ∈ u_ws RX9 TX9 7, w ∈ nx_T := fun w h => (fun (g : GoodIn tables_1 (u_ws RX9 TX9 7)) => nx_in (List.mem_append_right _ (g w h).1) (List.all_eq_true.mp (by decide +kernel : (u_ws RX9 TX9 7).all goodWord = true) w h)) (goodIn_q _ [132, 134, 136, 138, 140, 142, 144] (by decide +kernel) (by decide +kernel))
theorem uw_X10 : ∀ w ∈ u_ws RX10 TX10 8, w ∈ nx_T := fun w h => (fun (g : GoodIn tables_1 (u_ws RX10 TX10 8)) => nx_in (List.mem_append_right _ (g w h).1) (List.all_eq_true.mp (by decide +kernel : (u_ws RX10 TX10 8).all goodWord = true) w h)) (goodIn_q _ [212, 214, 216, 218, 220, 222, 224, 226] (by decide +kernel) (by decide +kernel))
theorem uw_X11 : ∀ w ∈ u_ws RX11 TX11 24, w ∈ nx_T := fun w h => (fun (g : GoodIn tables_1 (u_ws RX11 TX11 24)) => nx_in (List.mem_append_right _ (g w h).1) (List.all_eq_true.mp (by decide +kernel : (u_ws RX11 TX11 24).all goodWord = true) w h)) (goodIn_q _ [836, 838, 840, 842, 844, 846, 848, 850, 852, 854, 856, 858, 860, 862, 864, 866, 868, 870, 872, 874, 876, 878, 880, 882] (by decide +kernel) (by decide +kernel))
