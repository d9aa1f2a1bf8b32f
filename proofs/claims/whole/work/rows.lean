section
-- ===== PART A: goes FIRST, ahead of the names: the tables' words, and 'selects' of the private methods out of them =====
/-- a private method of a class that the tables say can be made, by its rows of tables_1 -/
def lw_okq (q : MethodName × Nat) : Prop := (q.1.cls ≠ "java/lang/invoke/MethodHandle" ∧ q.1.cls ≠ "java/lang/invoke/VarHandle") ∧ Cond.instantiable q.1.cls q.2 ∈ tables_1 ∧ Cond.privateMethod q.1 ∈ tables_1 ∧ Cond.instanceMethod q.1 ∈ tables_1
theorem lw_p0 : lw_okq (⟨"RollingThings$Search", "add", "(IIII)V"⟩, 6) := ⟨⟨by decide +kernel, by decide +kernel⟩, List.mem_of_getElem? (i := 68) (by decide +kernel), List.mem_of_getElem? (i := 351) (by decide +kernel), List.mem_of_getElem? (i := 352) (by decide +kernel)⟩
theorem lw_p1 : lw_okq (⟨"RollingThings$Block", "tipped", "(II)I"⟩, 2) := ⟨⟨by decide +kernel, by decide +kernel⟩, List.mem_of_getElem? (i := 179) (by decide +kernel), List.mem_of_getElem? (i := 371) (by decide +kernel), List.mem_of_getElem? (i := 372) (by decide +kernel)⟩
theorem lw_p2 : lw_okq (⟨"RollingThings$Block", "turnedAt", "(I)I"⟩, 2) := ⟨⟨by decide +kernel, by decide +kernel⟩, List.mem_of_getElem? (i := 179) (by decide +kernel), List.mem_of_getElem? (i := 382) (by decide +kernel), List.mem_of_getElem? (i := 383) (by decide +kernel)⟩
theorem lw_p3 : lw_okq (⟨"RollingThings$Search", "meet", "(III)V"⟩, 6) := ⟨⟨by decide +kernel, by decide +kernel⟩, List.mem_of_getElem? (i := 68) (by decide +kernel), List.mem_of_getElem? (i := 417) (by decide +kernel), List.mem_of_getElem? (i := 418) (by decide +kernel)⟩
theorem lw_p4 : lw_okq (⟨"RollingThings", "isStart", "(II)Z"⟩, 8) := ⟨⟨by decide +kernel, by decide +kernel⟩, List.mem_of_getElem? (i := 17) (by decide +kernel), List.mem_of_getElem? (i := 432) (by decide +kernel), List.mem_of_getElem? (i := 433) (by decide +kernel)⟩
theorem lw_p5 : lw_okq (⟨"RollingThings", "refusalOfGoal", "(IIII)I"⟩, 8) := ⟨⟨by decide +kernel, by decide +kernel⟩, List.mem_of_getElem? (i := 17) (by decide +kernel), List.mem_of_getElem? (i := 442) (by decide +kernel), List.mem_of_getElem? (i := 443) (by decide +kernel)⟩
theorem lw_p6 : lw_okq (⟨"RollingThings$DieWays", "endOf", "(III)I"⟩, 3) := ⟨⟨by decide +kernel, by decide +kernel⟩, List.mem_of_getElem? (i := 104) (by decide +kernel), List.mem_of_getElem? (i := 450) (by decide +kernel), List.mem_of_getElem? (i := 451) (by decide +kernel)⟩
theorem lw_p7 : lw_okq (⟨"RollingThings$DieWays", "lowerCosts", "()Z"⟩, 3) := ⟨⟨by decide +kernel, by decide +kernel⟩, List.mem_of_getElem? (i := 104) (by decide +kernel), List.mem_of_getElem? (i := 509) (by decide +kernel), List.mem_of_getElem? (i := 510) (by decide +kernel)⟩
theorem lw_p8 : lw_okq (⟨"RollingThings$DieWays", "lowerCost", "(II)Z"⟩, 3) := ⟨⟨by decide +kernel, by decide +kernel⟩, List.mem_of_getElem? (i := 104) (by decide +kernel), List.mem_of_getElem? (i := 514) (by decide +kernel), List.mem_of_getElem? (i := 515) (by decide +kernel)⟩
theorem lw_p9 : lw_okq (⟨"RollingThings", "refusalOfTour", "(III)I"⟩, 8) := ⟨⟨by decide +kernel, by decide +kernel⟩, List.mem_of_getElem? (i := 17) (by decide +kernel), List.mem_of_getElem? (i := 554) (by decide +kernel), List.mem_of_getElem? (i := 555) (by decide +kernel)⟩
theorem lw_p10 : lw_okq (⟨"RollingThings$Tours", "seek", "(IIZ)V"⟩, 7) := ⟨⟨by decide +kernel, by decide +kernel⟩, List.mem_of_getElem? (i := 120) (by decide +kernel), List.mem_of_getElem? (i := 568) (by decide +kernel), List.mem_of_getElem? (i := 569) (by decide +kernel)⟩
theorem lw_p11 : lw_okq (⟨"RollingThings$Tours", "extend", "(III)V"⟩, 7) := ⟨⟨by decide +kernel, by decide +kernel⟩, List.mem_of_getElem? (i := 120) (by decide +kernel), List.mem_of_getElem? (i := 574) (by decide +kernel), List.mem_of_getElem? (i := 575) (by decide +kernel)⟩
theorem lw_p12 : lw_okq (⟨"RollingThings$Prints", "allStarts", "()I"⟩, 6) := ⟨⟨by decide +kernel, by decide +kernel⟩, List.mem_of_getElem? (i := 148) (by decide +kernel), List.mem_of_getElem? (i := 618) (by decide +kernel), List.mem_of_getElem? (i := 619) (by decide +kernel)⟩
theorem lw_p13 : lw_okq (⟨"RollingThings$Prints", "endOf", "(I)I"⟩, 6) := ⟨⟨by decide +kernel, by decide +kernel⟩, List.mem_of_getElem? (i := 148) (by decide +kernel), List.mem_of_getElem? (i := 623) (by decide +kernel), List.mem_of_getElem? (i := 624) (by decide +kernel)⟩
theorem lw_p14 : lw_okq (⟨"RollingThings$Prints", "tallyFrom", "(I)I"⟩, 6) := ⟨⟨by decide +kernel, by decide +kernel⟩, List.mem_of_getElem? (i := 148) (by decide +kernel), List.mem_of_getElem? (i := 661) (by decide +kernel), List.mem_of_getElem? (i := 662) (by decide +kernel)⟩
theorem lw_p15 : lw_okq (⟨"RollingThings$Prints", "leastTallied", "(I)I"⟩, 6) := ⟨⟨by decide +kernel, by decide +kernel⟩, List.mem_of_getElem? (i := 148) (by decide +kernel), List.mem_of_getElem? (i := 665) (by decide +kernel), List.mem_of_getElem? (i := 666) (by decide +kernel)⟩
def lw_privs_1 : List (MethodName × Nat) := [(⟨"RollingThings$Search", "add", "(IIII)V"⟩, 6), (⟨"RollingThings$Block", "tipped", "(II)I"⟩, 2), (⟨"RollingThings$Block", "turnedAt", "(I)I"⟩, 2), (⟨"RollingThings$Search", "meet", "(III)V"⟩, 6), (⟨"RollingThings", "isStart", "(II)Z"⟩, 8), (⟨"RollingThings", "refusalOfGoal", "(IIII)I"⟩, 8), (⟨"RollingThings$DieWays", "endOf", "(III)I"⟩, 3), (⟨"RollingThings$DieWays", "lowerCosts", "()Z"⟩, 3), (⟨"RollingThings$DieWays", "lowerCost", "(II)Z"⟩, 3), (⟨"RollingThings", "refusalOfTour", "(III)I"⟩, 8), (⟨"RollingThings$Tours", "seek", "(IIZ)V"⟩, 7), (⟨"RollingThings$Tours", "extend", "(III)V"⟩, 7), (⟨"RollingThings$Prints", "allStarts", "()I"⟩, 6), (⟨"RollingThings$Prints", "endOf", "(I)I"⟩, 6), (⟨"RollingThings$Prints", "tallyFrom", "(I)I"⟩, 6), (⟨"RollingThings$Prints", "leastTallied", "(I)I"⟩, 6)]
theorem lw_r1 : ∀ q ∈ lw_privs_1, lw_okq q := List.forall_mem_cons.mpr ⟨lw_p0, List.forall_mem_cons.mpr ⟨lw_p1, List.forall_mem_cons.mpr ⟨lw_p2, List.forall_mem_cons.mpr ⟨lw_p3, List.forall_mem_cons.mpr ⟨lw_p4, List.forall_mem_cons.mpr ⟨lw_p5, List.forall_mem_cons.mpr ⟨lw_p6, List.forall_mem_cons.mpr ⟨lw_p7, List.forall_mem_cons.mpr ⟨lw_p8, List.forall_mem_cons.mpr ⟨lw_p9, List.forall_mem_cons.mpr ⟨lw_p10, List.forall_mem_cons.mpr ⟨lw_p11, List.forall_mem_cons.mpr ⟨lw_p12, List.forall_mem_cons.mpr ⟨lw_p13, List.forall_mem_cons.mpr ⟨lw_p14, List.forall_mem_cons.mpr ⟨lw_p15, fun _ h => absurd h List.not_mem_nil⟩⟩⟩⟩⟩⟩⟩⟩⟩⟩⟩⟩⟩⟩⟩⟩
theorem lw_p16 : lw_okq (⟨"RollingThings$Prints", "mostTallied", "(I)I"⟩, 6) := ⟨⟨by decide +kernel, by decide +kernel⟩, List.mem_of_getElem? (i := 148) (by decide +kernel), List.mem_of_getElem? (i := 669) (by decide +kernel), List.mem_of_getElem? (i := 670) (by decide +kernel)⟩
theorem lw_p17 : lw_okq (⟨"RollingThings", "isPlace", "(I)Z"⟩, 8) := ⟨⟨by decide +kernel, by decide +kernel⟩, List.mem_of_getElem? (i := 17) (by decide +kernel), List.mem_of_getElem? (i := 680) (by decide +kernel), List.mem_of_getElem? (i := 681) (by decide +kernel)⟩
theorem lw_p18 : lw_okq (⟨"RollingThings$BlockWays", "endOf", "(II)I"⟩, 4) := ⟨⟨by decide +kernel, by decide +kernel⟩, List.mem_of_getElem? (i := 173) (by decide +kernel), List.mem_of_getElem? (i := 710) (by decide +kernel), List.mem_of_getElem? (i := 711) (by decide +kernel)⟩
theorem lw_p19 : lw_okq (⟨"RollingThings$BlockWays", "spreadBack", "(I)V"⟩, 4) := ⟨⟨by decide +kernel, by decide +kernel⟩, List.mem_of_getElem? (i := 173) (by decide +kernel), List.mem_of_getElem? (i := 749) (by decide +kernel), List.mem_of_getElem? (i := 750) (by decide +kernel)⟩
theorem lw_p20 : lw_okq (⟨"RollingThings$BlockWays", "allPlaces", "()I"⟩, 4) := ⟨⟨by decide +kernel, by decide +kernel⟩, List.mem_of_getElem? (i := 173) (by decide +kernel), List.mem_of_getElem? (i := 755) (by decide +kernel), List.mem_of_getElem? (i := 756) (by decide +kernel)⟩
theorem lw_p21 : lw_okq (⟨"RollingThings$BlockWays", "distanceHome", "(I)I"⟩, 4) := ⟨⟨by decide +kernel, by decide +kernel⟩, List.mem_of_getElem? (i := 173) (by decide +kernel), List.mem_of_getElem? (i := 760) (by decide +kernel), List.mem_of_getElem? (i := 761) (by decide +kernel)⟩
theorem lw_p22 : lw_okq (⟨"RollingThingsModel", "laySouths", "()V"⟩, 24) := ⟨⟨by decide +kernel, by decide +kernel⟩, List.mem_of_getElem? (i := 791) (by decide +kernel), List.mem_of_getElem? (i := 797) (by decide +kernel), List.mem_of_getElem? (i := 798) (by decide +kernel)⟩
theorem lw_p23 : lw_okq (⟨"RollingThingsModel", "stanceOf", "(II)I"⟩, 24) := ⟨⟨by decide +kernel, by decide +kernel⟩, List.mem_of_getElem? (i := 791) (by decide +kernel), List.mem_of_getElem? (i := 801) (by decide +kernel), List.mem_of_getElem? (i := 802) (by decide +kernel)⟩
theorem lw_p24 : lw_okq (⟨"RollingThingsModel", "topAfter", "(II)I"⟩, 24) := ⟨⟨by decide +kernel, by decide +kernel⟩, List.mem_of_getElem? (i := 791) (by decide +kernel), List.mem_of_getElem? (i := 805) (by decide +kernel), List.mem_of_getElem? (i := 806) (by decide +kernel)⟩
theorem lw_p25 : lw_okq (⟨"RollingThingsModel", "eastAfter", "(II)I"⟩, 24) := ⟨⟨by decide +kernel, by decide +kernel⟩, List.mem_of_getElem? (i := 791) (by decide +kernel), List.mem_of_getElem? (i := 809) (by decide +kernel), List.mem_of_getElem? (i := 810) (by decide +kernel)⟩
theorem lw_p26 : lw_okq (⟨"RollingThingsModel", "isCell", "(I)Z"⟩, 24) := ⟨⟨by decide +kernel, by decide +kernel⟩, List.mem_of_getElem? (i := 791) (by decide +kernel), List.mem_of_getElem? (i := 925) (by decide +kernel), List.mem_of_getElem? (i := 926) (by decide +kernel)⟩
theorem lw_p27 : lw_okq (⟨"RollingThingsModel", "cells", "()I"⟩, 24) := ⟨⟨by decide +kernel, by decide +kernel⟩, List.mem_of_getElem? (i := 791) (by decide +kernel), List.mem_of_getElem? (i := 929) (by decide +kernel), List.mem_of_getElem? (i := 930) (by decide +kernel)⟩
theorem lw_p28 : lw_okq (⟨"RollingThingsModel", "isOpen", "(II)Z"⟩, 24) := ⟨⟨by decide +kernel, by decide +kernel⟩, List.mem_of_getElem? (i := 791) (by decide +kernel), List.mem_of_getElem? (i := 942) (by decide +kernel), List.mem_of_getElem? (i := 943) (by decide +kernel)⟩
theorem lw_p29 : lw_okq (⟨"RollingThingsModel", "rollOf", "(II)I"⟩, 24) := ⟨⟨by decide +kernel, by decide +kernel⟩, List.mem_of_getElem? (i := 791) (by decide +kernel), List.mem_of_getElem? (i := 950) (by decide +kernel), List.mem_of_getElem? (i := 951) (by decide +kernel)⟩
theorem lw_p30 : lw_okq (⟨"RollingThingsModel", "beside", "(II)I"⟩, 24) := ⟨⟨by decide +kernel, by decide +kernel⟩, List.mem_of_getElem? (i := 791) (by decide +kernel), List.mem_of_getElem? (i := 954) (by decide +kernel), List.mem_of_getElem? (i := 955) (by decide +kernel)⟩
theorem lw_p31 : lw_okq (⟨"RollingThingsModel", "mayGo", "(IIII)I"⟩, 24) := ⟨⟨by decide +kernel, by decide +kernel⟩, List.mem_of_getElem? (i := 791) (by decide +kernel), List.mem_of_getElem? (i := 962) (by decide +kernel), List.mem_of_getElem? (i := 963) (by decide +kernel)⟩
def lw_privs_2 : List (MethodName × Nat) := [(⟨"RollingThings$Prints", "mostTallied", "(I)I"⟩, 6), (⟨"RollingThings", "isPlace", "(I)Z"⟩, 8), (⟨"RollingThings$BlockWays", "endOf", "(II)I"⟩, 4), (⟨"RollingThings$BlockWays", "spreadBack", "(I)V"⟩, 4), (⟨"RollingThings$BlockWays", "allPlaces", "()I"⟩, 4), (⟨"RollingThings$BlockWays", "distanceHome", "(I)I"⟩, 4), (⟨"RollingThingsModel", "laySouths", "()V"⟩, 24), (⟨"RollingThingsModel", "stanceOf", "(II)I"⟩, 24), (⟨"RollingThingsModel", "topAfter", "(II)I"⟩, 24), (⟨"RollingThingsModel", "eastAfter", "(II)I"⟩, 24), (⟨"RollingThingsModel", "isCell", "(I)Z"⟩, 24), (⟨"RollingThingsModel", "cells", "()I"⟩, 24), (⟨"RollingThingsModel", "isOpen", "(II)Z"⟩, 24), (⟨"RollingThingsModel", "rollOf", "(II)I"⟩, 24), (⟨"RollingThingsModel", "beside", "(II)I"⟩, 24), (⟨"RollingThingsModel", "mayGo", "(IIII)I"⟩, 24)]
theorem lw_r2 : ∀ q ∈ lw_privs_2, lw_okq q := List.forall_mem_cons.mpr ⟨lw_p16, List.forall_mem_cons.mpr ⟨lw_p17, List.forall_mem_cons.mpr ⟨lw_p18, List.forall_mem_cons.mpr ⟨lw_p19, List.forall_mem_cons.mpr ⟨lw_p20, List.forall_mem_cons.mpr ⟨lw_p21, List.forall_mem_cons.mpr ⟨lw_p22, List.forall_mem_cons.mpr ⟨lw_p23, List.forall_mem_cons.mpr ⟨lw_p24, List.forall_mem_cons.mpr ⟨lw_p25, List.forall_mem_cons.mpr ⟨lw_p26, List.forall_mem_cons.mpr ⟨lw_p27, List.forall_mem_cons.mpr ⟨lw_p28, List.forall_mem_cons.mpr ⟨lw_p29, List.forall_mem_cons.mpr ⟨lw_p30, List.forall_mem_cons.mpr ⟨lw_p31, fun _ h => absurd h List.not_mem_nil⟩⟩⟩⟩⟩⟩⟩⟩⟩⟩⟩⟩⟩⟩⟩⟩
theorem lw_p32 : lw_okq (⟨"RollingThingsModel", "layFrom", "(I)V"⟩, 24) := ⟨⟨by decide +kernel, by decide +kernel⟩, List.mem_of_getElem? (i := 791) (by decide +kernel), List.mem_of_getElem? (i := 971) (by decide +kernel), List.mem_of_getElem? (i := 972) (by decide +kernel)⟩
theorem lw_p33 : lw_okq (⟨"RollingThingsModel", "shortestOf", "(II)I"⟩, 24) := ⟨⟨by decide +kernel, by decide +kernel⟩, List.mem_of_getElem? (i := 791) (by decide +kernel), List.mem_of_getElem? (i := 975) (by decide +kernel), List.mem_of_getElem? (i := 976) (by decide +kernel)⟩
theorem lw_p34 : lw_okq (⟨"RollingThingsModel", "isGoal", "(III)Z"⟩, 24) := ⟨⟨by decide +kernel, by decide +kernel⟩, List.mem_of_getElem? (i := 791) (by decide +kernel), List.mem_of_getElem? (i := 979) (by decide +kernel), List.mem_of_getElem? (i := 980) (by decide +kernel)⟩
theorem lw_p35 : lw_okq (⟨"RollingThingsModel", "layOnward", "(II)V"⟩, 24) := ⟨⟨by decide +kernel, by decide +kernel⟩, List.mem_of_getElem? (i := 791) (by decide +kernel), List.mem_of_getElem? (i := 991) (by decide +kernel), List.mem_of_getElem? (i := 992) (by decide +kernel)⟩
theorem lw_p36 : lw_okq (⟨"RollingThingsModel", "print", "(I)I"⟩, 24) := ⟨⟨by decide +kernel, by decide +kernel⟩, List.mem_of_getElem? (i := 791) (by decide +kernel), List.mem_of_getElem? (i := 999) (by decide +kernel), List.mem_of_getElem? (i := 1000) (by decide +kernel)⟩
theorem lw_p37 : lw_okq (⟨"RollingThingsModel", "mayTour", "(III)I"⟩, 24) := ⟨⟨by decide +kernel, by decide +kernel⟩, List.mem_of_getElem? (i := 791) (by decide +kernel), List.mem_of_getElem? (i := 1015) (by decide +kernel), List.mem_of_getElem? (i := 1016) (by decide +kernel)⟩
theorem lw_p38 : lw_okq (⟨"RollingThingsModel", "openCells", "(I)I"⟩, 24) := ⟨⟨by decide +kernel, by decide +kernel⟩, List.mem_of_getElem? (i := 791) (by decide +kernel), List.mem_of_getElem? (i := 1019) (by decide +kernel), List.mem_of_getElem? (i := 1020) (by decide +kernel)⟩
theorem lw_p39 : lw_okq (⟨"RollingThingsModel", "layTours", "(II)V"⟩, 24) := ⟨⟨by decide +kernel, by decide +kernel⟩, List.mem_of_getElem? (i := 791) (by decide +kernel), List.mem_of_getElem? (i := 1023) (by decide +kernel), List.mem_of_getElem? (i := 1024) (by decide +kernel)⟩
theorem lw_p40 : lw_okq (⟨"RollingThingsModel", "endTour", "(II)V"⟩, 24) := ⟨⟨by decide +kernel, by decide +kernel⟩, List.mem_of_getElem? (i := 791) (by decide +kernel), List.mem_of_getElem? (i := 1027) (by decide +kernel), List.mem_of_getElem? (i := 1028) (by decide +kernel)⟩
theorem lw_p41 : lw_okq (⟨"RollingThingsModel", "behind", "(I)I"⟩, 24) := ⟨⟨by decide +kernel, by decide +kernel⟩, List.mem_of_getElem? (i := 791) (by decide +kernel), List.mem_of_getElem? (i := 1047) (by decide +kernel), List.mem_of_getElem? (i := 1048) (by decide +kernel)⟩
theorem lw_p42 : lw_okq (⟨"RollingThingsModel", "greatestBy", "(I)I"⟩, 24) := ⟨⟨by decide +kernel, by decide +kernel⟩, List.mem_of_getElem? (i := 791) (by decide +kernel), List.mem_of_getElem? (i := 1063) (by decide +kernel), List.mem_of_getElem? (i := 1064) (by decide +kernel)⟩
theorem lw_p43 : lw_okq (⟨"RollingThingsModel", "isPlace", "(I)Z"⟩, 24) := ⟨⟨by decide +kernel, by decide +kernel⟩, List.mem_of_getElem? (i := 791) (by decide +kernel), List.mem_of_getElem? (i := 1071) (by decide +kernel), List.mem_of_getElem? (i := 1072) (by decide +kernel)⟩
theorem lw_p44 : lw_okq (⟨"RollingThingsModel", "isSound", "(II)Z"⟩, 24) := ⟨⟨by decide +kernel, by decide +kernel⟩, List.mem_of_getElem? (i := 791) (by decide +kernel), List.mem_of_getElem? (i := 1075) (by decide +kernel), List.mem_of_getElem? (i := 1076) (by decide +kernel)⟩
theorem lw_p45 : lw_okq (⟨"RollingThingsModel", "otherOf", "(I)I"⟩, 24) := ⟨⟨by decide +kernel, by decide +kernel⟩, List.mem_of_getElem? (i := 791) (by decide +kernel), List.mem_of_getElem? (i := 1079) (by decide +kernel), List.mem_of_getElem? (i := 1080) (by decide +kernel)⟩
theorem lw_p46 : lw_okq (⟨"RollingThingsModel", "blockRoll", "(II)I"⟩, 24) := ⟨⟨by decide +kernel, by decide +kernel⟩, List.mem_of_getElem? (i := 791) (by decide +kernel), List.mem_of_getElem? (i := 1087) (by decide +kernel), List.mem_of_getElem? (i := 1088) (by decide +kernel)⟩
theorem lw_p47 : lw_okq (⟨"RollingThingsModel", "blockTo", "(II)I"⟩, 24) := ⟨⟨by decide +kernel, by decide +kernel⟩, List.mem_of_getElem? (i := 791) (by decide +kernel), List.mem_of_getElem? (i := 1091) (by decide +kernel), List.mem_of_getElem? (i := 1092) (by decide +kernel)⟩
def lw_privs_3 : List (MethodName × Nat) := [(⟨"RollingThingsModel", "layFrom", "(I)V"⟩, 24), (⟨"RollingThingsModel", "shortestOf", "(II)I"⟩, 24), (⟨"RollingThingsModel", "isGoal", "(III)Z"⟩, 24), (⟨"RollingThingsModel", "layOnward", "(II)V"⟩, 24), (⟨"RollingThingsModel", "print", "(I)I"⟩, 24), (⟨"RollingThingsModel", "mayTour", "(III)I"⟩, 24), (⟨"RollingThingsModel", "openCells", "(I)I"⟩, 24), (⟨"RollingThingsModel", "layTours", "(II)V"⟩, 24), (⟨"RollingThingsModel", "endTour", "(II)V"⟩, 24), (⟨"RollingThingsModel", "behind", "(I)I"⟩, 24), (⟨"RollingThingsModel", "greatestBy", "(I)I"⟩, 24), (⟨"RollingThingsModel", "isPlace", "(I)Z"⟩, 24), (⟨"RollingThingsModel", "isSound", "(II)Z"⟩, 24), (⟨"RollingThingsModel", "otherOf", "(I)I"⟩, 24), (⟨"RollingThingsModel", "blockRoll", "(II)I"⟩, 24), (⟨"RollingThingsModel", "blockTo", "(II)I"⟩, 24)]
theorem lw_r3 : ∀ q ∈ lw_privs_3, lw_okq q := List.forall_mem_cons.mpr ⟨lw_p32, List.forall_mem_cons.mpr ⟨lw_p33, List.forall_mem_cons.mpr ⟨lw_p34, List.forall_mem_cons.mpr ⟨lw_p35, List.forall_mem_cons.mpr ⟨lw_p36, List.forall_mem_cons.mpr ⟨lw_p37, List.forall_mem_cons.mpr ⟨lw_p38, List.forall_mem_cons.mpr ⟨lw_p39, List.forall_mem_cons.mpr ⟨lw_p40, List.forall_mem_cons.mpr ⟨lw_p41, List.forall_mem_cons.mpr ⟨lw_p42, List.forall_mem_cons.mpr ⟨lw_p43, List.forall_mem_cons.mpr ⟨lw_p44, List.forall_mem_cons.mpr ⟨lw_p45, List.forall_mem_cons.mpr ⟨lw_p46, List.forall_mem_cons.mpr ⟨lw_p47, fun _ h => absurd h List.not_mem_nil⟩⟩⟩⟩⟩⟩⟩⟩⟩⟩⟩⟩⟩⟩⟩⟩
theorem lw_p48 : lw_okq (⟨"RollingThingsModel", "layHome", "(I)V"⟩, 24) := ⟨⟨by decide +kernel, by decide +kernel⟩, List.mem_of_getElem? (i := 791) (by decide +kernel), List.mem_of_getElem? (i := 1099) (by decide +kernel), List.mem_of_getElem? (i := 1100) (by decide +kernel)⟩
theorem lw_p49 : lw_okq (⟨"RollingThingsModel", "homeStep", "(I)I"⟩, 24) := ⟨⟨by decide +kernel, by decide +kernel⟩, List.mem_of_getElem? (i := 791) (by decide +kernel), List.mem_of_getElem? (i := 1107) (by decide +kernel), List.mem_of_getElem? (i := 1108) (by decide +kernel)⟩
def lw_privs_4 : List (MethodName × Nat) := [(⟨"RollingThingsModel", "layHome", "(I)V"⟩, 24), (⟨"RollingThingsModel", "homeStep", "(I)I"⟩, 24)]
theorem lw_r4 : ∀ q ∈ lw_privs_4, lw_okq q := List.forall_mem_cons.mpr ⟨lw_p48, List.forall_mem_cons.mpr ⟨lw_p49, fun _ h => absurd h List.not_mem_nil⟩⟩
def lw_privs : List (MethodName × Nat) := lw_privs_1 ++ (lw_privs_2 ++ (lw_privs_3 ++ (lw_privs_4)))
def lw_tbl : List Cond := k2_sels lw_privs ++ tables_1
theorem lw_privs_ok : ∀ q ∈ lw_privs, lw_okq q := by
  show ∀ q ∈ lw_privs_1 ++ (lw_privs_2 ++ (lw_privs_3 ++ (lw_privs_4))), lw_okq q
  exact List.forall_mem_append.mpr ⟨lw_r1, List.forall_mem_append.mpr ⟨lw_r2, List.forall_mem_append.mpr ⟨lw_r3, lw_r4⟩⟩⟩
end
section
def RX0 : String := "RollingThings$Block"
def TX0 : u_T := fun k => match k with
  | 0 => ("RollingThings$Block", "board", "LRollingThings$Board;", true)
  | _ => ("RollingThings$Block", "backwards", "Z", true)
def tyX0 : Nat → FieldType := fun k => match k with
  | 0 => .object "RollingThings$Board"
  | _ => .boolean
theorem nmX0 : ∀ a, a < 2 → ∀ b, b < 2 → a ≠ b → (TX0 a).2.1 ≠ (TX0 b).2.1 := by decide +kernel
theorem tyX0_ok : ∀ k, k < 2 → parseFieldDescriptor (TX0 k).2.2.1 = some (tyX0 k) := by decide +kernel
abbrev cX0_init : ByteArray := prog_2_method_1_code
def yX0_init : MethodName := ⟨RX0, "<init>", "(LRollingThings$Board;Z)V"⟩
abbrev cX0_at : ByteArray := prog_2_method_2_code
def yX0_at : MethodName := ⟨RX0, "at", "(II)I"⟩
abbrev cX0_placeOf : ByteArray := prog_2_method_3_code
def yX0_placeOf : MethodName := ⟨RX0, "placeOf", "(I)I"⟩
abbrev cX0_groupsOf : ByteArray := prog_2_method_4_code
def yX0_groupsOf : MethodName := ⟨RX0, "groupsOf", "(I)I"⟩
abbrev cX0_standingOn : ByteArray := prog_2_method_5_code
def yX0_standingOn : MethodName := ⟨RX0, "standingOn", "(I)I"⟩
abbrev cX0_lyingFrom : ByteArray := prog_2_method_6_code
def yX0_lyingFrom : MethodName := ⟨RX0, "lyingFrom", "(II)I"⟩
abbrev cX0_isSound : ByteArray := prog_2_method_7_code
def yX0_isSound : MethodName := ⟨RX0, "isSound", "(II)Z"⟩
abbrev cX0_turnedAt : ByteArray := prog_2_method_8_code
def yX0_turnedAt : MethodName := ⟨RX0, "turnedAt", "(I)I"⟩
abbrev cX0_tipped : ByteArray := prog_2_method_9_code
def yX0_tipped : MethodName := ⟨RX0, "tipped", "(II)I"⟩
abbrev cX0_after : ByteArray := prog_2_method_10_code
def yX0_after : MethodName := ⟨RX0, "after", "(II)I"⟩
def RX1 : String := "RollingThings$BlockWays"
def TX1 : u_T := fun k => match k with
  | 0 => ("RollingThings$BlockWays", "board", "LRollingThings$Board;", true)
  | 1 => ("RollingThings$BlockWays", "search", "LRollingThings$Search;", true)
  | 2 => ("RollingThings$BlockWays", "block", "LRollingThings$Block;", true)
  | _ => ("RollingThings$BlockWays", "blockBack", "LRollingThings$Block;", true)
def tyX1 : Nat → FieldType := fun k => match k with
  | 0 => .object "RollingThings$Board"
  | 1 => .object "RollingThings$Search"
  | 2 => .object "RollingThings$Block"
  | _ => .object "RollingThings$Block"
theorem nmX1 : ∀ a, a < 4 → ∀ b, b < 4 → a ≠ b → (TX1 a).2.1 ≠ (TX1 b).2.1 := by decide +kernel
theorem tyX1_ok : ∀ k, k < 4 → parseFieldDescriptor (TX1 k).2.2.1 = some (tyX1 k) := by decide +kernel
abbrev cX1_init : ByteArray := prog_3_method_1_code
def yX1_init : MethodName := ⟨RX1, "<init>", "(LRollingThings$Board;LRollingThings$Search;)V"⟩
abbrev cX1_isSoundNow : ByteArray := prog_3_method_2_code
def yX1_isSoundNow : MethodName := ⟨RX1, "isSoundNow", "(I)Z"⟩
abbrev cX1_soundPlaces : ByteArray := prog_3_method_3_code
def yX1_soundPlaces : MethodName := ⟨RX1, "soundPlaces", "()I"⟩
abbrev cX1_placeAfter : ByteArray := prog_3_method_4_code
def yX1_placeAfter : MethodName := ⟨RX1, "placeAfter", "(II)I"⟩
abbrev cX1_length : ByteArray := prog_3_method_5_code
def yX1_length : MethodName := ⟨RX1, "length", "(II)I"⟩
abbrev cX1_stepAt : ByteArray := prog_3_method_6_code
def yX1_stepAt : MethodName := ⟨RX1, "stepAt", "(III)I"⟩
abbrev cX1_groupsAtEnd : ByteArray := prog_3_method_7_code
def yX1_groupsAtEnd : MethodName := ⟨RX1, "groupsAtEnd", "(II)I"⟩
abbrev cX1_needs : ByteArray := prog_3_method_8_code
def yX1_needs : MethodName := ⟨RX1, "needs", "(III)Z"⟩
abbrev cX1_placesWhence : ByteArray := prog_3_method_9_code
def yX1_placesWhence : MethodName := ⟨RX1, "placesWhence", "(I)I"⟩
abbrev cX1_farthestPlace : ByteArray := prog_3_method_10_code
def yX1_farthestPlace : MethodName := ⟨RX1, "farthestPlace", "(I)I"⟩
abbrev cX1_allPlaces : ByteArray := prog_3_method_11_code
def yX1_allPlaces : MethodName := ⟨RX1, "allPlaces", "()I"⟩
abbrev cX1_endOf : ByteArray := prog_3_method_12_code
def yX1_endOf : MethodName := ⟨RX1, "endOf", "(II)I"⟩
abbrev cX1_spreadBack : ByteArray := prog_3_method_13_code
def yX1_spreadBack : MethodName := ⟨RX1, "spreadBack", "(I)V"⟩
abbrev cX1_distanceHome : ByteArray := prog_3_method_14_code
def yX1_distanceHome : MethodName := ⟨RX1, "distanceHome", "(I)I"⟩
def RX2 : String := "RollingThings$Board"
def TX2 : u_T := fun k => match k with
  | 0 => ("RollingThings$Board", "kinds", "[I", true)
  | 1 => ("RollingThings$Board", "marks", "[I", true)
  | 2 => ("RollingThings$Board", "neighbours", "[I", true)
  | 3 => ("RollingThings$Board", "size", "I", false)
  | _ => ("RollingThings$Board", "on", "I", false)
def tyX2 : Nat → FieldType := fun k => match k with
  | 0 => .array .int
  | 1 => .array .int
  | 2 => .array .int
  | 3 => .int
  | _ => .int
theorem nmX2 : ∀ a, a < 5 → ∀ b, b < 5 → a ≠ b → (TX2 a).2.1 ≠ (TX2 b).2.1 := by decide +kernel
theorem tyX2_ok : ∀ k, k < 5 → parseFieldDescriptor (TX2 k).2.2.1 = some (tyX2 k) := by decide +kernel
abbrev cX2_init : ByteArray := prog_4_method_1_code
def yX2_init : MethodName := ⟨RX2, "<init>", "()V"⟩
abbrev cX2_lay : ByteArray := prog_4_method_2_code
def yX2_lay : MethodName := ⟨RX2, "lay", "(II)V"⟩
abbrev cX2_size : ByteArray := prog_4_method_3_code
def yX2_size : MethodName := ⟨RX2, "size", "()I"⟩
abbrev cX2_has : ByteArray := prog_4_method_4_code
def yX2_has : MethodName := ⟨RX2, "has", "(I)Z"⟩
abbrev cX2_beside : ByteArray := prog_4_method_5_code
def yX2_beside : MethodName := ⟨RX2, "beside", "(II)I"⟩
abbrev cX2_kindOf : ByteArray := prog_4_method_6_code
def yX2_kindOf : MethodName := ⟨RX2, "kindOf", "(I)I"⟩
abbrev cX2_changeKind : ByteArray := prog_4_method_7_code
def yX2_changeKind : MethodName := ⟨RX2, "changeKind", "(II)I"⟩
abbrev cX2_markOf : ByteArray := prog_4_method_8_code
def yX2_markOf : MethodName := ⟨RX2, "markOf", "(I)I"⟩
abbrev cX2_changeMark : ByteArray := prog_4_method_9_code
def yX2_changeMark : MethodName := ⟨RX2, "changeMark", "(II)I"⟩
abbrev cX2_groupsOn : ByteArray := prog_4_method_10_code
def yX2_groupsOn : MethodName := ⟨RX2, "groupsOn", "()I"⟩
abbrev cX2_changeGroup : ByteArray := prog_4_method_11_code
def yX2_changeGroup : MethodName := ⟨RX2, "changeGroup", "(IZ)I"⟩
abbrev cX2_isOpen : ByteArray := prog_4_method_12_code
def yX2_isOpen : MethodName := ⟨RX2, "isOpen", "(II)Z"⟩
abbrev cX2_openCells : ByteArray := prog_4_method_13_code
def yX2_openCells : MethodName := ⟨RX2, "openCells", "()I"⟩
abbrev cX2_markedCells : ByteArray := prog_4_method_14_code
def yX2_markedCells : MethodName := ⟨RX2, "markedCells", "()I"⟩
def RX3 : String := "RollingThings$Dice"
def TX3 : u_T := fun k => match k with
  | _ => ("", "", "", false)
def tyX3 : Nat → FieldType := fun k => match k with
  | _ => .int
theorem nmX3 : ∀ a, a < 0 → ∀ b, b < 0 → a ≠ b → (TX3 a).2.1 ≠ (TX3 b).2.1 := by decide +kernel
theorem tyX3_ok : ∀ k, k < 0 → parseFieldDescriptor (TX3 k).2.2.1 = some (tyX3 k) := by decide +kernel
abbrev cX3_init : ByteArray := prog_5_method_1_code
def yX3_init : MethodName := ⟨RX3, "<init>", "()V"⟩
abbrev cX3_topOf : ByteArray := prog_5_method_2_code
def yX3_topOf : MethodName := ⟨RX3, "topOf", "(I)I"⟩
abbrev cX3_belowOf : ByteArray := prog_5_method_3_code
def yX3_belowOf : MethodName := ⟨RX3, "belowOf", "(I)I"⟩
abbrev cX3_eastOf : ByteArray := prog_5_method_4_code
def yX3_eastOf : MethodName := ⟨RX3, "eastOf", "(I)I"⟩
abbrev cX3_southOf : ByteArray := prog_5_method_5_code
def yX3_southOf : MethodName := ⟨RX3, "southOf", "(I)I"⟩
abbrev cX3_numbered : ByteArray := prog_5_method_6_code
def yX3_numbered : MethodName := ⟨RX3, "numbered", "(II)I"⟩
abbrev cX3_turned : ByteArray := prog_5_method_7_code
def yX3_turned : MethodName := ⟨RX3, "turned", "(II)I"⟩
abbrev cX3_meets : ByteArray := prog_5_method_8_code
def yX3_meets : MethodName := ⟨RX3, "meets", "(II)Z"⟩
abbrev cX3_after : ByteArray := prog_5_method_9_code
def yX3_after : MethodName := ⟨RX3, "after", "(II)I"⟩
def RX4 : String := "RollingThings$DieOnBoard"
def TX4 : u_T := fun k => match k with
  | _ => ("RollingThings$DieOnBoard", "board", "LRollingThings$Board;", true)
def tyX4 : Nat → FieldType := fun k => match k with
  | _ => .object "RollingThings$Board"
theorem nmX4 : ∀ a, a < 1 → ∀ b, b < 1 → a ≠ b → (TX4 a).2.1 ≠ (TX4 b).2.1 := by decide +kernel
theorem tyX4_ok : ∀ k, k < 1 → parseFieldDescriptor (TX4 k).2.2.1 = some (tyX4 k) := by decide +kernel
abbrev cX4_init : ByteArray := prog_6_method_1_code
def yX4_init : MethodName := ⟨RX4, "<init>", "(LRollingThings$Board;)V"⟩
abbrev cX4_at : ByteArray := prog_6_method_2_code
def yX4_at : MethodName := ⟨RX4, "at", "(II)I"⟩
abbrev cX4_cellOf : ByteArray := prog_6_method_3_code
def yX4_cellOf : MethodName := ⟨RX4, "cellOf", "(I)I"⟩
abbrev cX4_stanceOf : ByteArray := prog_6_method_4_code
def yX4_stanceOf : MethodName := ⟨RX4, "stanceOf", "(I)I"⟩
abbrev cX4_printOf : ByteArray := prog_6_method_5_code
def yX4_printOf : MethodName := ⟨RX4, "printOf", "(I)I"⟩
abbrev cX4_after : ByteArray := prog_6_method_6_code
def yX4_after : MethodName := ⟨RX4, "after", "(II)I"⟩
def RX5 : String := "RollingThings$DieWays"
def TX5 : u_T := fun k => match k with
  | 0 => ("RollingThings$DieWays", "die", "LRollingThings$DieOnBoard;", true)
  | 1 => ("RollingThings$DieWays", "search", "LRollingThings$Search;", true)
  | _ => ("RollingThings$DieWays", "costs", "[I", true)
def tyX5 : Nat → FieldType := fun k => match k with
  | 0 => .object "RollingThings$DieOnBoard"
  | 1 => .object "RollingThings$Search"
  | _ => .array .int
theorem nmX5 : ∀ a, a < 3 → ∀ b, b < 3 → a ≠ b → (TX5 a).2.1 ≠ (TX5 b).2.1 := by decide +kernel
theorem tyX5_ok : ∀ k, k < 3 → parseFieldDescriptor (TX5 k).2.2.1 = some (tyX5 k) := by decide +kernel
abbrev cX5_init : ByteArray := prog_7_method_1_code
def yX5_init : MethodName := ⟨RX5, "<init>", "(LRollingThings$DieOnBoard;LRollingThings$Search;)V"⟩
abbrev cX5_length : ByteArray := prog_7_method_2_code
def yX5_length : MethodName := ⟨RX5, "length", "(III)I"⟩
abbrev cX5_stepAt : ByteArray := prog_7_method_3_code
def yX5_stepAt : MethodName := ⟨RX5, "stepAt", "(IIII)I"⟩
abbrev cX5_howMany : ByteArray := prog_7_method_4_code
def yX5_howMany : MethodName := ⟨RX5, "howMany", "(III)J"⟩
abbrev cX5_leastPrints : ByteArray := prog_7_method_5_code
def yX5_leastPrints : MethodName := ⟨RX5, "leastPrints", "(III)I"⟩
abbrev cX5_lowerCosts : ByteArray := prog_7_method_6_code
def yX5_lowerCosts : MethodName := ⟨RX5, "lowerCosts", "()Z"⟩
abbrev cX5_lowerCost : ByteArray := prog_7_method_7_code
def yX5_lowerCost : MethodName := ⟨RX5, "lowerCost", "(II)Z"⟩
abbrev cX5_stancesAt : ByteArray := prog_7_method_8_code
def yX5_stancesAt : MethodName := ⟨RX5, "stancesAt", "(II)I"⟩
abbrev cX5_cellsReached : ByteArray := prog_7_method_9_code
def yX5_cellsReached : MethodName := ⟨RX5, "cellsReached", "(I)I"⟩
abbrev cX5_endOf : ByteArray := prog_7_method_10_code
def yX5_endOf : MethodName := ⟨RX5, "endOf", "(III)I"⟩
abbrev cX5_meets : ByteArray := prog_7_method_11_code
def yX5_meets : MethodName := ⟨RX5, "meets", "(III)Z"⟩
def RX6 : String := "RollingThings$Mover"
def TX6 : u_T := fun k => match k with
  | _ => ("", "", "", false)
def tyX6 : Nat → FieldType := fun k => match k with
  | _ => .int
theorem nmX6 : ∀ a, a < 0 → ∀ b, b < 0 → a ≠ b → (TX6 a).2.1 ≠ (TX6 b).2.1 := by decide +kernel
theorem tyX6_ok : ∀ k, k < 0 → parseFieldDescriptor (TX6 k).2.2.1 = some (tyX6 k) := by decide +kernel
abbrev cX6_init : ByteArray := prog_8_method_1_code
def yX6_init : MethodName := ⟨RX6, "<init>", "()V"⟩
def RX7 : String := "RollingThings$Prints"
def TX7 : u_T := fun k => match k with
  | 0 => ("RollingThings$Prints", "board", "LRollingThings$Board;", true)
  | 1 => ("RollingThings$Prints", "die", "LRollingThings$DieOnBoard;", true)
  | 2 => ("RollingThings$Prints", "rowWays", "[I", true)
  | 3 => ("RollingThings$Prints", "rowSeen", "[I", true)
  | 4 => ("RollingThings$Prints", "tally", "[I", true)
  | _ => ("RollingThings$Prints", "length", "I", false)
def tyX7 : Nat → FieldType := fun k => match k with
  | 0 => .object "RollingThings$Board"
  | 1 => .object "RollingThings$DieOnBoard"
  | 2 => .array .int
  | 3 => .array .int
  | 4 => .array .int
  | _ => .int
theorem nmX7 : ∀ a, a < 6 → ∀ b, b < 6 → a ≠ b → (TX7 a).2.1 ≠ (TX7 b).2.1 := by decide +kernel
theorem tyX7_ok : ∀ k, k < 6 → parseFieldDescriptor (TX7 k).2.2.1 = some (tyX7 k) := by decide +kernel
abbrev cX7_init : ByteArray := prog_9_method_1_code
def yX7_init : MethodName := ⟨RX7, "<init>", "(LRollingThings$Board;LRollingThings$DieOnBoard;)V"⟩
abbrev cX7_length : ByteArray := prog_9_method_2_code
def yX7_length : MethodName := ⟨RX7, "length", "()I"⟩
abbrev cX7_append : ByteArray := prog_9_method_3_code
def yX7_append : MethodName := ⟨RX7, "append", "(II)I"⟩
abbrev cX7_drop : ByteArray := prog_9_method_4_code
def yX7_drop : MethodName := ⟨RX7, "drop", "()I"⟩
abbrev cX7_fitting : ByteArray := prog_9_method_5_code
def yX7_fitting : MethodName := ⟨RX7, "fitting", "()I"⟩
abbrev cX7_fittingAt : ByteArray := prog_9_method_6_code
def yX7_fittingAt : MethodName := ⟨RX7, "fittingAt", "(I)I"⟩
abbrev cX7_agreed : ByteArray := prog_9_method_7_code
def yX7_agreed : MethodName := ⟨RX7, "agreed", "(I)I"⟩
abbrev cX7_toldOf : ByteArray := prog_9_method_8_code
def yX7_toldOf : MethodName := ⟨RX7, "toldOf", "(III)I"⟩
abbrev cX7_tellingWay : ByteArray := prog_9_method_9_code
def yX7_tellingWay : MethodName := ⟨RX7, "tellingWay", "()I"⟩
abbrev cX7_tallyFrom : ByteArray := prog_9_method_10_code
def yX7_tallyFrom : MethodName := ⟨RX7, "tallyFrom", "(I)I"⟩
abbrev cX7_leastTallied : ByteArray := prog_9_method_11_code
def yX7_leastTallied : MethodName := ⟨RX7, "leastTallied", "(I)I"⟩
abbrev cX7_mostTallied : ByteArray := prog_9_method_12_code
def yX7_mostTallied : MethodName := ⟨RX7, "mostTallied", "(I)I"⟩
abbrev cX7_allStarts : ByteArray := prog_9_method_13_code
def yX7_allStarts : MethodName := ⟨RX7, "allStarts", "()I"⟩
abbrev cX7_endOf : ByteArray := prog_9_method_14_code
def yX7_endOf : MethodName := ⟨RX7, "endOf", "(I)I"⟩
def RX8 : String := "RollingThings$Search"
def TX8 : u_T := fun k => match k with
  | 0 => ("RollingThings$Search", "distances", "[I", true)
  | 1 => ("RollingThings$Search", "lastWays", "[I", true)
  | 2 => ("RollingThings$Search", "parents", "[I", true)
  | 3 => ("RollingThings$Search", "order", "[I", true)
  | 4 => ("RollingThings$Search", "pathCounts", "[J", true)
  | _ => ("RollingThings$Search", "reached", "I", false)
def tyX8 : Nat → FieldType := fun k => match k with
  | 0 => .array .int
  | 1 => .array .int
  | 2 => .array .int
  | 3 => .array .int
  | 4 => .array .long
  | _ => .int
theorem nmX8 : ∀ a, a < 6 → ∀ b, b < 6 → a ≠ b → (TX8 a).2.1 ≠ (TX8 b).2.1 := by decide +kernel
theorem tyX8_ok : ∀ k, k < 6 → parseFieldDescriptor (TX8 k).2.2.1 = some (tyX8 k) := by decide +kernel
abbrev cX8_init : ByteArray := prog_10_method_1_code
def yX8_init : MethodName := ⟨RX8, "<init>", "()V"⟩
abbrev cX8_forget : ByteArray := prog_10_method_2_code
def yX8_forget : MethodName := ⟨RX8, "forget", "()V"⟩
abbrev cX8_enter : ByteArray := prog_10_method_3_code
def yX8_enter : MethodName := ⟨RX8, "enter", "(I)V"⟩
abbrev cX8_begin : ByteArray := prog_10_method_4_code
def yX8_begin : MethodName := ⟨RX8, "begin", "(I)V"⟩
abbrev cX8_spread : ByteArray := prog_10_method_5_code
def yX8_spread : MethodName := ⟨RX8, "spread", "(LRollingThings$Mover;)V"⟩
abbrev cX8_meet : ByteArray := prog_10_method_6_code
def yX8_meet : MethodName := ⟨RX8, "meet", "(III)V"⟩
abbrev cX8_add : ByteArray := prog_10_method_7_code
def yX8_add : MethodName := ⟨RX8, "add", "(IIII)V"⟩
abbrev cX8_isState : ByteArray := prog_10_method_8_code
def yX8_isState : MethodName := ⟨RX8, "isState", "(I)Z"⟩
abbrev cX8_reached : ByteArray := prog_10_method_9_code
def yX8_reached : MethodName := ⟨RX8, "reached", "()I"⟩
abbrev cX8_reachedAt : ByteArray := prog_10_method_10_code
def yX8_reachedAt : MethodName := ⟨RX8, "reachedAt", "(I)I"⟩
abbrev cX8_distanceTo : ByteArray := prog_10_method_11_code
def yX8_distanceTo : MethodName := ⟨RX8, "distanceTo", "(I)I"⟩
abbrev cX8_pathsTo : ByteArray := prog_10_method_12_code
def yX8_pathsTo : MethodName := ⟨RX8, "pathsTo", "(I)J"⟩
abbrev cX8_stepTo : ByteArray := prog_10_method_13_code
def yX8_stepTo : MethodName := ⟨RX8, "stepTo", "(II)I"⟩
def RX9 : String := "RollingThings$Tours"
def TX9 : u_T := fun k => match k with
  | 0 => ("RollingThings$Tours", "board", "LRollingThings$Board;", true)
  | 1 => ("RollingThings$Tours", "die", "LRollingThings$DieOnBoard;", true)
  | 2 => ("RollingThings$Tours", "steps", "[I", true)
  | 3 => ("RollingThings$Tours", "wanted", "I", false)
  | 4 => ("RollingThings$Tours", "length", "I", false)
  | 5 => ("RollingThings$Tours", "onlyFirst", "Z", false)
  | _ => ("RollingThings$Tours", "found", "I", false)
def tyX9 : Nat → FieldType := fun k => match k with
  | 0 => .object "RollingThings$Board"
  | 1 => .object "RollingThings$DieOnBoard"
  | 2 => .array .int
  | 3 => .int
  | 4 => .int
  | 5 => .boolean
  | _ => .int
theorem nmX9 : ∀ a, a < 7 → ∀ b, b < 7 → a ≠ b → (TX9 a).2.1 ≠ (TX9 b).2.1 := by decide +kernel
theorem tyX9_ok : ∀ k, k < 7 → parseFieldDescriptor (TX9 k).2.2.1 = some (tyX9 k) := by decide +kernel
abbrev cX9_init : ByteArray := prog_11_method_1_code
def yX9_init : MethodName := ⟨RX9, "<init>", "(LRollingThings$Board;LRollingThings$DieOnBoard;)V"⟩
abbrev cX9_howMany : ByteArray := prog_11_method_2_code
def yX9_howMany : MethodName := ⟨RX9, "howMany", "(II)I"⟩
abbrev cX9_stepAt : ByteArray := prog_11_method_3_code
def yX9_stepAt : MethodName := ⟨RX9, "stepAt", "(III)I"⟩
abbrev cX9_seek : ByteArray := prog_11_method_4_code
def yX9_seek : MethodName := ⟨RX9, "seek", "(IIZ)V"⟩
abbrev cX9_extend : ByteArray := prog_11_method_5_code
def yX9_extend : MethodName := ⟨RX9, "extend", "(III)V"⟩
def RX10 : String := "RollingThings"
def TX10 : u_T := fun k => match k with
  | 0 => ("RollingThings", "board", "LRollingThings$Board;", true)
  | 1 => ("RollingThings", "dice", "LRollingThings$Dice;", true)
  | 2 => ("RollingThings", "search", "LRollingThings$Search;", true)
  | 3 => ("RollingThings", "die", "LRollingThings$DieOnBoard;", true)
  | 4 => ("RollingThings", "dieWays", "LRollingThings$DieWays;", true)
  | 5 => ("RollingThings", "dieTours", "LRollingThings$Tours;", true)
  | 6 => ("RollingThings", "prints", "LRollingThings$Prints;", true)
  | _ => ("RollingThings", "blockWays", "LRollingThings$BlockWays;", true)
def tyX10 : Nat → FieldType := fun k => match k with
  | 0 => .object "RollingThings$Board"
  | 1 => .object "RollingThings$Dice"
  | 2 => .object "RollingThings$Search"
  | 3 => .object "RollingThings$DieOnBoard"
  | 4 => .object "RollingThings$DieWays"
  | 5 => .object "RollingThings$Tours"
  | 6 => .object "RollingThings$Prints"
  | _ => .object "RollingThings$BlockWays"
theorem nmX10 : ∀ a, a < 8 → ∀ b, b < 8 → a ≠ b → (TX10 a).2.1 ≠ (TX10 b).2.1 := by decide +kernel
theorem tyX10_ok : ∀ k, k < 8 → parseFieldDescriptor (TX10 k).2.2.1 = some (tyX10 k) := by decide +kernel
abbrev cX10_init : ByteArray := prog_1_method_1_code
def yX10_init : MethodName := ⟨RX10, "<init>", "()V"⟩
abbrev cX10_board : ByteArray := prog_1_method_2_code
def yX10_board : MethodName := ⟨RX10, "board", "(II)I"⟩
abbrev cX10_cell : ByteArray := prog_1_method_3_code
def yX10_cell : MethodName := ⟨RX10, "cell", "(III)I"⟩
abbrev cX10_group : ByteArray := prog_1_method_4_code
def yX10_group : MethodName := ⟨RX10, "group", "(IZ)I"⟩
abbrev cX10_open : ByteArray := prog_1_method_5_code
def yX10_open : MethodName := ⟨RX10, "open", "(I)I"⟩
abbrev cX10_face : ByteArray := prog_1_method_6_code
def yX10_face : MethodName := ⟨RX10, "face", "(II)I"⟩
abbrev cX10_turn : ByteArray := prog_1_method_7_code
def yX10_turn : MethodName := ⟨RX10, "turn", "(II)I"⟩
abbrev cX10_stance : ByteArray := prog_1_method_8_code
def yX10_stance : MethodName := ⟨RX10, "stance", "(II)I"⟩
abbrev cX10_apart : ByteArray := prog_1_method_9_code
def yX10_apart : MethodName := ⟨RX10, "apart", "(II)I"⟩
abbrev cX10_roll : ByteArray := prog_1_method_10_code
def yX10_roll : MethodName := ⟨RX10, "roll", "(III)I"⟩
abbrev cX10_shortest : ByteArray := prog_1_method_11_code
def yX10_shortest : MethodName := ⟨RX10, "shortest", "(IIII)I"⟩
abbrev cX10_way : ByteArray := prog_1_method_12_code
def yX10_way : MethodName := ⟨RX10, "way", "(IIIII)I"⟩
abbrev cX10_ways : ByteArray := prog_1_method_13_code
def yX10_ways : MethodName := ⟨RX10, "ways", "(IIII)J"⟩
abbrev cX10_cheapest : ByteArray := prog_1_method_14_code
def yX10_cheapest : MethodName := ⟨RX10, "cheapest", "(IIII)I"⟩
abbrev cX10_stances : ByteArray := prog_1_method_15_code
def yX10_stances : MethodName := ⟨RX10, "stances", "(III)I"⟩
abbrev cX10_reach : ByteArray := prog_1_method_16_code
def yX10_reach : MethodName := ⟨RX10, "reach", "(II)I"⟩
abbrev cX10_tours : ByteArray := prog_1_method_17_code
def yX10_tours : MethodName := ⟨RX10, "tours", "(III)I"⟩
abbrev cX10_tour : ByteArray := prog_1_method_18_code
def yX10_tour : MethodName := ⟨RX10, "tour", "(IIII)I"⟩
abbrev cX10_row : ByteArray := prog_1_method_19_code
def yX10_row : MethodName := ⟨RX10, "row", "(II)I"⟩
abbrev cX10_clear : ByteArray := prog_1_method_20_code
def yX10_clear : MethodName := ⟨RX10, "clear", "()I"⟩
abbrev cX10_starts : ByteArray := prog_1_method_21_code
def yX10_starts : MethodName := ⟨RX10, "starts", "()I"⟩
abbrev cX10_start : ByteArray := prog_1_method_22_code
def yX10_start : MethodName := ⟨RX10, "start", "(I)I"⟩
abbrev cX10_sure : ByteArray := prog_1_method_23_code
def yX10_sure : MethodName := ⟨RX10, "sure", "(I)I"⟩
abbrev cX10_next : ByteArray := prog_1_method_24_code
def yX10_next : MethodName := ⟨RX10, "next", "()I"⟩
abbrev cX10_sound : ByteArray := prog_1_method_25_code
def yX10_sound : MethodName := ⟨RX10, "sound", "(I)I"⟩
abbrev cX10_rolls : ByteArray := prog_1_method_26_code
def yX10_rolls : MethodName := ⟨RX10, "rolls", "(II)I"⟩
abbrev cX10_home : ByteArray := prog_1_method_27_code
def yX10_home : MethodName := ⟨RX10, "home", "(II)I"⟩
abbrev cX10_homeWay : ByteArray := prog_1_method_28_code
def yX10_homeWay : MethodName := ⟨RX10, "homeWay", "(III)I"⟩
abbrev cX10_homeGroups : ByteArray := prog_1_method_29_code
def yX10_homeGroups : MethodName := ⟨RX10, "homeGroups", "(II)I"⟩
abbrev cX10_whence : ByteArray := prog_1_method_30_code
def yX10_whence : MethodName := ⟨RX10, "whence", "(IZ)I"⟩
abbrev cX10_must : ByteArray := prog_1_method_31_code
def yX10_must : MethodName := ⟨RX10, "must", "(III)I"⟩
abbrev cX10_count : ByteArray := prog_1_method_32_code
def yX10_count : MethodName := ⟨RX10, "count", "(I)I"⟩
abbrev cX10_refusalOfGoal : ByteArray := prog_1_method_33_code
def yX10_refusalOfGoal : MethodName := ⟨RX10, "refusalOfGoal", "(IIII)I"⟩
abbrev cX10_refusalOfTour : ByteArray := prog_1_method_34_code
def yX10_refusalOfTour : MethodName := ⟨RX10, "refusalOfTour", "(III)I"⟩
abbrev cX10_isStart : ByteArray := prog_1_method_35_code
def yX10_isStart : MethodName := ⟨RX10, "isStart", "(II)Z"⟩
abbrev cX10_isPlace : ByteArray := prog_1_method_36_code
def yX10_isPlace : MethodName := ⟨RX10, "isPlace", "(I)Z"⟩
abbrev cX10_isSide : ByteArray := prog_1_method_37_code
def yX10_isSide : MethodName := ⟨RX10, "isSide", "(I)Z"⟩
abbrev cX10_isStance : ByteArray := prog_1_method_38_code
def yX10_isStance : MethodName := ⟨RX10, "isStance", "(I)Z"⟩
abbrev cX10_isFace : ByteArray := prog_1_method_39_code
def yX10_isFace : MethodName := ⟨RX10, "isFace", "(I)Z"⟩
abbrev cX10_isWay : ByteArray := prog_1_method_40_code
def yX10_isWay : MethodName := ⟨RX10, "isWay", "(I)Z"⟩
abbrev cX10_oneIf : ByteArray := prog_1_method_41_code
def yX10_oneIf : MethodName := ⟨RX10, "oneIf", "(Z)I"⟩
abbrev cX10_noneIfNowhere : ByteArray := prog_1_method_42_code
def yX10_noneIfNowhere : MethodName := ⟨RX10, "noneIfNowhere", "(I)I"⟩
def RX11 : String := "RollingThingsModel"
def TX11 : u_T := fun k => match k with
  | 0 => ("RollingThingsModel", "top", "[I", true)
  | 1 => ("RollingThingsModel", "east", "[I", true)
  | 2 => ("RollingThingsModel", "south", "[I", true)
  | 3 => ("RollingThingsModel", "rolled", "[I", true)
  | 4 => ("RollingThingsModel", "off", "[I", true)
  | 5 => ("RollingThingsModel", "wide", "I", false)
  | 6 => ("RollingThingsModel", "tall", "I", false)
  | 7 => ("RollingThingsModel", "kind", "[I", true)
  | 8 => ("RollingThingsModel", "mark", "[I", true)
  | 9 => ("RollingThingsModel", "groups", "I", false)
  | 10 => ("RollingThingsModel", "rolls", "[I", true)
  | 11 => ("RollingThingsModel", "many", "[J", true)
  | 12 => ("RollingThingsModel", "onward", "[I", true)
  | 13 => ("RollingThingsModel", "at", "[I", true)
  | 14 => ("RollingThingsModel", "goes", "[I", true)
  | 15 => ("RollingThingsModel", "firstTour", "[I", true)
  | 16 => ("RollingThingsModel", "tours", "I", false)
  | 17 => ("RollingThingsModel", "tourLength", "I", false)
  | 18 => ("RollingThingsModel", "rowMany", "I", false)
  | 19 => ("RollingThingsModel", "rowWay", "[I", true)
  | 20 => ("RollingThingsModel", "rowSeen", "[I", true)
  | 21 => ("RollingThingsModel", "prints", "[I", true)
  | 22 => ("RollingThingsModel", "homeward", "[I", true)
  | _ => ("RollingThingsModel", "cameBy", "I", false)
def tyX11 : Nat → FieldType := fun k => match k with
  | 0 => .array .int
  | 1 => .array .int
  | 2 => .array .int
  | 3 => .array .int
  | 4 => .array .int
  | 5 => .int
  | 6 => .int
  | 7 => .array .int
  | 8 => .array .int
  | 9 => .int
  | 10 => .array .int
  | 11 => .array .long
  | 12 => .array .int
  | 13 => .array .int
  | 14 => .array .int
  | 15 => .array .int
  | 16 => .int
  | 17 => .int
  | 18 => .int
  | 19 => .array .int
  | 20 => .array .int
  | 21 => .array .int
  | 22 => .array .int
  | _ => .int
theorem nmX11 : ∀ a, a < 24 → ∀ b, b < 24 → a ≠ b → (TX11 a).2.1 ≠ (TX11 b).2.1 := by decide +kernel
theorem tyX11_ok : ∀ k, k < 24 → parseFieldDescriptor (TX11 k).2.2.1 = some (tyX11 k) := by decide +kernel
abbrev cX11_init : ByteArray := prog_13_method_1_code
def yX11_init : MethodName := ⟨RX11, "<init>", "()V"⟩
abbrev cX11_in : ByteArray := prog_13_method_3_code
def yX11_in : MethodName := ⟨RX11, "in", "(JJJ)Z"⟩
abbrev cX11_stanceOf : ByteArray := prog_13_method_4_code
def yX11_stanceOf : MethodName := ⟨RX11, "stanceOf", "(II)I"⟩
abbrev cX11_laySouths : ByteArray := prog_13_method_5_code
def yX11_laySouths : MethodName := ⟨RX11, "laySouths", "()V"⟩
abbrev cX11_topAfter : ByteArray := prog_13_method_6_code
def yX11_topAfter : MethodName := ⟨RX11, "topAfter", "(II)I"⟩
abbrev cX11_eastAfter : ByteArray := prog_13_method_7_code
def yX11_eastAfter : MethodName := ⟨RX11, "eastAfter", "(II)I"⟩
abbrev cX11_isStance : ByteArray := prog_13_method_8_code
def yX11_isStance : MethodName := ⟨RX11, "isStance", "(I)Z"⟩
abbrev cX11_isWay : ByteArray := prog_13_method_9_code
def yX11_isWay : MethodName := ⟨RX11, "isWay", "(I)Z"⟩
abbrev cX11_face : ByteArray := prog_13_method_10_code
def yX11_face : MethodName := ⟨RX11, "face", "(II)I"⟩
abbrev cX11_turn : ByteArray := prog_13_method_11_code
def yX11_turn : MethodName := ⟨RX11, "turn", "(II)I"⟩
abbrev cX11_stance : ByteArray := prog_13_method_12_code
def yX11_stance : MethodName := ⟨RX11, "stance", "(II)I"⟩
abbrev cX11_apart : ByteArray := prog_13_method_13_code
def yX11_apart : MethodName := ⟨RX11, "apart", "(II)I"⟩
abbrev cX11_cells : ByteArray := prog_13_method_14_code
def yX11_cells : MethodName := ⟨RX11, "cells", "()I"⟩
abbrev cX11_isCell : ByteArray := prog_13_method_15_code
def yX11_isCell : MethodName := ⟨RX11, "isCell", "(I)Z"⟩
abbrev cX11_board : ByteArray := prog_13_method_16_code
def yX11_board : MethodName := ⟨RX11, "board", "(II)I"⟩
abbrev cX11_cell : ByteArray := prog_13_method_17_code
def yX11_cell : MethodName := ⟨RX11, "cell", "(III)I"⟩
abbrev cX11_group : ByteArray := prog_13_method_18_code
def yX11_group : MethodName := ⟨RX11, "group", "(IZ)I"⟩
abbrev cX11_isOpen : ByteArray := prog_13_method_19_code
def yX11_isOpen : MethodName := ⟨RX11, "isOpen", "(II)Z"⟩
abbrev cX11_open : ByteArray := prog_13_method_20_code
def yX11_open : MethodName := ⟨RX11, "open", "(I)I"⟩
abbrev cX11_beside : ByteArray := prog_13_method_21_code
def yX11_beside : MethodName := ⟨RX11, "beside", "(II)I"⟩
abbrev cX11_rollOf : ByteArray := prog_13_method_22_code
def yX11_rollOf : MethodName := ⟨RX11, "rollOf", "(II)I"⟩
abbrev cX11_roll : ByteArray := prog_13_method_23_code
def yX11_roll : MethodName := ⟨RX11, "roll", "(III)I"⟩
abbrev cX11_isWant : ByteArray := prog_13_method_24_code
def yX11_isWant : MethodName := ⟨RX11, "isWant", "(I)Z"⟩
abbrev cX11_isGoal : ByteArray := prog_13_method_25_code
def yX11_isGoal : MethodName := ⟨RX11, "isGoal", "(III)Z"⟩
abbrev cX11_mayGo : ByteArray := prog_13_method_26_code
def yX11_mayGo : MethodName := ⟨RX11, "mayGo", "(IIII)I"⟩
abbrev cX11_layFrom : ByteArray := prog_13_method_27_code
def yX11_layFrom : MethodName := ⟨RX11, "layFrom", "(I)V"⟩
abbrev cX11_shortestOf : ByteArray := prog_13_method_28_code
def yX11_shortestOf : MethodName := ⟨RX11, "shortestOf", "(II)I"⟩
abbrev cX11_shortest : ByteArray := prog_13_method_29_code
def yX11_shortest : MethodName := ⟨RX11, "shortest", "(IIII)I"⟩
abbrev cX11_ways : ByteArray := prog_13_method_30_code
def yX11_ways : MethodName := ⟨RX11, "ways", "(IIII)J"⟩
abbrev cX11_layOnward : ByteArray := prog_13_method_31_code
def yX11_layOnward : MethodName := ⟨RX11, "layOnward", "(II)V"⟩
abbrev cX11_way : ByteArray := prog_13_method_32_code
def yX11_way : MethodName := ⟨RX11, "way", "(IIIII)I"⟩
abbrev cX11_print : ByteArray := prog_13_method_33_code
def yX11_print : MethodName := ⟨RX11, "print", "(I)I"⟩
abbrev cX11_cheapest : ByteArray := prog_13_method_34_code
def yX11_cheapest : MethodName := ⟨RX11, "cheapest", "(IIII)I"⟩
abbrev cX11_stances : ByteArray := prog_13_method_35_code
def yX11_stances : MethodName := ⟨RX11, "stances", "(III)I"⟩
abbrev cX11_reach : ByteArray := prog_13_method_36_code
def yX11_reach : MethodName := ⟨RX11, "reach", "(II)I"⟩
abbrev cX11_openCells : ByteArray := prog_13_method_37_code
def yX11_openCells : MethodName := ⟨RX11, "openCells", "(I)I"⟩
abbrev cX11_mayTour : ByteArray := prog_13_method_38_code
def yX11_mayTour : MethodName := ⟨RX11, "mayTour", "(III)I"⟩
abbrev cX11_layTours : ByteArray := prog_13_method_39_code
def yX11_layTours : MethodName := ⟨RX11, "layTours", "(II)V"⟩
abbrev cX11_endTour : ByteArray := prog_13_method_40_code
def yX11_endTour : MethodName := ⟨RX11, "endTour", "(II)V"⟩
abbrev cX11_tours : ByteArray := prog_13_method_41_code
def yX11_tours : MethodName := ⟨RX11, "tours", "(III)I"⟩
abbrev cX11_tour : ByteArray := prog_13_method_42_code
def yX11_tour : MethodName := ⟨RX11, "tour", "(IIII)I"⟩
abbrev cX11_row : ByteArray := prog_13_method_43_code
def yX11_row : MethodName := ⟨RX11, "row", "(II)I"⟩
abbrev cX11_clear : ByteArray := prog_13_method_44_code
def yX11_clear : MethodName := ⟨RX11, "clear", "()I"⟩
abbrev cX11_behind : ByteArray := prog_13_method_45_code
def yX11_behind : MethodName := ⟨RX11, "behind", "(I)I"⟩
abbrev cX11_starts : ByteArray := prog_13_method_46_code
def yX11_starts : MethodName := ⟨RX11, "starts", "()I"⟩
abbrev cX11_start : ByteArray := prog_13_method_47_code
def yX11_start : MethodName := ⟨RX11, "start", "(I)I"⟩
abbrev cX11_sure : ByteArray := prog_13_method_48_code
def yX11_sure : MethodName := ⟨RX11, "sure", "(I)I"⟩
abbrev cX11_greatestBy : ByteArray := prog_13_method_49_code
def yX11_greatestBy : MethodName := ⟨RX11, "greatestBy", "(I)I"⟩
abbrev cX11_next : ByteArray := prog_13_method_50_code
def yX11_next : MethodName := ⟨RX11, "next", "()I"⟩
abbrev cX11_isPlace : ByteArray := prog_13_method_51_code
def yX11_isPlace : MethodName := ⟨RX11, "isPlace", "(I)Z"⟩
abbrev cX11_otherOf : ByteArray := prog_13_method_52_code
def yX11_otherOf : MethodName := ⟨RX11, "otherOf", "(I)I"⟩
abbrev cX11_isSound : ByteArray := prog_13_method_53_code
def yX11_isSound : MethodName := ⟨RX11, "isSound", "(II)Z"⟩
abbrev cX11_sound : ByteArray := prog_13_method_54_code
def yX11_sound : MethodName := ⟨RX11, "sound", "(I)I"⟩
abbrev cX11_blockTo : ByteArray := prog_13_method_55_code
def yX11_blockTo : MethodName := ⟨RX11, "blockTo", "(II)I"⟩
abbrev cX11_blockRoll : ByteArray := prog_13_method_56_code
def yX11_blockRoll : MethodName := ⟨RX11, "blockRoll", "(II)I"⟩
abbrev cX11_rolls : ByteArray := prog_13_method_57_code
def yX11_rolls : MethodName := ⟨RX11, "rolls", "(II)I"⟩
abbrev cX11_layHome : ByteArray := prog_13_method_58_code
def yX11_layHome : MethodName := ⟨RX11, "layHome", "(I)V"⟩
abbrev cX11_home : ByteArray := prog_13_method_59_code
def yX11_home : MethodName := ⟨RX11, "home", "(II)I"⟩
abbrev cX11_homeStep : ByteArray := prog_13_method_60_code
def yX11_homeStep : MethodName := ⟨RX11, "homeStep", "(I)I"⟩
abbrev cX11_homeWay : ByteArray := prog_13_method_61_code
def yX11_homeWay : MethodName := ⟨RX11, "homeWay", "(III)I"⟩
abbrev cX11_homeGroups : ByteArray := prog_13_method_62_code
def yX11_homeGroups : MethodName := ⟨RX11, "homeGroups", "(II)I"⟩
abbrev cX11_whence : ByteArray := prog_13_method_63_code
def yX11_whence : MethodName := ⟨RX11, "whence", "(IZ)I"⟩
abbrev cX11_must : ByteArray := prog_13_method_64_code
def yX11_must : MethodName := ⟨RX11, "must", "(III)I"⟩
abbrev cX11_count : ByteArray := prog_13_method_65_code
def yX11_count : MethodName := ⟨RX11, "count", "(I)I"⟩
def RJ6 : String := "java/lang/Integer"
def TJ6 : u_T := fun k => match k with
  | _ => ("", "", "", false)
def tyJ6 : Nat → FieldType := fun k => match k with
  | _ => .int
theorem nmJ6 : ∀ a, a < 0 → ∀ b, b < 0 → a ≠ b → (TJ6 a).2.1 ≠ (TJ6 b).2.1 := by decide +kernel
theorem tyJ6_ok : ∀ k, k < 0 → parseFieldDescriptor (TJ6 k).2.2.1 = some (tyJ6 k) := by decide +kernel
abbrev cJ6_bitCount_0f7a4 : ByteArray := prog_14_method_49_code
def yJ6_bitCount_0f7a4 : MethodName := ⟨RJ6, "bitCount", "(I)I"⟩
def RJ9 : String := "java/lang/Math"
def TJ9 : u_T := fun k => match k with
  | _ => ("", "", "", false)
def tyJ9 : Nat → FieldType := fun k => match k with
  | _ => .int
theorem nmJ9 : ∀ a, a < 0 → ∀ b, b < 0 → a ≠ b → (TJ9 a).2.1 ≠ (TJ9 b).2.1 := by decide +kernel
theorem tyJ9_ok : ∀ k, k < 0 → parseFieldDescriptor (TJ9 k).2.2.1 = some (tyJ9 k) := by decide +kernel
abbrev cJ9_max_7cf53 : ByteArray := prog_15_method_65_code
def yJ9_max_7cf53 : MethodName := ⟨RJ9, "max", "(II)I"⟩
abbrev cJ9_min_7cf53 : ByteArray := prog_15_method_69_code
def yJ9_min_7cf53 : MethodName := ⟨RJ9, "min", "(II)I"⟩
def RJ7 : String := "java/util/Arrays"
def TJ7 : u_T := fun k => match k with
  | _ => ("", "", "", false)
def tyJ7 : Nat → FieldType := fun k => match k with
  | _ => .int
theorem nmJ7 : ∀ a, a < 0 → ∀ b, b < 0 → a ≠ b → (TJ7 a).2.1 ≠ (TJ7 b).2.1 := by decide +kernel
theorem tyJ7_ok : ∀ k, k < 0 → parseFieldDescriptor (TJ7 k).2.2.1 = some (tyJ7 k) := by decide +kernel
abbrev cJ7_fill_53178 : ByteArray := prog_16_method_103_code
def yJ7_fill_53178 : MethodName := ⟨RJ7, "fill", "([II)V"⟩
def RL : String := "RollingThingsLaw"
abbrev cL_law : ByteArray := code
def yL_law : MethodName := ⟨RL, "law", "([I)Z"⟩
abbrev vwCl : List vw_C := [(RX0, TX0, 2), (RX1, TX1, 4), (RX2, TX2, 5), (RX3, TX3, 0), (RX4, TX4, 1), (RX5, TX5, 3), (RX7, TX7, 6), (RX8, TX8, 6), (RX9, TX9, 7), (RX10, TX10, 8), (RX11, TX11, 24)]
end
section
theorem dX0_init_0 : decode cX0_init 0 = .ok (.aload_n 0, 1) := by decide +kernel
theorem dX0_init_1 : decode cX0_init 1 = .ok (.invokespecial 3, 3) := by decide +kernel
theorem dX0_init_4 : decode cX0_init 4 = .ok (.aload_n 0, 1) := by decide +kernel
theorem dX0_init_5 : decode cX0_init 5 = .ok (.aload_n 1, 1) := by decide +kernel
theorem dX0_init_6 : decode cX0_init 6 = .ok (.putfield 9, 3) := by decide +kernel
theorem dX0_init_9 : decode cX0_init 9 = .ok (.aload_n 0, 1) := by decide +kernel
theorem dX0_init_10 : decode cX0_init 10 = .ok (.iload_n 2, 1) := by decide +kernel
theorem dX0_init_11 : decode cX0_init 11 = .ok (.putfield 15, 3) := by decide +kernel
theorem dX0_init_14 : decode cX0_init 14 = .ok (.return_, 1) := by decide +kernel
theorem dX0_at_0 : decode cX0_at 0 = .ok (.bipush 8, 2) := by decide +kernel
theorem dX0_at_2 : decode cX0_at 2 = .ok (.iload_n 0, 1) := by decide +kernel
theorem dX0_at_3 : decode cX0_at 3 = .ok (.imul, 1) := by decide +kernel
theorem dX0_at_4 : decode cX0_at 4 = .ok (.iload_n 1, 1) := by decide +kernel
theorem dX0_at_5 : decode cX0_at 5 = .ok (.iadd, 1) := by decide +kernel
theorem dX0_at_6 : decode cX0_at 6 = .ok (.ireturn, 1) := by decide +kernel
theorem dX0_placeOf_0 : decode cX0_placeOf 0 = .ok (.iload_n 0, 1) := by decide +kernel
theorem dX0_placeOf_1 : decode cX0_placeOf 1 = .ok (.bipush 8, 2) := by decide +kernel
theorem dX0_placeOf_3 : decode cX0_placeOf 3 = .ok (.idiv, 1) := by decide +kernel
theorem dX0_placeOf_4 : decode cX0_placeOf 4 = .ok (.ireturn, 1) := by decide +kernel
theorem dX0_groupsOf_0 : decode cX0_groupsOf 0 = .ok (.iload_n 0, 1) := by decide +kernel
theorem dX0_groupsOf_1 : decode cX0_groupsOf 1 = .ok (.bipush 8, 2) := by decide +kernel
theorem dX0_groupsOf_3 : decode cX0_groupsOf 3 = .ok (.irem, 1) := by decide +kernel
theorem dX0_groupsOf_4 : decode cX0_groupsOf 4 = .ok (.ireturn, 1) := by decide +kernel
theorem dX0_standingOn_0 : decode cX0_standingOn 0 = .ok (.iconst 3, 1) := by decide +kernel
theorem dX0_standingOn_1 : decode cX0_standingOn 1 = .ok (.iload_n 0, 1) := by decide +kernel
theorem dX0_standingOn_2 : decode cX0_standingOn 2 = .ok (.imul, 1) := by decide +kernel
theorem dX0_standingOn_3 : decode cX0_standingOn 3 = .ok (.ireturn, 1) := by decide +kernel
theorem dX0_lyingFrom_0 : decode cX0_lyingFrom 0 = .ok (.iload_n 0, 1) := by decide +kernel
theorem dX0_lyingFrom_1 : decode cX0_lyingFrom 1 = .ok (.iconst (-1), 1) := by decide +kernel
theorem dX0_lyingFrom_2 : decode cX0_lyingFrom 2 = .ok (.if_icmp .ne 7, 3) := by decide +kernel
theorem dX0_lyingFrom_5 : decode cX0_lyingFrom 5 = .ok (.iconst (-1), 1) := by decide +kernel
theorem dX0_lyingFrom_6 : decode cX0_lyingFrom 6 = .ok (.goto 8, 3) := by decide +kernel
theorem dX0_lyingFrom_9 : decode cX0_lyingFrom 9 = .ok (.iconst 3, 1) := by decide +kernel
theorem dX0_lyingFrom_10 : decode cX0_lyingFrom 10 = .ok (.iload_n 0, 1) := by decide +kernel
theorem dX0_lyingFrom_11 : decode cX0_lyingFrom 11 = .ok (.imul, 1) := by decide +kernel
theorem dX0_lyingFrom_12 : decode cX0_lyingFrom 12 = .ok (.iload_n 1, 1) := by decide +kernel
theorem dX0_lyingFrom_13 : decode cX0_lyingFrom 13 = .ok (.iadd, 1) := by decide +kernel
theorem dX0_lyingFrom_14 : decode cX0_lyingFrom 14 = .ok (.ireturn, 1) := by decide +kernel
theorem dX0_isSound_0 : decode cX0_isSound 0 = .ok (.iload_n 1, 1) := by decide +kernel
theorem dX0_isSound_1 : decode cX0_isSound 1 = .ok (.ifCond .ge 5, 3) := by decide +kernel
theorem dX0_isSound_4 : decode cX0_isSound 4 = .ok (.iconst 0, 1) := by decide +kernel
theorem dX0_isSound_5 : decode cX0_isSound 5 = .ok (.ireturn, 1) := by decide +kernel
theorem dX0_isSound_6 : decode cX0_isSound 6 = .ok (.iload_n 1, 1) := by decide +kernel
theorem dX0_isSound_7 : decode cX0_isSound 7 = .ok (.iconst 3, 1) := by decide +kernel
theorem dX0_isSound_8 : decode cX0_isSound 8 = .ok (.idiv, 1) := by decide +kernel
theorem dX0_isSound_9 : decode cX0_isSound 9 = .ok (.istore_n 3, 1) := by decide +kernel
theorem dX0_isSound_10 : decode cX0_isSound 10 = .ok (.iload_n 1, 1) := by decide +kernel
theorem dX0_isSound_11 : decode cX0_isSound 11 = .ok (.iconst 3, 1) := by decide +kernel
theorem dX0_isSound_12 : decode cX0_isSound 12 = .ok (.irem, 1) := by decide +kernel
theorem dX0_isSound_13 : decode cX0_isSound 13 = .ok (.istore 4, 2) := by decide +kernel
theorem dX0_isSound_15 : decode cX0_isSound 15 = .ok (.aload_n 0, 1) := by decide +kernel
theorem dX0_isSound_16 : decode cX0_isSound 16 = .ok (.getfield 9, 3) := by decide +kernel
theorem dX0_isSound_19 : decode cX0_isSound 19 = .ok (.iload_n 3, 1) := by decide +kernel
theorem dX0_isSound_20 : decode cX0_isSound 20 = .ok (.iload_n 2, 1) := by decide +kernel
theorem dX0_isSound_21 : decode cX0_isSound 21 = .ok (.invokevirtual 19, 3) := by decide +kernel
theorem dX0_isSound_24 : decode cX0_isSound 24 = .ok (.ifCond .ne 5, 3) := by decide +kernel
theorem dX0_isSound_27 : decode cX0_isSound 27 = .ok (.iconst 0, 1) := by decide +kernel
theorem dX0_isSound_28 : decode cX0_isSound 28 = .ok (.ireturn, 1) := by decide +kernel
theorem dX0_isSound_29 : decode cX0_isSound 29 = .ok (.iload 4, 2) := by decide +kernel
theorem dX0_isSound_31 : decode cX0_isSound 31 = .ok (.ifCond .ne 21, 3) := by decide +kernel
theorem dX0_isSound_34 : decode cX0_isSound 34 = .ok (.aload_n 0, 1) := by decide +kernel
theorem dX0_isSound_35 : decode cX0_isSound 35 = .ok (.getfield 9, 3) := by decide +kernel
theorem dX0_isSound_38 : decode cX0_isSound 38 = .ok (.iload_n 3, 1) := by decide +kernel
theorem dX0_isSound_39 : decode cX0_isSound 39 = .ok (.invokevirtual 25, 3) := by decide +kernel
theorem dX0_isSound_42 : decode cX0_isSound 42 = .ok (.iconst 2, 1) := by decide +kernel
theorem dX0_isSound_43 : decode cX0_isSound 43 = .ok (.if_icmp .eq 7, 3) := by decide +kernel
theorem dX0_isSound_46 : decode cX0_isSound 46 = .ok (.iconst 1, 1) := by decide +kernel
theorem dX0_isSound_47 : decode cX0_isSound 47 = .ok (.goto 4, 3) := by decide +kernel
theorem dX0_isSound_50 : decode cX0_isSound 50 = .ok (.iconst 0, 1) := by decide +kernel
theorem dX0_isSound_51 : decode cX0_isSound 51 = .ok (.ireturn, 1) := by decide +kernel
theorem dX0_isSound_52 : decode cX0_isSound 52 = .ok (.aload_n 0, 1) := by decide +kernel
theorem dX0_isSound_53 : decode cX0_isSound 53 = .ok (.getfield 9, 3) := by decide +kernel
theorem dX0_isSound_56 : decode cX0_isSound 56 = .ok (.aload_n 0, 1) := by decide +kernel
theorem dX0_isSound_57 : decode cX0_isSound 57 = .ok (.getfield 9, 3) := by decide +kernel
theorem dX0_isSound_60 : decode cX0_isSound 60 = .ok (.iload_n 3, 1) := by decide +kernel
theorem dX0_isSound_61 : decode cX0_isSound 61 = .ok (.iload 4, 2) := by decide +kernel
theorem dX0_isSound_63 : decode cX0_isSound 63 = .ok (.iconst 1, 1) := by decide +kernel
theorem dX0_isSound_64 : decode cX0_isSound 64 = .ok (.isub, 1) := by decide +kernel
theorem dX0_isSound_65 : decode cX0_isSound 65 = .ok (.invokevirtual 29, 3) := by decide +kernel
theorem dX0_isSound_68 : decode cX0_isSound 68 = .ok (.iload_n 2, 1) := by decide +kernel
theorem dX0_isSound_69 : decode cX0_isSound 69 = .ok (.invokevirtual 19, 3) := by decide +kernel
theorem dX0_isSound_72 : decode cX0_isSound 72 = .ok (.ireturn, 1) := by decide +kernel
theorem dX0_turnedAt_0 : decode cX0_turnedAt 0 = .ok (.aload_n 0, 1) := by decide +kernel
theorem dX0_turnedAt_1 : decode cX0_turnedAt 1 = .ok (.getfield 9, 3) := by decide +kernel
theorem dX0_turnedAt_4 : decode cX0_turnedAt 4 = .ok (.iload_n 1, 1) := by decide +kernel
theorem dX0_turnedAt_5 : decode cX0_turnedAt 5 = .ok (.iconst 3, 1) := by decide +kernel
theorem dX0_turnedAt_6 : decode cX0_turnedAt 6 = .ok (.idiv, 1) := by decide +kernel
theorem dX0_turnedAt_7 : decode cX0_turnedAt 7 = .ok (.invokevirtual 25, 3) := by decide +kernel
theorem dX0_turnedAt_10 : decode cX0_turnedAt 10 = .ok (.istore_n 2, 1) := by decide +kernel
theorem dX0_turnedAt_11 : decode cX0_turnedAt 11 = .ok (.iload_n 1, 1) := by decide +kernel
theorem dX0_turnedAt_12 : decode cX0_turnedAt 12 = .ok (.iconst 3, 1) := by decide +kernel
theorem dX0_turnedAt_13 : decode cX0_turnedAt 13 = .ok (.irem, 1) := by decide +kernel
theorem dX0_turnedAt_14 : decode cX0_turnedAt 14 = .ok (.ifCond .ne 18, 3) := by decide +kernel
theorem dX0_turnedAt_17 : decode cX0_turnedAt 17 = .ok (.iload_n 2, 1) := by decide +kernel
theorem dX0_turnedAt_18 : decode cX0_turnedAt 18 = .ok (.iconst 3, 1) := by decide +kernel
theorem dX0_turnedAt_19 : decode cX0_turnedAt 19 = .ok (.if_icmp .lt 13, 3) := by decide +kernel
theorem dX0_turnedAt_22 : decode cX0_turnedAt 22 = .ok (.iload_n 2, 1) := by decide +kernel
theorem dX0_turnedAt_23 : decode cX0_turnedAt 23 = .ok (.bipush 6, 2) := by decide +kernel
theorem dX0_turnedAt_25 : decode cX0_turnedAt 25 = .ok (.if_icmp .ge 7, 3) := by decide +kernel
theorem dX0_turnedAt_28 : decode cX0_turnedAt 28 = .ok (.iconst 1, 1) := by decide +kernel
theorem dX0_turnedAt_29 : decode cX0_turnedAt 29 = .ok (.goto 4, 3) := by decide +kernel
theorem dX0_turnedAt_32 : decode cX0_turnedAt 32 = .ok (.iconst 0, 1) := by decide +kernel
theorem dX0_turnedAt_33 : decode cX0_turnedAt 33 = .ok (.istore_n 3, 1) := by decide +kernel
theorem dX0_turnedAt_34 : decode cX0_turnedAt 34 = .ok (.iload_n 3, 1) := by decide +kernel
theorem dX0_turnedAt_35 : decode cX0_turnedAt 35 = .ok (.ifCond .eq 11, 3) := by decide +kernel
theorem dX0_turnedAt_38 : decode cX0_turnedAt 38 = .ok (.iconst 1, 1) := by decide +kernel
theorem dX0_turnedAt_39 : decode cX0_turnedAt 39 = .ok (.iload_n 2, 1) := by decide +kernel
theorem dX0_turnedAt_40 : decode cX0_turnedAt 40 = .ok (.iconst 3, 1) := by decide +kernel
theorem dX0_turnedAt_41 : decode cX0_turnedAt 41 = .ok (.isub, 1) := by decide +kernel
theorem dX0_turnedAt_42 : decode cX0_turnedAt 42 = .ok (.ishl, 1) := by decide +kernel
theorem dX0_turnedAt_43 : decode cX0_turnedAt 43 = .ok (.goto 4, 3) := by decide +kernel
theorem dX0_turnedAt_46 : decode cX0_turnedAt 46 = .ok (.iconst 0, 1) := by decide +kernel
theorem dX0_turnedAt_47 : decode cX0_turnedAt 47 = .ok (.ireturn, 1) := by decide +kernel
theorem dX0_tipped_0 : decode cX0_tipped 0 = .ok (.iload_n 1, 1) := by decide +kernel
theorem dX0_tipped_1 : decode cX0_tipped 1 = .ok (.iconst 3, 1) := by decide +kernel
theorem dX0_tipped_2 : decode cX0_tipped 2 = .ok (.idiv, 1) := by decide +kernel
theorem dX0_tipped_3 : decode cX0_tipped 3 = .ok (.istore_n 3, 1) := by decide +kernel
theorem dX0_tipped_4 : decode cX0_tipped 4 = .ok (.iload_n 1, 1) := by decide +kernel
theorem dX0_tipped_5 : decode cX0_tipped 5 = .ok (.iconst 3, 1) := by decide +kernel
theorem dX0_tipped_6 : decode cX0_tipped 6 = .ok (.irem, 1) := by decide +kernel
theorem dX0_tipped_7 : decode cX0_tipped 7 = .ok (.istore 4, 2) := by decide +kernel
theorem dX0_tipped_9 : decode cX0_tipped 9 = .ok (.iload_n 2, 1) := by decide +kernel
theorem dX0_tipped_10 : decode cX0_tipped 10 = .ok (.iconst 2, 1) := by decide +kernel
theorem dX0_tipped_11 : decode cX0_tipped 11 = .ok (.irem, 1) := by decide +kernel
theorem dX0_tipped_12 : decode cX0_tipped 12 = .ok (.iconst 1, 1) := by decide +kernel
theorem dX0_tipped_13 : decode cX0_tipped 13 = .ok (.iadd, 1) := by decide +kernel
theorem dX0_tipped_14 : decode cX0_tipped 14 = .ok (.istore 5, 2) := by decide +kernel
theorem dX0_tipped_16 : decode cX0_tipped 16 = .ok (.iload_n 2, 1) := by decide +kernel
theorem dX0_tipped_17 : decode cX0_tipped 17 = .ok (.iconst 2, 1) := by decide +kernel
theorem dX0_tipped_18 : decode cX0_tipped 18 = .ok (.if_icmp .ge 7, 3) := by decide +kernel
theorem dX0_tipped_21 : decode cX0_tipped 21 = .ok (.iconst 1, 1) := by decide +kernel
theorem dX0_tipped_22 : decode cX0_tipped 22 = .ok (.goto 4, 3) := by decide +kernel
theorem dX0_tipped_25 : decode cX0_tipped 25 = .ok (.iconst 0, 1) := by decide +kernel
theorem dX0_tipped_26 : decode cX0_tipped 26 = .ok (.istore 6, 2) := by decide +kernel
theorem dX0_tipped_28 : decode cX0_tipped 28 = .ok (.iload 4, 2) := by decide +kernel
theorem dX0_tipped_30 : decode cX0_tipped 30 = .ok (.ifCond .ne 54, 3) := by decide +kernel
theorem dX0_tipped_33 : decode cX0_tipped 33 = .ok (.aload_n 0, 1) := by decide +kernel
theorem dX0_tipped_34 : decode cX0_tipped 34 = .ok (.getfield 9, 3) := by decide +kernel
theorem dX0_tipped_37 : decode cX0_tipped 37 = .ok (.iload_n 3, 1) := by decide +kernel
theorem dX0_tipped_38 : decode cX0_tipped 38 = .ok (.iload_n 2, 1) := by decide +kernel
theorem dX0_tipped_39 : decode cX0_tipped 39 = .ok (.invokevirtual 29, 3) := by decide +kernel
theorem dX0_tipped_42 : decode cX0_tipped 42 = .ok (.istore 7, 2) := by decide +kernel
theorem dX0_tipped_44 : decode cX0_tipped 44 = .ok (.aload_n 0, 1) := by decide +kernel
theorem dX0_tipped_45 : decode cX0_tipped 45 = .ok (.getfield 9, 3) := by decide +kernel
theorem dX0_tipped_48 : decode cX0_tipped 48 = .ok (.iload 7, 2) := by decide +kernel
theorem dX0_tipped_50 : decode cX0_tipped 50 = .ok (.iload_n 2, 1) := by decide +kernel
theorem dX0_tipped_51 : decode cX0_tipped 51 = .ok (.invokevirtual 29, 3) := by decide +kernel
theorem dX0_tipped_54 : decode cX0_tipped 54 = .ok (.istore 8, 2) := by decide +kernel
theorem dX0_tipped_56 : decode cX0_tipped 56 = .ok (.iload 8, 2) := by decide +kernel
theorem dX0_tipped_58 : decode cX0_tipped 58 = .ok (.iconst (-1), 1) := by decide +kernel
theorem dX0_tipped_59 : decode cX0_tipped 59 = .ok (.if_icmp .ne 7, 3) := by decide +kernel
theorem dX0_tipped_62 : decode cX0_tipped 62 = .ok (.iconst (-1), 1) := by decide +kernel
theorem dX0_tipped_63 : decode cX0_tipped 63 = .ok (.goto 20, 3) := by decide +kernel
theorem dX0_tipped_66 : decode cX0_tipped 66 = .ok (.iload 6, 2) := by decide +kernel
theorem dX0_tipped_68 : decode cX0_tipped 68 = .ok (.ifCond .eq 8, 3) := by decide +kernel
theorem dX0_tipped_71 : decode cX0_tipped 71 = .ok (.iload 7, 2) := by decide +kernel
theorem dX0_tipped_73 : decode cX0_tipped 73 = .ok (.goto 5, 3) := by decide +kernel
theorem dX0_tipped_76 : decode cX0_tipped 76 = .ok (.iload 8, 2) := by decide +kernel
theorem dX0_tipped_78 : decode cX0_tipped 78 = .ok (.iload 5, 2) := by decide +kernel
theorem dX0_tipped_80 : decode cX0_tipped 80 = .ok (.invokestatic 33, 3) := by decide +kernel
theorem dX0_tipped_83 : decode cX0_tipped 83 = .ok (.ireturn, 1) := by decide +kernel
theorem dX0_tipped_84 : decode cX0_tipped 84 = .ok (.iload 4, 2) := by decide +kernel
theorem dX0_tipped_86 : decode cX0_tipped 86 = .ok (.iload 5, 2) := by decide +kernel
theorem dX0_tipped_88 : decode cX0_tipped 88 = .ok (.if_icmp .eq 18, 3) := by decide +kernel
theorem dX0_tipped_91 : decode cX0_tipped 91 = .ok (.aload_n 0, 1) := by decide +kernel
theorem dX0_tipped_92 : decode cX0_tipped 92 = .ok (.getfield 9, 3) := by decide +kernel
theorem dX0_tipped_95 : decode cX0_tipped 95 = .ok (.iload_n 3, 1) := by decide +kernel
theorem dX0_tipped_96 : decode cX0_tipped 96 = .ok (.iload_n 2, 1) := by decide +kernel
theorem dX0_tipped_97 : decode cX0_tipped 97 = .ok (.invokevirtual 29, 3) := by decide +kernel
theorem dX0_tipped_100 : decode cX0_tipped 100 = .ok (.iload 4, 2) := by decide +kernel
theorem dX0_tipped_102 : decode cX0_tipped 102 = .ok (.invokestatic 33, 3) := by decide +kernel
theorem dX0_tipped_105 : decode cX0_tipped 105 = .ok (.ireturn, 1) := by decide +kernel
theorem dX0_tipped_106 : decode cX0_tipped 106 = .ok (.iload 6, 2) := by decide +kernel
theorem dX0_tipped_108 : decode cX0_tipped 108 = .ok (.ifCond .eq 15, 3) := by decide +kernel
theorem dX0_tipped_111 : decode cX0_tipped 111 = .ok (.aload_n 0, 1) := by decide +kernel
theorem dX0_tipped_112 : decode cX0_tipped 112 = .ok (.getfield 9, 3) := by decide +kernel
theorem dX0_tipped_115 : decode cX0_tipped 115 = .ok (.iload_n 3, 1) := by decide +kernel
theorem dX0_tipped_116 : decode cX0_tipped 116 = .ok (.iload_n 2, 1) := by decide +kernel
theorem dX0_tipped_117 : decode cX0_tipped 117 = .ok (.invokevirtual 29, 3) := by decide +kernel
theorem dX0_tipped_120 : decode cX0_tipped 120 = .ok (.goto 4, 3) := by decide +kernel
theorem dX0_tipped_123 : decode cX0_tipped 123 = .ok (.iload_n 3, 1) := by decide +kernel
theorem dX0_tipped_124 : decode cX0_tipped 124 = .ok (.istore 7, 2) := by decide +kernel
theorem dX0_tipped_126 : decode cX0_tipped 126 = .ok (.aload_n 0, 1) := by decide +kernel
theorem dX0_tipped_127 : decode cX0_tipped 127 = .ok (.getfield 9, 3) := by decide +kernel
theorem dX0_tipped_130 : decode cX0_tipped 130 = .ok (.iload 7, 2) := by decide +kernel
theorem dX0_tipped_132 : decode cX0_tipped 132 = .ok (.iload_n 2, 1) := by decide +kernel
theorem dX0_tipped_133 : decode cX0_tipped 133 = .ok (.invokevirtual 29, 3) := by decide +kernel
theorem dX0_tipped_136 : decode cX0_tipped 136 = .ok (.iconst 0, 1) := by decide +kernel
theorem dX0_tipped_137 : decode cX0_tipped 137 = .ok (.invokestatic 33, 3) := by decide +kernel
theorem dX0_tipped_140 : decode cX0_tipped 140 = .ok (.ireturn, 1) := by decide +kernel
theorem dX0_after_0 : decode cX0_after 0 = .ok (.iload_n 1, 1) := by decide +kernel
theorem dX0_after_1 : decode cX0_after 1 = .ok (.invokestatic 36, 3) := by decide +kernel
theorem dX0_after_4 : decode cX0_after 4 = .ok (.istore_n 3, 1) := by decide +kernel
theorem dX0_after_5 : decode cX0_after 5 = .ok (.iload_n 1, 1) := by decide +kernel
theorem dX0_after_6 : decode cX0_after 6 = .ok (.invokestatic 39, 3) := by decide +kernel
theorem dX0_after_9 : decode cX0_after 9 = .ok (.istore 4, 2) := by decide +kernel
theorem dX0_after_11 : decode cX0_after 11 = .ok (.aload_n 0, 1) := by decide +kernel
theorem dX0_after_12 : decode cX0_after 12 = .ok (.iload_n 3, 1) := by decide +kernel
theorem dX0_after_13 : decode cX0_after 13 = .ok (.iload_n 2, 1) := by decide +kernel
theorem dX0_after_14 : decode cX0_after 14 = .ok (.invokevirtual 42, 3) := by decide +kernel
theorem dX0_after_17 : decode cX0_after 17 = .ok (.istore 5, 2) := by decide +kernel
theorem dX0_after_19 : decode cX0_after 19 = .ok (.aload_n 0, 1) := by decide +kernel
theorem dX0_after_20 : decode cX0_after 20 = .ok (.getfield 15, 3) := by decide +kernel
theorem dX0_after_23 : decode cX0_after 23 = .ok (.ifCond .eq 36, 3) := by decide +kernel
theorem dX0_after_26 : decode cX0_after 26 = .ok (.iload 4, 2) := by decide +kernel
theorem dX0_after_28 : decode cX0_after 28 = .ok (.aload_n 0, 1) := by decide +kernel
theorem dX0_after_29 : decode cX0_after 29 = .ok (.iload_n 3, 1) := by decide +kernel
theorem dX0_after_30 : decode cX0_after 30 = .ok (.invokevirtual 45, 3) := by decide +kernel
theorem dX0_after_33 : decode cX0_after 33 = .ok (.ixor, 1) := by decide +kernel
theorem dX0_after_34 : decode cX0_after 34 = .ok (.istore 6, 2) := by decide +kernel
theorem dX0_after_36 : decode cX0_after 36 = .ok (.aload_n 0, 1) := by decide +kernel
theorem dX0_after_37 : decode cX0_after 37 = .ok (.iload 5, 2) := by decide +kernel
theorem dX0_after_39 : decode cX0_after 39 = .ok (.iload 6, 2) := by decide +kernel
theorem dX0_after_41 : decode cX0_after 41 = .ok (.invokevirtual 48, 3) := by decide +kernel
theorem dX0_after_44 : decode cX0_after 44 = .ok (.ifCond .eq 13, 3) := by decide +kernel
theorem dX0_after_47 : decode cX0_after 47 = .ok (.iload 5, 2) := by decide +kernel
theorem dX0_after_49 : decode cX0_after 49 = .ok (.iload 6, 2) := by decide +kernel
theorem dX0_after_51 : decode cX0_after 51 = .ok (.invokestatic 51, 3) := by decide +kernel
theorem dX0_after_54 : decode cX0_after 54 = .ok (.goto 4, 3) := by decide +kernel
theorem dX0_after_57 : decode cX0_after 57 = .ok (.iconst (-1), 1) := by decide +kernel
theorem dX0_after_58 : decode cX0_after 58 = .ok (.ireturn, 1) := by decide +kernel
theorem dX0_after_59 : decode cX0_after 59 = .ok (.aload_n 0, 1) := by decide +kernel
theorem dX0_after_60 : decode cX0_after 60 = .ok (.iload 5, 2) := by decide +kernel
theorem dX0_after_62 : decode cX0_after 62 = .ok (.iload 4, 2) := by decide +kernel
theorem dX0_after_64 : decode cX0_after 64 = .ok (.invokevirtual 48, 3) := by decide +kernel
theorem dX0_after_67 : decode cX0_after 67 = .ok (.ifCond .eq 20, 3) := by decide +kernel
theorem dX0_after_70 : decode cX0_after 70 = .ok (.iload 5, 2) := by decide +kernel
theorem dX0_after_72 : decode cX0_after 72 = .ok (.iload 4, 2) := by decide +kernel
theorem dX0_after_74 : decode cX0_after 74 = .ok (.aload_n 0, 1) := by decide +kernel
theorem dX0_after_75 : decode cX0_after 75 = .ok (.iload 5, 2) := by decide +kernel
theorem dX0_after_77 : decode cX0_after 77 = .ok (.invokevirtual 45, 3) := by decide +kernel
theorem dX0_after_80 : decode cX0_after 80 = .ok (.ixor, 1) := by decide +kernel
theorem dX0_after_81 : decode cX0_after 81 = .ok (.invokestatic 51, 3) := by decide +kernel
theorem dX0_after_84 : decode cX0_after 84 = .ok (.goto 4, 3) := by decide +kernel
theorem dX0_after_87 : decode cX0_after 87 = .ok (.iconst (-1), 1) := by decide +kernel
theorem dX0_after_88 : decode cX0_after 88 = .ok (.ireturn, 1) := by decide +kernel
theorem dX1_init_0 : decode cX1_init 0 = .ok (.aload_n 0, 1) := by decide +kernel
theorem dX1_init_1 : decode cX1_init 1 = .ok (.invokespecial 3, 3) := by decide +kernel
theorem dX1_init_4 : decode cX1_init 4 = .ok (.aload_n 0, 1) := by decide +kernel
theorem dX1_init_5 : decode cX1_init 5 = .ok (.aload_n 1, 1) := by decide +kernel
theorem dX1_init_6 : decode cX1_init 6 = .ok (.putfield 9, 3) := by decide +kernel
theorem dX1_init_9 : decode cX1_init 9 = .ok (.aload_n 0, 1) := by decide +kernel
theorem dX1_init_10 : decode cX1_init 10 = .ok (.aload_n 2, 1) := by decide +kernel
theorem dX1_init_11 : decode cX1_init 11 = .ok (.putfield 15, 3) := by decide +kernel
theorem dX1_init_14 : decode cX1_init 14 = .ok (.aload_n 0, 1) := by decide +kernel
theorem dX1_init_15 : decode cX1_init 15 = .ok (.new 19, 3) := by decide +kernel
theorem dX1_init_18 : decode cX1_init 18 = .ok (.dup, 1) := by decide +kernel
theorem dX1_init_19 : decode cX1_init 19 = .ok (.aload_n 1, 1) := by decide +kernel
theorem dX1_init_20 : decode cX1_init 20 = .ok (.iconst 0, 1) := by decide +kernel
theorem dX1_init_21 : decode cX1_init 21 = .ok (.invokespecial 21, 3) := by decide +kernel
theorem dX1_init_24 : decode cX1_init 24 = .ok (.putfield 24, 3) := by decide +kernel
theorem dX1_init_27 : decode cX1_init 27 = .ok (.aload_n 0, 1) := by decide +kernel
theorem dX1_init_28 : decode cX1_init 28 = .ok (.new 19, 3) := by decide +kernel
theorem dX1_init_31 : decode cX1_init 31 = .ok (.dup, 1) := by decide +kernel
theorem dX1_init_32 : decode cX1_init 32 = .ok (.aload_n 1, 1) := by decide +kernel
theorem dX1_init_33 : decode cX1_init 33 = .ok (.iconst 1, 1) := by decide +kernel
theorem dX1_init_34 : decode cX1_init 34 = .ok (.invokespecial 21, 3) := by decide +kernel
theorem dX1_init_37 : decode cX1_init 37 = .ok (.putfield 28, 3) := by decide +kernel
theorem dX1_init_40 : decode cX1_init 40 = .ok (.return_, 1) := by decide +kernel
theorem dX1_isSoundNow_0 : decode cX1_isSoundNow 0 = .ok (.aload_n 0, 1) := by decide +kernel
theorem dX1_isSoundNow_1 : decode cX1_isSoundNow 1 = .ok (.getfield 24, 3) := by decide +kernel
theorem dX1_isSoundNow_4 : decode cX1_isSoundNow 4 = .ok (.iload_n 1, 1) := by decide +kernel
theorem dX1_isSoundNow_5 : decode cX1_isSoundNow 5 = .ok (.aload_n 0, 1) := by decide +kernel
theorem dX1_isSoundNow_6 : decode cX1_isSoundNow 6 = .ok (.getfield 9, 3) := by decide +kernel
theorem dX1_isSoundNow_9 : decode cX1_isSoundNow 9 = .ok (.invokevirtual 31, 3) := by decide +kernel
theorem dX1_isSoundNow_12 : decode cX1_isSoundNow 12 = .ok (.invokevirtual 37, 3) := by decide +kernel
theorem dX1_isSoundNow_15 : decode cX1_isSoundNow 15 = .ok (.ireturn, 1) := by decide +kernel
theorem dX1_soundPlaces_0 : decode cX1_soundPlaces 0 = .ok (.iconst 0, 1) := by decide +kernel
theorem dX1_soundPlaces_1 : decode cX1_soundPlaces 1 = .ok (.istore_n 1, 1) := by decide +kernel
theorem dX1_soundPlaces_2 : decode cX1_soundPlaces 2 = .ok (.iconst 0, 1) := by decide +kernel
theorem dX1_soundPlaces_3 : decode cX1_soundPlaces 3 = .ok (.istore_n 2, 1) := by decide +kernel
theorem dX1_soundPlaces_4 : decode cX1_soundPlaces 4 = .ok (.iload_n 2, 1) := by decide +kernel
theorem dX1_soundPlaces_5 : decode cX1_soundPlaces 5 = .ok (.aload_n 0, 1) := by decide +kernel
theorem dX1_soundPlaces_6 : decode cX1_soundPlaces 6 = .ok (.invokevirtual 41, 3) := by decide +kernel
theorem dX1_soundPlaces_9 : decode cX1_soundPlaces 9 = .ok (.if_icmp .ge 20, 3) := by decide +kernel
theorem dX1_soundPlaces_12 : decode cX1_soundPlaces 12 = .ok (.iload_n 1, 1) := by decide +kernel
theorem dX1_soundPlaces_13 : decode cX1_soundPlaces 13 = .ok (.aload_n 0, 1) := by decide +kernel
theorem dX1_soundPlaces_14 : decode cX1_soundPlaces 14 = .ok (.iload_n 2, 1) := by decide +kernel
theorem dX1_soundPlaces_15 : decode cX1_soundPlaces 15 = .ok (.invokevirtual 44, 3) := by decide +kernel
theorem dX1_soundPlaces_18 : decode cX1_soundPlaces 18 = .ok (.invokestatic 48, 3) := by decide +kernel
theorem dX1_soundPlaces_21 : decode cX1_soundPlaces 21 = .ok (.iadd, 1) := by decide +kernel
theorem dX1_soundPlaces_22 : decode cX1_soundPlaces 22 = .ok (.istore_n 1, 1) := by decide +kernel
theorem dX1_soundPlaces_23 : decode cX1_soundPlaces 23 = .ok (.iinc 2 1, 3) := by decide +kernel
theorem dX1_soundPlaces_26 : decode cX1_soundPlaces 26 = .ok (.goto (-22), 3) := by decide +kernel
theorem dX1_soundPlaces_29 : decode cX1_soundPlaces 29 = .ok (.iload_n 1, 1) := by decide +kernel
theorem dX1_soundPlaces_30 : decode cX1_soundPlaces 30 = .ok (.ireturn, 1) := by decide +kernel
theorem dX1_placeAfter_0 : decode cX1_placeAfter 0 = .ok (.aload_n 0, 1) := by decide +kernel
theorem dX1_placeAfter_1 : decode cX1_placeAfter 1 = .ok (.iload_n 1, 1) := by decide +kernel
theorem dX1_placeAfter_2 : decode cX1_placeAfter 2 = .ok (.invokevirtual 44, 3) := by decide +kernel
theorem dX1_placeAfter_5 : decode cX1_placeAfter 5 = .ok (.ifCond .ne 6, 3) := by decide +kernel
theorem dX1_placeAfter_8 : decode cX1_placeAfter 8 = .ok (.bipush (-9), 2) := by decide +kernel
theorem dX1_placeAfter_10 : decode cX1_placeAfter 10 = .ok (.ireturn, 1) := by decide +kernel
theorem dX1_placeAfter_11 : decode cX1_placeAfter 11 = .ok (.aload_n 0, 1) := by decide +kernel
theorem dX1_placeAfter_12 : decode cX1_placeAfter 12 = .ok (.getfield 24, 3) := by decide +kernel
theorem dX1_placeAfter_15 : decode cX1_placeAfter 15 = .ok (.iload_n 1, 1) := by decide +kernel
theorem dX1_placeAfter_16 : decode cX1_placeAfter 16 = .ok (.aload_n 0, 1) := by decide +kernel
theorem dX1_placeAfter_17 : decode cX1_placeAfter 17 = .ok (.getfield 9, 3) := by decide +kernel
theorem dX1_placeAfter_20 : decode cX1_placeAfter 20 = .ok (.invokevirtual 31, 3) := by decide +kernel
theorem dX1_placeAfter_23 : decode cX1_placeAfter 23 = .ok (.invokestatic 52, 3) := by decide +kernel
theorem dX1_placeAfter_26 : decode cX1_placeAfter 26 = .ok (.iload_n 2, 1) := by decide +kernel
theorem dX1_placeAfter_27 : decode cX1_placeAfter 27 = .ok (.invokevirtual 56, 3) := by decide +kernel
theorem dX1_placeAfter_30 : decode cX1_placeAfter 30 = .ok (.istore_n 3, 1) := by decide +kernel
theorem dX1_placeAfter_31 : decode cX1_placeAfter 31 = .ok (.iload_n 3, 1) := by decide +kernel
theorem dX1_placeAfter_32 : decode cX1_placeAfter 32 = .ok (.iconst (-1), 1) := by decide +kernel
theorem dX1_placeAfter_33 : decode cX1_placeAfter 33 = .ok (.if_icmp .ne 8, 3) := by decide +kernel
theorem dX1_placeAfter_36 : decode cX1_placeAfter 36 = .ok (.bipush (-9), 2) := by decide +kernel
theorem dX1_placeAfter_38 : decode cX1_placeAfter 38 = .ok (.goto 7, 3) := by decide +kernel
theorem dX1_placeAfter_41 : decode cX1_placeAfter 41 = .ok (.iload_n 3, 1) := by decide +kernel
theorem dX1_placeAfter_42 : decode cX1_placeAfter 42 = .ok (.invokestatic 59, 3) := by decide +kernel
theorem dX1_placeAfter_45 : decode cX1_placeAfter 45 = .ok (.ireturn, 1) := by decide +kernel
theorem dX1_length_0 : decode cX1_length 0 = .ok (.aload_n 0, 1) := by decide +kernel
theorem dX1_length_1 : decode cX1_length 1 = .ok (.getfield 15, 3) := by decide +kernel
theorem dX1_length_4 : decode cX1_length 4 = .ok (.aload_n 0, 1) := by decide +kernel
theorem dX1_length_5 : decode cX1_length 5 = .ok (.iload_n 1, 1) := by decide +kernel
theorem dX1_length_6 : decode cX1_length 6 = .ok (.iload_n 2, 1) := by decide +kernel
theorem dX1_length_7 : decode cX1_length 7 = .ok (.invokevirtual 63, 3) := by decide +kernel
theorem dX1_length_10 : decode cX1_length 10 = .ok (.invokevirtual 66, 3) := by decide +kernel
theorem dX1_length_13 : decode cX1_length 13 = .ok (.invokestatic 71, 3) := by decide +kernel
theorem dX1_length_16 : decode cX1_length 16 = .ok (.ireturn, 1) := by decide +kernel
theorem dX1_stepAt_0 : decode cX1_stepAt 0 = .ok (.aload_n 0, 1) := by decide +kernel
theorem dX1_stepAt_1 : decode cX1_stepAt 1 = .ok (.getfield 15, 3) := by decide +kernel
theorem dX1_stepAt_4 : decode cX1_stepAt 4 = .ok (.aload_n 0, 1) := by decide +kernel
theorem dX1_stepAt_5 : decode cX1_stepAt 5 = .ok (.iload_n 1, 1) := by decide +kernel
theorem dX1_stepAt_6 : decode cX1_stepAt 6 = .ok (.iload_n 2, 1) := by decide +kernel
theorem dX1_stepAt_7 : decode cX1_stepAt 7 = .ok (.invokevirtual 63, 3) := by decide +kernel
theorem dX1_stepAt_10 : decode cX1_stepAt 10 = .ok (.iload_n 3, 1) := by decide +kernel
theorem dX1_stepAt_11 : decode cX1_stepAt 11 = .ok (.invokevirtual 74, 3) := by decide +kernel
theorem dX1_stepAt_14 : decode cX1_stepAt 14 = .ok (.ireturn, 1) := by decide +kernel
theorem dX1_groupsAtEnd_0 : decode cX1_groupsAtEnd 0 = .ok (.aload_n 0, 1) := by decide +kernel
theorem dX1_groupsAtEnd_1 : decode cX1_groupsAtEnd 1 = .ok (.iload_n 1, 1) := by decide +kernel
theorem dX1_groupsAtEnd_2 : decode cX1_groupsAtEnd 2 = .ok (.iload_n 2, 1) := by decide +kernel
theorem dX1_groupsAtEnd_3 : decode cX1_groupsAtEnd 3 = .ok (.invokevirtual 63, 3) := by decide +kernel
theorem dX1_groupsAtEnd_6 : decode cX1_groupsAtEnd 6 = .ok (.istore_n 3, 1) := by decide +kernel
theorem dX1_groupsAtEnd_7 : decode cX1_groupsAtEnd 7 = .ok (.iload_n 3, 1) := by decide +kernel
theorem dX1_groupsAtEnd_8 : decode cX1_groupsAtEnd 8 = .ok (.iconst (-1), 1) := by decide +kernel
theorem dX1_groupsAtEnd_9 : decode cX1_groupsAtEnd 9 = .ok (.if_icmp .ne 8, 3) := by decide +kernel
theorem dX1_groupsAtEnd_12 : decode cX1_groupsAtEnd 12 = .ok (.bipush (-9), 2) := by decide +kernel
theorem dX1_groupsAtEnd_14 : decode cX1_groupsAtEnd 14 = .ok (.goto 7, 3) := by decide +kernel
theorem dX1_groupsAtEnd_17 : decode cX1_groupsAtEnd 17 = .ok (.iload_n 3, 1) := by decide +kernel
theorem dX1_groupsAtEnd_18 : decode cX1_groupsAtEnd 18 = .ok (.invokestatic 77, 3) := by decide +kernel
theorem dX1_groupsAtEnd_21 : decode cX1_groupsAtEnd 21 = .ok (.ireturn, 1) := by decide +kernel
theorem dX1_needs_0 : decode cX1_needs 0 = .ok (.aload_n 0, 1) := by decide +kernel
theorem dX1_needs_1 : decode cX1_needs 1 = .ok (.iload_n 1, 1) := by decide +kernel
theorem dX1_needs_2 : decode cX1_needs 2 = .ok (.iload_n 2, 1) := by decide +kernel
theorem dX1_needs_3 : decode cX1_needs 3 = .ok (.invokevirtual 63, 3) := by decide +kernel
theorem dX1_needs_6 : decode cX1_needs 6 = .ok (.iconst (-1), 1) := by decide +kernel
theorem dX1_needs_7 : decode cX1_needs 7 = .ok (.if_icmp .ne 5, 3) := by decide +kernel
theorem dX1_needs_10 : decode cX1_needs 10 = .ok (.iconst 0, 1) := by decide +kernel
theorem dX1_needs_11 : decode cX1_needs 11 = .ok (.ireturn, 1) := by decide +kernel
theorem dX1_needs_12 : decode cX1_needs 12 = .ok (.aload_n 0, 1) := by decide +kernel
theorem dX1_needs_13 : decode cX1_needs 13 = .ok (.getfield 9, 3) := by decide +kernel
theorem dX1_needs_16 : decode cX1_needs 16 = .ok (.iload_n 3, 1) := by decide +kernel
theorem dX1_needs_17 : decode cX1_needs 17 = .ok (.iconst 1, 1) := by decide +kernel
theorem dX1_needs_18 : decode cX1_needs 18 = .ok (.invokevirtual 80, 3) := by decide +kernel
theorem dX1_needs_21 : decode cX1_needs 21 = .ok (.istore 4, 2) := by decide +kernel
theorem dX1_needs_23 : decode cX1_needs 23 = .ok (.aload_n 0, 1) := by decide +kernel
theorem dX1_needs_24 : decode cX1_needs 24 = .ok (.iload_n 1, 1) := by decide +kernel
theorem dX1_needs_25 : decode cX1_needs 25 = .ok (.iload_n 2, 1) := by decide +kernel
theorem dX1_needs_26 : decode cX1_needs 26 = .ok (.invokevirtual 63, 3) := by decide +kernel
theorem dX1_needs_29 : decode cX1_needs 29 = .ok (.iconst (-1), 1) := by decide +kernel
theorem dX1_needs_30 : decode cX1_needs 30 = .ok (.if_icmp .ne 7, 3) := by decide +kernel
theorem dX1_needs_33 : decode cX1_needs 33 = .ok (.iconst 1, 1) := by decide +kernel
theorem dX1_needs_34 : decode cX1_needs 34 = .ok (.goto 4, 3) := by decide +kernel
theorem dX1_needs_37 : decode cX1_needs 37 = .ok (.iconst 0, 1) := by decide +kernel
theorem dX1_needs_38 : decode cX1_needs 38 = .ok (.istore 5, 2) := by decide +kernel
theorem dX1_needs_40 : decode cX1_needs 40 = .ok (.aload_n 0, 1) := by decide +kernel
theorem dX1_needs_41 : decode cX1_needs 41 = .ok (.getfield 9, 3) := by decide +kernel
theorem dX1_needs_44 : decode cX1_needs 44 = .ok (.iload_n 3, 1) := by decide +kernel
theorem dX1_needs_45 : decode cX1_needs 45 = .ok (.iload 4, 2) := by decide +kernel
theorem dX1_needs_47 : decode cX1_needs 47 = .ok (.invokevirtual 80, 3) := by decide +kernel
theorem dX1_needs_50 : decode cX1_needs 50 = .ok (.pop, 1) := by decide +kernel
theorem dX1_needs_51 : decode cX1_needs 51 = .ok (.iload 5, 2) := by decide +kernel
theorem dX1_needs_53 : decode cX1_needs 53 = .ok (.ireturn, 1) := by decide +kernel
theorem dX1_placesWhence_0 : decode cX1_placesWhence 0 = .ok (.aload_n 0, 1) := by decide +kernel
theorem dX1_placesWhence_1 : decode cX1_placesWhence 1 = .ok (.iload_n 1, 1) := by decide +kernel
theorem dX1_placesWhence_2 : decode cX1_placesWhence 2 = .ok (.invokevirtual 83, 3) := by decide +kernel
theorem dX1_placesWhence_5 : decode cX1_placesWhence 5 = .ok (.iconst 0, 1) := by decide +kernel
theorem dX1_placesWhence_6 : decode cX1_placesWhence 6 = .ok (.istore_n 2, 1) := by decide +kernel
theorem dX1_placesWhence_7 : decode cX1_placesWhence 7 = .ok (.iconst 0, 1) := by decide +kernel
theorem dX1_placesWhence_8 : decode cX1_placesWhence 8 = .ok (.istore_n 3, 1) := by decide +kernel
theorem dX1_placesWhence_9 : decode cX1_placesWhence 9 = .ok (.iload_n 3, 1) := by decide +kernel
theorem dX1_placesWhence_10 : decode cX1_placesWhence 10 = .ok (.aload_n 0, 1) := by decide +kernel
theorem dX1_placesWhence_11 : decode cX1_placesWhence 11 = .ok (.invokevirtual 41, 3) := by decide +kernel
theorem dX1_placesWhence_14 : decode cX1_placesWhence 14 = .ok (.if_icmp .ge 29, 3) := by decide +kernel
theorem dX1_placesWhence_17 : decode cX1_placesWhence 17 = .ok (.iload_n 2, 1) := by decide +kernel
theorem dX1_placesWhence_18 : decode cX1_placesWhence 18 = .ok (.aload_n 0, 1) := by decide +kernel
theorem dX1_placesWhence_19 : decode cX1_placesWhence 19 = .ok (.iload_n 3, 1) := by decide +kernel
theorem dX1_placesWhence_20 : decode cX1_placesWhence 20 = .ok (.invokevirtual 87, 3) := by decide +kernel
theorem dX1_placesWhence_23 : decode cX1_placesWhence 23 = .ok (.iconst (-1), 1) := by decide +kernel
theorem dX1_placesWhence_24 : decode cX1_placesWhence 24 = .ok (.if_icmp .eq 7, 3) := by decide +kernel
theorem dX1_placesWhence_27 : decode cX1_placesWhence 27 = .ok (.iconst 1, 1) := by decide +kernel
theorem dX1_placesWhence_28 : decode cX1_placesWhence 28 = .ok (.goto 4, 3) := by decide +kernel
theorem dX1_placesWhence_31 : decode cX1_placesWhence 31 = .ok (.iconst 0, 1) := by decide +kernel
theorem dX1_placesWhence_32 : decode cX1_placesWhence 32 = .ok (.invokestatic 48, 3) := by decide +kernel
theorem dX1_placesWhence_35 : decode cX1_placesWhence 35 = .ok (.iadd, 1) := by decide +kernel
theorem dX1_placesWhence_36 : decode cX1_placesWhence 36 = .ok (.istore_n 2, 1) := by decide +kernel
theorem dX1_placesWhence_37 : decode cX1_placesWhence 37 = .ok (.iinc 3 1, 3) := by decide +kernel
theorem dX1_placesWhence_40 : decode cX1_placesWhence 40 = .ok (.goto (-31), 3) := by decide +kernel
theorem dX1_placesWhence_43 : decode cX1_placesWhence 43 = .ok (.iload_n 2, 1) := by decide +kernel
theorem dX1_placesWhence_44 : decode cX1_placesWhence 44 = .ok (.ireturn, 1) := by decide +kernel
theorem dX1_farthestPlace_0 : decode cX1_farthestPlace 0 = .ok (.aload_n 0, 1) := by decide +kernel
theorem dX1_farthestPlace_1 : decode cX1_farthestPlace 1 = .ok (.iload_n 1, 1) := by decide +kernel
theorem dX1_farthestPlace_2 : decode cX1_farthestPlace 2 = .ok (.invokevirtual 83, 3) := by decide +kernel
theorem dX1_farthestPlace_5 : decode cX1_farthestPlace 5 = .ok (.bipush (-9), 2) := by decide +kernel
theorem dX1_farthestPlace_7 : decode cX1_farthestPlace 7 = .ok (.istore_n 2, 1) := by decide +kernel
theorem dX1_farthestPlace_8 : decode cX1_farthestPlace 8 = .ok (.iconst (-1), 1) := by decide +kernel
theorem dX1_farthestPlace_9 : decode cX1_farthestPlace 9 = .ok (.istore_n 3, 1) := by decide +kernel
theorem dX1_farthestPlace_10 : decode cX1_farthestPlace 10 = .ok (.iconst 0, 1) := by decide +kernel
theorem dX1_farthestPlace_11 : decode cX1_farthestPlace 11 = .ok (.istore 4, 2) := by decide +kernel
theorem dX1_farthestPlace_13 : decode cX1_farthestPlace 13 = .ok (.iload 4, 2) := by decide +kernel
theorem dX1_farthestPlace_15 : decode cX1_farthestPlace 15 = .ok (.aload_n 0, 1) := by decide +kernel
theorem dX1_farthestPlace_16 : decode cX1_farthestPlace 16 = .ok (.invokevirtual 41, 3) := by decide +kernel
theorem dX1_farthestPlace_19 : decode cX1_farthestPlace 19 = .ok (.if_icmp .ge 29, 3) := by decide +kernel
theorem dX1_farthestPlace_22 : decode cX1_farthestPlace 22 = .ok (.aload_n 0, 1) := by decide +kernel
theorem dX1_farthestPlace_23 : decode cX1_farthestPlace 23 = .ok (.iload 4, 2) := by decide +kernel
theorem dX1_farthestPlace_25 : decode cX1_farthestPlace 25 = .ok (.invokevirtual 87, 3) := by decide +kernel
theorem dX1_farthestPlace_28 : decode cX1_farthestPlace 28 = .ok (.iload_n 3, 1) := by decide +kernel
theorem dX1_farthestPlace_29 : decode cX1_farthestPlace 29 = .ok (.if_icmp .le 13, 3) := by decide +kernel
theorem dX1_farthestPlace_32 : decode cX1_farthestPlace 32 = .ok (.iload 4, 2) := by decide +kernel
theorem dX1_farthestPlace_34 : decode cX1_farthestPlace 34 = .ok (.istore_n 2, 1) := by decide +kernel
theorem dX1_farthestPlace_35 : decode cX1_farthestPlace 35 = .ok (.aload_n 0, 1) := by decide +kernel
theorem dX1_farthestPlace_36 : decode cX1_farthestPlace 36 = .ok (.iload 4, 2) := by decide +kernel
theorem dX1_farthestPlace_38 : decode cX1_farthestPlace 38 = .ok (.invokevirtual 87, 3) := by decide +kernel
theorem dX1_farthestPlace_41 : decode cX1_farthestPlace 41 = .ok (.istore_n 3, 1) := by decide +kernel
theorem dX1_farthestPlace_42 : decode cX1_farthestPlace 42 = .ok (.iinc 4 1, 3) := by decide +kernel
theorem dX1_farthestPlace_45 : decode cX1_farthestPlace 45 = .ok (.goto (-32), 3) := by decide +kernel
theorem dX1_farthestPlace_48 : decode cX1_farthestPlace 48 = .ok (.iload_n 2, 1) := by decide +kernel
theorem dX1_farthestPlace_49 : decode cX1_farthestPlace 49 = .ok (.ireturn, 1) := by decide +kernel
theorem dX1_allPlaces_0 : decode cX1_allPlaces 0 = .ok (.iconst 3, 1) := by decide +kernel
theorem dX1_allPlaces_1 : decode cX1_allPlaces 1 = .ok (.aload_n 0, 1) := by decide +kernel
theorem dX1_allPlaces_2 : decode cX1_allPlaces 2 = .ok (.getfield 9, 3) := by decide +kernel
theorem dX1_allPlaces_5 : decode cX1_allPlaces 5 = .ok (.invokevirtual 90, 3) := by decide +kernel
theorem dX1_allPlaces_8 : decode cX1_allPlaces 8 = .ok (.imul, 1) := by decide +kernel
theorem dX1_allPlaces_9 : decode cX1_allPlaces 9 = .ok (.ireturn, 1) := by decide +kernel
theorem dX1_endOf_0 : decode cX1_endOf 0 = .ok (.aload_n 0, 1) := by decide +kernel
theorem dX1_endOf_1 : decode cX1_endOf 1 = .ok (.iload_n 1, 1) := by decide +kernel
theorem dX1_endOf_2 : decode cX1_endOf 2 = .ok (.invokevirtual 44, 3) := by decide +kernel
theorem dX1_endOf_5 : decode cX1_endOf 5 = .ok (.ifCond .ne 5, 3) := by decide +kernel
theorem dX1_endOf_8 : decode cX1_endOf 8 = .ok (.iconst (-1), 1) := by decide +kernel
theorem dX1_endOf_9 : decode cX1_endOf 9 = .ok (.ireturn, 1) := by decide +kernel
theorem dX1_endOf_10 : decode cX1_endOf 10 = .ok (.aload_n 0, 1) := by decide +kernel
theorem dX1_endOf_11 : decode cX1_endOf 11 = .ok (.getfield 15, 3) := by decide +kernel
theorem dX1_endOf_14 : decode cX1_endOf 14 = .ok (.iload_n 1, 1) := by decide +kernel
theorem dX1_endOf_15 : decode cX1_endOf 15 = .ok (.aload_n 0, 1) := by decide +kernel
theorem dX1_endOf_16 : decode cX1_endOf 16 = .ok (.getfield 9, 3) := by decide +kernel
theorem dX1_endOf_19 : decode cX1_endOf 19 = .ok (.invokevirtual 31, 3) := by decide +kernel
theorem dX1_endOf_22 : decode cX1_endOf 22 = .ok (.invokestatic 52, 3) := by decide +kernel
theorem dX1_endOf_25 : decode cX1_endOf 25 = .ok (.invokevirtual 93, 3) := by decide +kernel
theorem dX1_endOf_28 : decode cX1_endOf 28 = .ok (.aload_n 0, 1) := by decide +kernel
theorem dX1_endOf_29 : decode cX1_endOf 29 = .ok (.getfield 15, 3) := by decide +kernel
theorem dX1_endOf_32 : decode cX1_endOf 32 = .ok (.aload_n 0, 1) := by decide +kernel
theorem dX1_endOf_33 : decode cX1_endOf 33 = .ok (.getfield 24, 3) := by decide +kernel
theorem dX1_endOf_36 : decode cX1_endOf 36 = .ok (.invokevirtual 96, 3) := by decide +kernel
theorem dX1_endOf_39 : decode cX1_endOf 39 = .ok (.iconst 0, 1) := by decide +kernel
theorem dX1_endOf_40 : decode cX1_endOf 40 = .ok (.istore_n 3, 1) := by decide +kernel
theorem dX1_endOf_41 : decode cX1_endOf 41 = .ok (.iload_n 3, 1) := by decide +kernel
theorem dX1_endOf_42 : decode cX1_endOf 42 = .ok (.aload_n 0, 1) := by decide +kernel
theorem dX1_endOf_43 : decode cX1_endOf 43 = .ok (.getfield 15, 3) := by decide +kernel
theorem dX1_endOf_46 : decode cX1_endOf 46 = .ok (.invokevirtual 100, 3) := by decide +kernel
theorem dX1_endOf_49 : decode cX1_endOf 49 = .ok (.if_icmp .ge 34, 3) := by decide +kernel
theorem dX1_endOf_52 : decode cX1_endOf 52 = .ok (.aload_n 0, 1) := by decide +kernel
theorem dX1_endOf_53 : decode cX1_endOf 53 = .ok (.getfield 15, 3) := by decide +kernel
theorem dX1_endOf_56 : decode cX1_endOf 56 = .ok (.iload_n 3, 1) := by decide +kernel
theorem dX1_endOf_57 : decode cX1_endOf 57 = .ok (.invokevirtual 103, 3) := by decide +kernel
theorem dX1_endOf_60 : decode cX1_endOf 60 = .ok (.istore 4, 2) := by decide +kernel
theorem dX1_endOf_62 : decode cX1_endOf 62 = .ok (.iload 4, 2) := by decide +kernel
theorem dX1_endOf_64 : decode cX1_endOf 64 = .ok (.invokestatic 59, 3) := by decide +kernel
theorem dX1_endOf_67 : decode cX1_endOf 67 = .ok (.iload_n 2, 1) := by decide +kernel
theorem dX1_endOf_68 : decode cX1_endOf 68 = .ok (.invokestatic 106, 3) := by decide +kernel
theorem dX1_endOf_71 : decode cX1_endOf 71 = .ok (.if_icmp .ne 6, 3) := by decide +kernel
theorem dX1_endOf_74 : decode cX1_endOf 74 = .ok (.iload 4, 2) := by decide +kernel
theorem dX1_endOf_76 : decode cX1_endOf 76 = .ok (.ireturn, 1) := by decide +kernel
theorem dX1_endOf_77 : decode cX1_endOf 77 = .ok (.iinc 3 1, 3) := by decide +kernel
theorem dX1_endOf_80 : decode cX1_endOf 80 = .ok (.goto (-39), 3) := by decide +kernel
theorem dX1_endOf_83 : decode cX1_endOf 83 = .ok (.iconst (-1), 1) := by decide +kernel
theorem dX1_endOf_84 : decode cX1_endOf 84 = .ok (.ireturn, 1) := by decide +kernel
theorem dX1_spreadBack_0 : decode cX1_spreadBack 0 = .ok (.aload_n 0, 1) := by decide +kernel
theorem dX1_spreadBack_1 : decode cX1_spreadBack 1 = .ok (.getfield 15, 3) := by decide +kernel
theorem dX1_spreadBack_4 : decode cX1_spreadBack 4 = .ok (.invokevirtual 109, 3) := by decide +kernel
theorem dX1_spreadBack_7 : decode cX1_spreadBack 7 = .ok (.iconst 0, 1) := by decide +kernel
theorem dX1_spreadBack_8 : decode cX1_spreadBack 8 = .ok (.istore_n 2, 1) := by decide +kernel
theorem dX1_spreadBack_9 : decode cX1_spreadBack 9 = .ok (.iload_n 2, 1) := by decide +kernel
theorem dX1_spreadBack_10 : decode cX1_spreadBack 10 = .ok (.bipush 8, 2) := by decide +kernel
theorem dX1_spreadBack_12 : decode cX1_spreadBack 12 = .ok (.if_icmp .ge 39, 3) := by decide +kernel
theorem dX1_spreadBack_15 : decode cX1_spreadBack 15 = .ok (.aload_n 0, 1) := by decide +kernel
theorem dX1_spreadBack_16 : decode cX1_spreadBack 16 = .ok (.getfield 24, 3) := by decide +kernel
theorem dX1_spreadBack_19 : decode cX1_spreadBack 19 = .ok (.iload_n 1, 1) := by decide +kernel
theorem dX1_spreadBack_20 : decode cX1_spreadBack 20 = .ok (.invokestatic 106, 3) := by decide +kernel
theorem dX1_spreadBack_23 : decode cX1_spreadBack 23 = .ok (.iload_n 2, 1) := by decide +kernel
theorem dX1_spreadBack_24 : decode cX1_spreadBack 24 = .ok (.invokevirtual 37, 3) := by decide +kernel
theorem dX1_spreadBack_27 : decode cX1_spreadBack 27 = .ok (.ifCond .eq 18, 3) := by decide +kernel
theorem dX1_spreadBack_30 : decode cX1_spreadBack 30 = .ok (.aload_n 0, 1) := by decide +kernel
theorem dX1_spreadBack_31 : decode cX1_spreadBack 31 = .ok (.getfield 15, 3) := by decide +kernel
theorem dX1_spreadBack_34 : decode cX1_spreadBack 34 = .ok (.iload_n 1, 1) := by decide +kernel
theorem dX1_spreadBack_35 : decode cX1_spreadBack 35 = .ok (.invokestatic 106, 3) := by decide +kernel
theorem dX1_spreadBack_38 : decode cX1_spreadBack 38 = .ok (.iload_n 2, 1) := by decide +kernel
theorem dX1_spreadBack_39 : decode cX1_spreadBack 39 = .ok (.invokestatic 52, 3) := by decide +kernel
theorem dX1_spreadBack_42 : decode cX1_spreadBack 42 = .ok (.invokevirtual 112, 3) := by decide +kernel
theorem dX1_spreadBack_45 : decode cX1_spreadBack 45 = .ok (.iinc 2 1, 3) := by decide +kernel
theorem dX1_spreadBack_48 : decode cX1_spreadBack 48 = .ok (.goto (-39), 3) := by decide +kernel
theorem dX1_spreadBack_51 : decode cX1_spreadBack 51 = .ok (.aload_n 0, 1) := by decide +kernel
theorem dX1_spreadBack_52 : decode cX1_spreadBack 52 = .ok (.getfield 15, 3) := by decide +kernel
theorem dX1_spreadBack_55 : decode cX1_spreadBack 55 = .ok (.aload_n 0, 1) := by decide +kernel
theorem dX1_spreadBack_56 : decode cX1_spreadBack 56 = .ok (.getfield 28, 3) := by decide +kernel
theorem dX1_spreadBack_59 : decode cX1_spreadBack 59 = .ok (.invokevirtual 96, 3) := by decide +kernel
theorem dX1_spreadBack_62 : decode cX1_spreadBack 62 = .ok (.return_, 1) := by decide +kernel
theorem dX1_distanceHome_0 : decode cX1_distanceHome 0 = .ok (.aload_n 0, 1) := by decide +kernel
theorem dX1_distanceHome_1 : decode cX1_distanceHome 1 = .ok (.getfield 15, 3) := by decide +kernel
theorem dX1_distanceHome_4 : decode cX1_distanceHome 4 = .ok (.iload_n 1, 1) := by decide +kernel
theorem dX1_distanceHome_5 : decode cX1_distanceHome 5 = .ok (.aload_n 0, 1) := by decide +kernel
theorem dX1_distanceHome_6 : decode cX1_distanceHome 6 = .ok (.getfield 9, 3) := by decide +kernel
theorem dX1_distanceHome_9 : decode cX1_distanceHome 9 = .ok (.invokevirtual 31, 3) := by decide +kernel
theorem dX1_distanceHome_12 : decode cX1_distanceHome 12 = .ok (.invokestatic 52, 3) := by decide +kernel
theorem dX1_distanceHome_15 : decode cX1_distanceHome 15 = .ok (.invokevirtual 66, 3) := by decide +kernel
theorem dX1_distanceHome_18 : decode cX1_distanceHome 18 = .ok (.ireturn, 1) := by decide +kernel
theorem dX2_init_0 : decode cX2_init 0 = .ok (.aload_n 0, 1) := by decide +kernel
theorem dX2_init_1 : decode cX2_init 1 = .ok (.invokespecial 3, 3) := by decide +kernel
theorem dX2_init_4 : decode cX2_init 4 = .ok (.aload_n 0, 1) := by decide +kernel
theorem dX2_init_5 : decode cX2_init 5 = .ok (.bipush 25, 2) := by decide +kernel
theorem dX2_init_7 : decode cX2_init 7 = .ok (.newarray .int, 2) := by decide +kernel
theorem dX2_init_9 : decode cX2_init 9 = .ok (.putfield 9, 3) := by decide +kernel
theorem dX2_init_12 : decode cX2_init 12 = .ok (.aload_n 0, 1) := by decide +kernel
theorem dX2_init_13 : decode cX2_init 13 = .ok (.bipush 25, 2) := by decide +kernel
theorem dX2_init_15 : decode cX2_init 15 = .ok (.newarray .int, 2) := by decide +kernel
theorem dX2_init_17 : decode cX2_init 17 = .ok (.putfield 15, 3) := by decide +kernel
theorem dX2_init_20 : decode cX2_init 20 = .ok (.aload_n 0, 1) := by decide +kernel
theorem dX2_init_21 : decode cX2_init 21 = .ok (.bipush 100, 2) := by decide +kernel
theorem dX2_init_23 : decode cX2_init 23 = .ok (.newarray .int, 2) := by decide +kernel
theorem dX2_init_25 : decode cX2_init 25 = .ok (.putfield 18, 3) := by decide +kernel
theorem dX2_init_28 : decode cX2_init 28 = .ok (.aload_n 0, 1) := by decide +kernel
theorem dX2_init_29 : decode cX2_init 29 = .ok (.iconst 4, 1) := by decide +kernel
theorem dX2_init_30 : decode cX2_init 30 = .ok (.iconst 4, 1) := by decide +kernel
theorem dX2_init_31 : decode cX2_init 31 = .ok (.invokevirtual 21, 3) := by decide +kernel
theorem dX2_init_34 : decode cX2_init 34 = .ok (.return_, 1) := by decide +kernel
theorem dX2_lay_0 : decode cX2_lay 0 = .ok (.iload_n 1, 1) := by decide +kernel
theorem dX2_lay_1 : decode cX2_lay 1 = .ok (.invokestatic 25, 3) := by decide +kernel
theorem dX2_lay_4 : decode cX2_lay 4 = .ok (.ifCond .eq 10, 3) := by decide +kernel
theorem dX2_lay_7 : decode cX2_lay 7 = .ok (.iload_n 2, 1) := by decide +kernel
theorem dX2_lay_8 : decode cX2_lay 8 = .ok (.invokestatic 25, 3) := by decide +kernel
theorem dX2_lay_11 : decode cX2_lay 11 = .ok (.ifCond .ne 4, 3) := by decide +kernel
theorem dX2_lay_14 : decode cX2_lay 14 = .ok (.return_, 1) := by decide +kernel
theorem dX2_lay_15 : decode cX2_lay 15 = .ok (.aload_n 0, 1) := by decide +kernel
theorem dX2_lay_16 : decode cX2_lay 16 = .ok (.iload_n 1, 1) := by decide +kernel
theorem dX2_lay_17 : decode cX2_lay 17 = .ok (.iload_n 2, 1) := by decide +kernel
theorem dX2_lay_18 : decode cX2_lay 18 = .ok (.imul, 1) := by decide +kernel
theorem dX2_lay_19 : decode cX2_lay 19 = .ok (.putfield 29, 3) := by decide +kernel
theorem dX2_lay_22 : decode cX2_lay 22 = .ok (.aload_n 0, 1) := by decide +kernel
theorem dX2_lay_23 : decode cX2_lay 23 = .ok (.iconst 0, 1) := by decide +kernel
theorem dX2_lay_24 : decode cX2_lay 24 = .ok (.putfield 33, 3) := by decide +kernel
theorem dX2_lay_27 : decode cX2_lay 27 = .ok (.aload_n 0, 1) := by decide +kernel
theorem dX2_lay_28 : decode cX2_lay 28 = .ok (.getfield 9, 3) := by decide +kernel
theorem dX2_lay_31 : decode cX2_lay 31 = .ok (.iconst 0, 1) := by decide +kernel
theorem dX2_lay_32 : decode cX2_lay 32 = .ok (.invokestatic 36, 3) := by decide +kernel
theorem dX2_lay_35 : decode cX2_lay 35 = .ok (.aload_n 0, 1) := by decide +kernel
theorem dX2_lay_36 : decode cX2_lay 36 = .ok (.getfield 15, 3) := by decide +kernel
theorem dX2_lay_39 : decode cX2_lay 39 = .ok (.iconst 0, 1) := by decide +kernel
theorem dX2_lay_40 : decode cX2_lay 40 = .ok (.invokestatic 36, 3) := by decide +kernel
theorem dX2_lay_43 : decode cX2_lay 43 = .ok (.iconst 0, 1) := by decide +kernel
theorem dX2_lay_44 : decode cX2_lay 44 = .ok (.istore_n 3, 1) := by decide +kernel
theorem dX2_lay_45 : decode cX2_lay 45 = .ok (.iload_n 3, 1) := by decide +kernel
theorem dX2_lay_46 : decode cX2_lay 46 = .ok (.iload_n 2, 1) := by decide +kernel
theorem dX2_lay_47 : decode cX2_lay 47 = .ok (.if_icmp .ge 130, 3) := by decide +kernel
theorem dX2_lay_50 : decode cX2_lay 50 = .ok (.iconst 0, 1) := by decide +kernel
theorem dX2_lay_51 : decode cX2_lay 51 = .ok (.istore 4, 2) := by decide +kernel
theorem dX2_lay_53 : decode cX2_lay 53 = .ok (.iload 4, 2) := by decide +kernel
theorem dX2_lay_55 : decode cX2_lay 55 = .ok (.iload_n 1, 1) := by decide +kernel
theorem dX2_lay_56 : decode cX2_lay 56 = .ok (.if_icmp .ge 115, 3) := by decide +kernel
theorem dX2_lay_59 : decode cX2_lay 59 = .ok (.iload_n 3, 1) := by decide +kernel
theorem dX2_lay_60 : decode cX2_lay 60 = .ok (.iload_n 1, 1) := by decide +kernel
theorem dX2_lay_61 : decode cX2_lay 61 = .ok (.imul, 1) := by decide +kernel
theorem dX2_lay_62 : decode cX2_lay 62 = .ok (.iload 4, 2) := by decide +kernel
theorem dX2_lay_64 : decode cX2_lay 64 = .ok (.iadd, 1) := by decide +kernel
theorem dX2_lay_65 : decode cX2_lay 65 = .ok (.istore 5, 2) := by decide +kernel
theorem dX2_lay_67 : decode cX2_lay 67 = .ok (.aload_n 0, 1) := by decide +kernel
theorem dX2_lay_68 : decode cX2_lay 68 = .ok (.getfield 18, 3) := by decide +kernel
theorem dX2_lay_71 : decode cX2_lay 71 = .ok (.iload 5, 2) := by decide +kernel
theorem dX2_lay_73 : decode cX2_lay 73 = .ok (.iconst 4, 1) := by decide +kernel
theorem dX2_lay_74 : decode cX2_lay 74 = .ok (.imul, 1) := by decide +kernel
theorem dX2_lay_75 : decode cX2_lay 75 = .ok (.iload 4, 2) := by decide +kernel
theorem dX2_lay_77 : decode cX2_lay 77 = .ok (.iconst 1, 1) := by decide +kernel
theorem dX2_lay_78 : decode cX2_lay 78 = .ok (.iadd, 1) := by decide +kernel
theorem dX2_lay_79 : decode cX2_lay 79 = .ok (.iload_n 1, 1) := by decide +kernel
theorem dX2_lay_80 : decode cX2_lay 80 = .ok (.if_icmp .ge 10, 3) := by decide +kernel
theorem dX2_lay_83 : decode cX2_lay 83 = .ok (.iload 5, 2) := by decide +kernel
theorem dX2_lay_85 : decode cX2_lay 85 = .ok (.iconst 1, 1) := by decide +kernel
theorem dX2_lay_86 : decode cX2_lay 86 = .ok (.iadd, 1) := by decide +kernel
theorem dX2_lay_87 : decode cX2_lay 87 = .ok (.goto 4, 3) := by decide +kernel
theorem dX2_lay_90 : decode cX2_lay 90 = .ok (.iconst (-1), 1) := by decide +kernel
theorem dX2_lay_91 : decode cX2_lay 91 = .ok (.iastore, 1) := by decide +kernel
theorem dX2_lay_92 : decode cX2_lay 92 = .ok (.aload_n 0, 1) := by decide +kernel
theorem dX2_lay_93 : decode cX2_lay 93 = .ok (.getfield 18, 3) := by decide +kernel
theorem dX2_lay_96 : decode cX2_lay 96 = .ok (.iload 5, 2) := by decide +kernel
theorem dX2_lay_98 : decode cX2_lay 98 = .ok (.iconst 4, 1) := by decide +kernel
theorem dX2_lay_99 : decode cX2_lay 99 = .ok (.imul, 1) := by decide +kernel
theorem dX2_lay_100 : decode cX2_lay 100 = .ok (.iconst 1, 1) := by decide +kernel
theorem dX2_lay_101 : decode cX2_lay 101 = .ok (.iadd, 1) := by decide +kernel
theorem dX2_lay_102 : decode cX2_lay 102 = .ok (.iload_n 3, 1) := by decide +kernel
theorem dX2_lay_103 : decode cX2_lay 103 = .ok (.iconst 1, 1) := by decide +kernel
theorem dX2_lay_104 : decode cX2_lay 104 = .ok (.iadd, 1) := by decide +kernel
theorem dX2_lay_105 : decode cX2_lay 105 = .ok (.iload_n 2, 1) := by decide +kernel
theorem dX2_lay_106 : decode cX2_lay 106 = .ok (.if_icmp .ge 10, 3) := by decide +kernel
theorem dX2_lay_109 : decode cX2_lay 109 = .ok (.iload 5, 2) := by decide +kernel
theorem dX2_lay_111 : decode cX2_lay 111 = .ok (.iload_n 1, 1) := by decide +kernel
theorem dX2_lay_112 : decode cX2_lay 112 = .ok (.iadd, 1) := by decide +kernel
theorem dX2_lay_113 : decode cX2_lay 113 = .ok (.goto 4, 3) := by decide +kernel
theorem dX2_lay_116 : decode cX2_lay 116 = .ok (.iconst (-1), 1) := by decide +kernel
theorem dX2_lay_117 : decode cX2_lay 117 = .ok (.iastore, 1) := by decide +kernel
theorem dX2_lay_118 : decode cX2_lay 118 = .ok (.aload_n 0, 1) := by decide +kernel
theorem dX2_lay_119 : decode cX2_lay 119 = .ok (.getfield 18, 3) := by decide +kernel
theorem dX2_lay_122 : decode cX2_lay 122 = .ok (.iload 5, 2) := by decide +kernel
theorem dX2_lay_124 : decode cX2_lay 124 = .ok (.iconst 4, 1) := by decide +kernel
theorem dX2_lay_125 : decode cX2_lay 125 = .ok (.imul, 1) := by decide +kernel
theorem dX2_lay_126 : decode cX2_lay 126 = .ok (.iconst 2, 1) := by decide +kernel
theorem dX2_lay_127 : decode cX2_lay 127 = .ok (.iadd, 1) := by decide +kernel
theorem dX2_lay_128 : decode cX2_lay 128 = .ok (.iload 4, 2) := by decide +kernel
theorem dX2_lay_130 : decode cX2_lay 130 = .ok (.ifCond .le 10, 3) := by decide +kernel
theorem dX2_lay_133 : decode cX2_lay 133 = .ok (.iload 5, 2) := by decide +kernel
theorem dX2_lay_135 : decode cX2_lay 135 = .ok (.iconst 1, 1) := by decide +kernel
theorem dX2_lay_136 : decode cX2_lay 136 = .ok (.isub, 1) := by decide +kernel
theorem dX2_lay_137 : decode cX2_lay 137 = .ok (.goto 4, 3) := by decide +kernel
theorem dX2_lay_140 : decode cX2_lay 140 = .ok (.iconst (-1), 1) := by decide +kernel
theorem dX2_lay_141 : decode cX2_lay 141 = .ok (.iastore, 1) := by decide +kernel
theorem dX2_lay_142 : decode cX2_lay 142 = .ok (.aload_n 0, 1) := by decide +kernel
theorem dX2_lay_143 : decode cX2_lay 143 = .ok (.getfield 18, 3) := by decide +kernel
theorem dX2_lay_146 : decode cX2_lay 146 = .ok (.iload 5, 2) := by decide +kernel
theorem dX2_lay_148 : decode cX2_lay 148 = .ok (.iconst 4, 1) := by decide +kernel
theorem dX2_lay_149 : decode cX2_lay 149 = .ok (.imul, 1) := by decide +kernel
theorem dX2_lay_150 : decode cX2_lay 150 = .ok (.iconst 3, 1) := by decide +kernel
theorem dX2_lay_151 : decode cX2_lay 151 = .ok (.iadd, 1) := by decide +kernel
theorem dX2_lay_152 : decode cX2_lay 152 = .ok (.iload_n 3, 1) := by decide +kernel
theorem dX2_lay_153 : decode cX2_lay 153 = .ok (.ifCond .le 10, 3) := by decide +kernel
theorem dX2_lay_156 : decode cX2_lay 156 = .ok (.iload 5, 2) := by decide +kernel
theorem dX2_lay_158 : decode cX2_lay 158 = .ok (.iload_n 1, 1) := by decide +kernel
theorem dX2_lay_159 : decode cX2_lay 159 = .ok (.isub, 1) := by decide +kernel
theorem dX2_lay_160 : decode cX2_lay 160 = .ok (.goto 4, 3) := by decide +kernel
theorem dX2_lay_163 : decode cX2_lay 163 = .ok (.iconst (-1), 1) := by decide +kernel
theorem dX2_lay_164 : decode cX2_lay 164 = .ok (.iastore, 1) := by decide +kernel
theorem dX2_lay_165 : decode cX2_lay 165 = .ok (.iinc 4 1, 3) := by decide +kernel
theorem dX2_lay_168 : decode cX2_lay 168 = .ok (.goto (-115), 3) := by decide +kernel
theorem dX2_lay_171 : decode cX2_lay 171 = .ok (.iinc 3 1, 3) := by decide +kernel
theorem dX2_lay_174 : decode cX2_lay 174 = .ok (.goto (-129), 3) := by decide +kernel
theorem dX2_lay_177 : decode cX2_lay 177 = .ok (.return_, 1) := by decide +kernel
theorem dX2_size_0 : decode cX2_size 0 = .ok (.aload_n 0, 1) := by decide +kernel
theorem dX2_size_1 : decode cX2_size 1 = .ok (.getfield 29, 3) := by decide +kernel
theorem dX2_size_4 : decode cX2_size 4 = .ok (.ireturn, 1) := by decide +kernel
theorem dX2_has_0 : decode cX2_has 0 = .ok (.iload_n 1, 1) := by decide +kernel
theorem dX2_has_1 : decode cX2_has 1 = .ok (.ifCond .lt 15, 3) := by decide +kernel
theorem dX2_has_4 : decode cX2_has 4 = .ok (.iload_n 1, 1) := by decide +kernel
theorem dX2_has_5 : decode cX2_has 5 = .ok (.aload_n 0, 1) := by decide +kernel
theorem dX2_has_6 : decode cX2_has 6 = .ok (.getfield 29, 3) := by decide +kernel
theorem dX2_has_9 : decode cX2_has 9 = .ok (.if_icmp .ge 7, 3) := by decide +kernel
theorem dX2_has_12 : decode cX2_has 12 = .ok (.iconst 1, 1) := by decide +kernel
theorem dX2_has_13 : decode cX2_has 13 = .ok (.goto 4, 3) := by decide +kernel
theorem dX2_has_16 : decode cX2_has 16 = .ok (.iconst 0, 1) := by decide +kernel
theorem dX2_has_17 : decode cX2_has 17 = .ok (.ireturn, 1) := by decide +kernel
theorem dX2_beside_0 : decode cX2_beside 0 = .ok (.iload_n 1, 1) := by decide +kernel
theorem dX2_beside_1 : decode cX2_beside 1 = .ok (.ifCond .lt 24, 3) := by decide +kernel
theorem dX2_beside_4 : decode cX2_beside 4 = .ok (.iload_n 1, 1) := by decide +kernel
theorem dX2_beside_5 : decode cX2_beside 5 = .ok (.aload_n 0, 1) := by decide +kernel
theorem dX2_beside_6 : decode cX2_beside 6 = .ok (.getfield 29, 3) := by decide +kernel
theorem dX2_beside_9 : decode cX2_beside 9 = .ok (.if_icmp .ge 16, 3) := by decide +kernel
theorem dX2_beside_12 : decode cX2_beside 12 = .ok (.iload_n 2, 1) := by decide +kernel
theorem dX2_beside_13 : decode cX2_beside 13 = .ok (.ifCond .lt 12, 3) := by decide +kernel
theorem dX2_beside_16 : decode cX2_beside 16 = .ok (.iload_n 2, 1) := by decide +kernel
theorem dX2_beside_17 : decode cX2_beside 17 = .ok (.iconst 4, 1) := by decide +kernel
theorem dX2_beside_18 : decode cX2_beside 18 = .ok (.if_icmp .ge 7, 3) := by decide +kernel
theorem dX2_beside_21 : decode cX2_beside 21 = .ok (.iconst 1, 1) := by decide +kernel
theorem dX2_beside_22 : decode cX2_beside 22 = .ok (.goto 4, 3) := by decide +kernel
theorem dX2_beside_25 : decode cX2_beside 25 = .ok (.iconst 0, 1) := by decide +kernel
theorem dX2_beside_26 : decode cX2_beside 26 = .ok (.istore_n 3, 1) := by decide +kernel
theorem dX2_beside_27 : decode cX2_beside 27 = .ok (.iload_n 3, 1) := by decide +kernel
theorem dX2_beside_28 : decode cX2_beside 28 = .ok (.ifCond .eq 16, 3) := by decide +kernel
theorem dX2_beside_31 : decode cX2_beside 31 = .ok (.aload_n 0, 1) := by decide +kernel
theorem dX2_beside_32 : decode cX2_beside 32 = .ok (.getfield 18, 3) := by decide +kernel
theorem dX2_beside_35 : decode cX2_beside 35 = .ok (.iload_n 1, 1) := by decide +kernel
theorem dX2_beside_36 : decode cX2_beside 36 = .ok (.iconst 4, 1) := by decide +kernel
theorem dX2_beside_37 : decode cX2_beside 37 = .ok (.imul, 1) := by decide +kernel
theorem dX2_beside_38 : decode cX2_beside 38 = .ok (.iload_n 2, 1) := by decide +kernel
theorem dX2_beside_39 : decode cX2_beside 39 = .ok (.iadd, 1) := by decide +kernel
theorem dX2_beside_40 : decode cX2_beside 40 = .ok (.iaload, 1) := by decide +kernel
theorem dX2_beside_41 : decode cX2_beside 41 = .ok (.goto 4, 3) := by decide +kernel
theorem dX2_beside_44 : decode cX2_beside 44 = .ok (.iconst (-1), 1) := by decide +kernel
theorem dX2_beside_45 : decode cX2_beside 45 = .ok (.ireturn, 1) := by decide +kernel
theorem dX2_kindOf_0 : decode cX2_kindOf 0 = .ok (.iload_n 1, 1) := by decide +kernel
theorem dX2_kindOf_1 : decode cX2_kindOf 1 = .ok (.ifCond .lt 20, 3) := by decide +kernel
theorem dX2_kindOf_4 : decode cX2_kindOf 4 = .ok (.iload_n 1, 1) := by decide +kernel
theorem dX2_kindOf_5 : decode cX2_kindOf 5 = .ok (.aload_n 0, 1) := by decide +kernel
theorem dX2_kindOf_6 : decode cX2_kindOf 6 = .ok (.getfield 29, 3) := by decide +kernel
theorem dX2_kindOf_9 : decode cX2_kindOf 9 = .ok (.if_icmp .ge 12, 3) := by decide +kernel
theorem dX2_kindOf_12 : decode cX2_kindOf 12 = .ok (.aload_n 0, 1) := by decide +kernel
theorem dX2_kindOf_13 : decode cX2_kindOf 13 = .ok (.getfield 9, 3) := by decide +kernel
theorem dX2_kindOf_16 : decode cX2_kindOf 16 = .ok (.iload_n 1, 1) := by decide +kernel
theorem dX2_kindOf_17 : decode cX2_kindOf 17 = .ok (.iaload, 1) := by decide +kernel
theorem dX2_kindOf_18 : decode cX2_kindOf 18 = .ok (.goto 4, 3) := by decide +kernel
theorem dX2_kindOf_21 : decode cX2_kindOf 21 = .ok (.iconst 1, 1) := by decide +kernel
theorem dX2_kindOf_22 : decode cX2_kindOf 22 = .ok (.ireturn, 1) := by decide +kernel
theorem dX2_changeKind_0 : decode cX2_changeKind 0 = .ok (.aload_n 0, 1) := by decide +kernel
theorem dX2_changeKind_1 : decode cX2_changeKind 1 = .ok (.iload_n 1, 1) := by decide +kernel
theorem dX2_changeKind_2 : decode cX2_changeKind 2 = .ok (.invokevirtual 42, 3) := by decide +kernel
theorem dX2_changeKind_5 : decode cX2_changeKind 5 = .ok (.istore_n 3, 1) := by decide +kernel
theorem dX2_changeKind_6 : decode cX2_changeKind 6 = .ok (.aload_n 0, 1) := by decide +kernel
theorem dX2_changeKind_7 : decode cX2_changeKind 7 = .ok (.iload_n 1, 1) := by decide +kernel
theorem dX2_changeKind_8 : decode cX2_changeKind 8 = .ok (.invokevirtual 46, 3) := by decide +kernel
theorem dX2_changeKind_11 : decode cX2_changeKind 11 = .ok (.ifCond .eq 10, 3) := by decide +kernel
theorem dX2_changeKind_14 : decode cX2_changeKind 14 = .ok (.aload_n 0, 1) := by decide +kernel
theorem dX2_changeKind_15 : decode cX2_changeKind 15 = .ok (.getfield 9, 3) := by decide +kernel
theorem dX2_changeKind_18 : decode cX2_changeKind 18 = .ok (.iload_n 1, 1) := by decide +kernel
theorem dX2_changeKind_19 : decode cX2_changeKind 19 = .ok (.iload_n 2, 1) := by decide +kernel
theorem dX2_changeKind_20 : decode cX2_changeKind 20 = .ok (.iastore, 1) := by decide +kernel
theorem dX2_changeKind_21 : decode cX2_changeKind 21 = .ok (.iload_n 3, 1) := by decide +kernel
theorem dX2_changeKind_22 : decode cX2_changeKind 22 = .ok (.ireturn, 1) := by decide +kernel
theorem dX2_markOf_0 : decode cX2_markOf 0 = .ok (.iload_n 1, 1) := by decide +kernel
theorem dX2_markOf_1 : decode cX2_markOf 1 = .ok (.ifCond .lt 20, 3) := by decide +kernel
theorem dX2_markOf_4 : decode cX2_markOf 4 = .ok (.iload_n 1, 1) := by decide +kernel
theorem dX2_markOf_5 : decode cX2_markOf 5 = .ok (.aload_n 0, 1) := by decide +kernel
theorem dX2_markOf_6 : decode cX2_markOf 6 = .ok (.getfield 29, 3) := by decide +kernel
theorem dX2_markOf_9 : decode cX2_markOf 9 = .ok (.if_icmp .ge 12, 3) := by decide +kernel
theorem dX2_markOf_12 : decode cX2_markOf 12 = .ok (.aload_n 0, 1) := by decide +kernel
theorem dX2_markOf_13 : decode cX2_markOf 13 = .ok (.getfield 15, 3) := by decide +kernel
theorem dX2_markOf_16 : decode cX2_markOf 16 = .ok (.iload_n 1, 1) := by decide +kernel
theorem dX2_markOf_17 : decode cX2_markOf 17 = .ok (.iaload, 1) := by decide +kernel
theorem dX2_markOf_18 : decode cX2_markOf 18 = .ok (.goto 4, 3) := by decide +kernel
theorem dX2_markOf_21 : decode cX2_markOf 21 = .ok (.iconst 0, 1) := by decide +kernel
theorem dX2_markOf_22 : decode cX2_markOf 22 = .ok (.ireturn, 1) := by decide +kernel
theorem dX2_changeMark_0 : decode cX2_changeMark 0 = .ok (.aload_n 0, 1) := by decide +kernel
theorem dX2_changeMark_1 : decode cX2_changeMark 1 = .ok (.iload_n 1, 1) := by decide +kernel
theorem dX2_changeMark_2 : decode cX2_changeMark 2 = .ok (.invokevirtual 49, 3) := by decide +kernel
theorem dX2_changeMark_5 : decode cX2_changeMark 5 = .ok (.istore_n 3, 1) := by decide +kernel
theorem dX2_changeMark_6 : decode cX2_changeMark 6 = .ok (.aload_n 0, 1) := by decide +kernel
theorem dX2_changeMark_7 : decode cX2_changeMark 7 = .ok (.iload_n 1, 1) := by decide +kernel
theorem dX2_changeMark_8 : decode cX2_changeMark 8 = .ok (.invokevirtual 46, 3) := by decide +kernel
theorem dX2_changeMark_11 : decode cX2_changeMark 11 = .ok (.ifCond .eq 10, 3) := by decide +kernel
theorem dX2_changeMark_14 : decode cX2_changeMark 14 = .ok (.aload_n 0, 1) := by decide +kernel
theorem dX2_changeMark_15 : decode cX2_changeMark 15 = .ok (.getfield 15, 3) := by decide +kernel
theorem dX2_changeMark_18 : decode cX2_changeMark 18 = .ok (.iload_n 1, 1) := by decide +kernel
theorem dX2_changeMark_19 : decode cX2_changeMark 19 = .ok (.iload_n 2, 1) := by decide +kernel
theorem dX2_changeMark_20 : decode cX2_changeMark 20 = .ok (.iastore, 1) := by decide +kernel
theorem dX2_changeMark_21 : decode cX2_changeMark 21 = .ok (.iload_n 3, 1) := by decide +kernel
theorem dX2_changeMark_22 : decode cX2_changeMark 22 = .ok (.ireturn, 1) := by decide +kernel
theorem dX2_groupsOn_0 : decode cX2_groupsOn 0 = .ok (.aload_n 0, 1) := by decide +kernel
theorem dX2_groupsOn_1 : decode cX2_groupsOn 1 = .ok (.getfield 33, 3) := by decide +kernel
theorem dX2_groupsOn_4 : decode cX2_groupsOn 4 = .ok (.ireturn, 1) := by decide +kernel
theorem dX2_changeGroup_0 : decode cX2_changeGroup 0 = .ok (.aload_n 0, 1) := by decide +kernel
theorem dX2_changeGroup_1 : decode cX2_changeGroup 1 = .ok (.getfield 33, 3) := by decide +kernel
theorem dX2_changeGroup_4 : decode cX2_changeGroup 4 = .ok (.iload_n 1, 1) := by decide +kernel
theorem dX2_changeGroup_5 : decode cX2_changeGroup 5 = .ok (.ishr, 1) := by decide +kernel
theorem dX2_changeGroup_6 : decode cX2_changeGroup 6 = .ok (.iconst 1, 1) := by decide +kernel
theorem dX2_changeGroup_7 : decode cX2_changeGroup 7 = .ok (.iand, 1) := by decide +kernel
theorem dX2_changeGroup_8 : decode cX2_changeGroup 8 = .ok (.istore_n 3, 1) := by decide +kernel
theorem dX2_changeGroup_9 : decode cX2_changeGroup 9 = .ok (.aload_n 0, 1) := by decide +kernel
theorem dX2_changeGroup_10 : decode cX2_changeGroup 10 = .ok (.iload_n 2, 1) := by decide +kernel
theorem dX2_changeGroup_11 : decode cX2_changeGroup 11 = .ok (.ifCond .eq 14, 3) := by decide +kernel
theorem dX2_changeGroup_14 : decode cX2_changeGroup 14 = .ok (.aload_n 0, 1) := by decide +kernel
theorem dX2_changeGroup_15 : decode cX2_changeGroup 15 = .ok (.getfield 33, 3) := by decide +kernel
theorem dX2_changeGroup_18 : decode cX2_changeGroup 18 = .ok (.iconst 1, 1) := by decide +kernel
theorem dX2_changeGroup_19 : decode cX2_changeGroup 19 = .ok (.iload_n 1, 1) := by decide +kernel
theorem dX2_changeGroup_20 : decode cX2_changeGroup 20 = .ok (.ishl, 1) := by decide +kernel
theorem dX2_changeGroup_21 : decode cX2_changeGroup 21 = .ok (.ior, 1) := by decide +kernel
theorem dX2_changeGroup_22 : decode cX2_changeGroup 22 = .ok (.goto 13, 3) := by decide +kernel
theorem dX2_changeGroup_25 : decode cX2_changeGroup 25 = .ok (.aload_n 0, 1) := by decide +kernel
theorem dX2_changeGroup_26 : decode cX2_changeGroup 26 = .ok (.getfield 33, 3) := by decide +kernel
theorem dX2_changeGroup_29 : decode cX2_changeGroup 29 = .ok (.iconst 1, 1) := by decide +kernel
theorem dX2_changeGroup_30 : decode cX2_changeGroup 30 = .ok (.iload_n 1, 1) := by decide +kernel
theorem dX2_changeGroup_31 : decode cX2_changeGroup 31 = .ok (.ishl, 1) := by decide +kernel
theorem dX2_changeGroup_32 : decode cX2_changeGroup 32 = .ok (.iconst (-1), 1) := by decide +kernel
theorem dX2_changeGroup_33 : decode cX2_changeGroup 33 = .ok (.ixor, 1) := by decide +kernel
theorem dX2_changeGroup_34 : decode cX2_changeGroup 34 = .ok (.iand, 1) := by decide +kernel
theorem dX2_changeGroup_35 : decode cX2_changeGroup 35 = .ok (.putfield 33, 3) := by decide +kernel
theorem dX2_changeGroup_38 : decode cX2_changeGroup 38 = .ok (.iload_n 3, 1) := by decide +kernel
theorem dX2_changeGroup_39 : decode cX2_changeGroup 39 = .ok (.ireturn, 1) := by decide +kernel
theorem dX2_isOpen_0 : decode cX2_isOpen 0 = .ok (.iload_n 1, 1) := by decide +kernel
theorem dX2_isOpen_1 : decode cX2_isOpen 1 = .ok (.ifCond .lt 21, 3) := by decide +kernel
theorem dX2_isOpen_4 : decode cX2_isOpen 4 = .ok (.iload_n 1, 1) := by decide +kernel
theorem dX2_isOpen_5 : decode cX2_isOpen 5 = .ok (.aload_n 0, 1) := by decide +kernel
theorem dX2_isOpen_6 : decode cX2_isOpen 6 = .ok (.getfield 29, 3) := by decide +kernel
theorem dX2_isOpen_9 : decode cX2_isOpen 9 = .ok (.if_icmp .ge 13, 3) := by decide +kernel
theorem dX2_isOpen_12 : decode cX2_isOpen 12 = .ok (.aload_n 0, 1) := by decide +kernel
theorem dX2_isOpen_13 : decode cX2_isOpen 13 = .ok (.getfield 9, 3) := by decide +kernel
theorem dX2_isOpen_16 : decode cX2_isOpen 16 = .ok (.iload_n 1, 1) := by decide +kernel
theorem dX2_isOpen_17 : decode cX2_isOpen 17 = .ok (.iaload, 1) := by decide +kernel
theorem dX2_isOpen_18 : decode cX2_isOpen 18 = .ok (.iconst 1, 1) := by decide +kernel
theorem dX2_isOpen_19 : decode cX2_isOpen 19 = .ok (.if_icmp .ne 5, 3) := by decide +kernel
theorem dX2_isOpen_22 : decode cX2_isOpen 22 = .ok (.iconst 0, 1) := by decide +kernel
theorem dX2_isOpen_23 : decode cX2_isOpen 23 = .ok (.ireturn, 1) := by decide +kernel
theorem dX2_isOpen_24 : decode cX2_isOpen 24 = .ok (.aload_n 0, 1) := by decide +kernel
theorem dX2_isOpen_25 : decode cX2_isOpen 25 = .ok (.getfield 9, 3) := by decide +kernel
theorem dX2_isOpen_28 : decode cX2_isOpen 28 = .ok (.iload_n 1, 1) := by decide +kernel
theorem dX2_isOpen_29 : decode cX2_isOpen 29 = .ok (.iaload, 1) := by decide +kernel
theorem dX2_isOpen_30 : decode cX2_isOpen 30 = .ok (.bipush 6, 2) := by decide +kernel
theorem dX2_isOpen_32 : decode cX2_isOpen 32 = .ok (.isub, 1) := by decide +kernel
theorem dX2_isOpen_33 : decode cX2_isOpen 33 = .ok (.istore_n 3, 1) := by decide +kernel
theorem dX2_isOpen_34 : decode cX2_isOpen 34 = .ok (.iload_n 3, 1) := by decide +kernel
theorem dX2_isOpen_35 : decode cX2_isOpen 35 = .ok (.ifCond .lt 12, 3) := by decide +kernel
theorem dX2_isOpen_38 : decode cX2_isOpen 38 = .ok (.iload_n 2, 1) := by decide +kernel
theorem dX2_isOpen_39 : decode cX2_isOpen 39 = .ok (.iload_n 3, 1) := by decide +kernel
theorem dX2_isOpen_40 : decode cX2_isOpen 40 = .ok (.ishr, 1) := by decide +kernel
theorem dX2_isOpen_41 : decode cX2_isOpen 41 = .ok (.iconst 1, 1) := by decide +kernel
theorem dX2_isOpen_42 : decode cX2_isOpen 42 = .ok (.iand, 1) := by decide +kernel
theorem dX2_isOpen_43 : decode cX2_isOpen 43 = .ok (.iconst 1, 1) := by decide +kernel
theorem dX2_isOpen_44 : decode cX2_isOpen 44 = .ok (.if_icmp .ne 7, 3) := by decide +kernel
theorem dX2_isOpen_47 : decode cX2_isOpen 47 = .ok (.iconst 1, 1) := by decide +kernel
theorem dX2_isOpen_48 : decode cX2_isOpen 48 = .ok (.goto 4, 3) := by decide +kernel
theorem dX2_isOpen_51 : decode cX2_isOpen 51 = .ok (.iconst 0, 1) := by decide +kernel
theorem dX2_isOpen_52 : decode cX2_isOpen 52 = .ok (.ireturn, 1) := by decide +kernel
theorem dX2_openCells_0 : decode cX2_openCells 0 = .ok (.iconst 0, 1) := by decide +kernel
theorem dX2_openCells_1 : decode cX2_openCells 1 = .ok (.istore_n 1, 1) := by decide +kernel
theorem dX2_openCells_2 : decode cX2_openCells 2 = .ok (.iconst 0, 1) := by decide +kernel
theorem dX2_openCells_3 : decode cX2_openCells 3 = .ok (.istore_n 2, 1) := by decide +kernel
theorem dX2_openCells_4 : decode cX2_openCells 4 = .ok (.iload_n 2, 1) := by decide +kernel
theorem dX2_openCells_5 : decode cX2_openCells 5 = .ok (.aload_n 0, 1) := by decide +kernel
theorem dX2_openCells_6 : decode cX2_openCells 6 = .ok (.getfield 29, 3) := by decide +kernel
theorem dX2_openCells_9 : decode cX2_openCells 9 = .ok (.if_icmp .ge 24, 3) := by decide +kernel
theorem dX2_openCells_12 : decode cX2_openCells 12 = .ok (.iload_n 1, 1) := by decide +kernel
theorem dX2_openCells_13 : decode cX2_openCells 13 = .ok (.aload_n 0, 1) := by decide +kernel
theorem dX2_openCells_14 : decode cX2_openCells 14 = .ok (.iload_n 2, 1) := by decide +kernel
theorem dX2_openCells_15 : decode cX2_openCells 15 = .ok (.aload_n 0, 1) := by decide +kernel
theorem dX2_openCells_16 : decode cX2_openCells 16 = .ok (.getfield 33, 3) := by decide +kernel
theorem dX2_openCells_19 : decode cX2_openCells 19 = .ok (.invokevirtual 52, 3) := by decide +kernel
theorem dX2_openCells_22 : decode cX2_openCells 22 = .ok (.invokestatic 56, 3) := by decide +kernel
theorem dX2_openCells_25 : decode cX2_openCells 25 = .ok (.iadd, 1) := by decide +kernel
theorem dX2_openCells_26 : decode cX2_openCells 26 = .ok (.istore_n 1, 1) := by decide +kernel
theorem dX2_openCells_27 : decode cX2_openCells 27 = .ok (.iinc 2 1, 3) := by decide +kernel
theorem dX2_openCells_30 : decode cX2_openCells 30 = .ok (.goto (-26), 3) := by decide +kernel
theorem dX2_openCells_33 : decode cX2_openCells 33 = .ok (.iload_n 1, 1) := by decide +kernel
theorem dX2_openCells_34 : decode cX2_openCells 34 = .ok (.ireturn, 1) := by decide +kernel
theorem dX2_markedCells_0 : decode cX2_markedCells 0 = .ok (.iconst 0, 1) := by decide +kernel
theorem dX2_markedCells_1 : decode cX2_markedCells 1 = .ok (.istore_n 1, 1) := by decide +kernel
theorem dX2_markedCells_2 : decode cX2_markedCells 2 = .ok (.iconst 0, 1) := by decide +kernel
theorem dX2_markedCells_3 : decode cX2_markedCells 3 = .ok (.istore_n 2, 1) := by decide +kernel
theorem dX2_markedCells_4 : decode cX2_markedCells 4 = .ok (.iload_n 2, 1) := by decide +kernel
theorem dX2_markedCells_5 : decode cX2_markedCells 5 = .ok (.aload_n 0, 1) := by decide +kernel
theorem dX2_markedCells_6 : decode cX2_markedCells 6 = .ok (.getfield 29, 3) := by decide +kernel
theorem dX2_markedCells_9 : decode cX2_markedCells 9 = .ok (.if_icmp .ge 29, 3) := by decide +kernel
theorem dX2_markedCells_12 : decode cX2_markedCells 12 = .ok (.iload_n 1, 1) := by decide +kernel
theorem dX2_markedCells_13 : decode cX2_markedCells 13 = .ok (.aload_n 0, 1) := by decide +kernel
theorem dX2_markedCells_14 : decode cX2_markedCells 14 = .ok (.getfield 15, 3) := by decide +kernel
theorem dX2_markedCells_17 : decode cX2_markedCells 17 = .ok (.iload_n 2, 1) := by decide +kernel
theorem dX2_markedCells_18 : decode cX2_markedCells 18 = .ok (.iaload, 1) := by decide +kernel
theorem dX2_markedCells_19 : decode cX2_markedCells 19 = .ok (.ifCond .eq 7, 3) := by decide +kernel
theorem dX2_markedCells_22 : decode cX2_markedCells 22 = .ok (.iconst 1, 1) := by decide +kernel
theorem dX2_markedCells_23 : decode cX2_markedCells 23 = .ok (.goto 4, 3) := by decide +kernel
theorem dX2_markedCells_26 : decode cX2_markedCells 26 = .ok (.iconst 0, 1) := by decide +kernel
theorem dX2_markedCells_27 : decode cX2_markedCells 27 = .ok (.invokestatic 56, 3) := by decide +kernel
theorem dX2_markedCells_30 : decode cX2_markedCells 30 = .ok (.iadd, 1) := by decide +kernel
theorem dX2_markedCells_31 : decode cX2_markedCells 31 = .ok (.istore_n 1, 1) := by decide +kernel
theorem dX2_markedCells_32 : decode cX2_markedCells 32 = .ok (.iinc 2 1, 3) := by decide +kernel
theorem dX2_markedCells_35 : decode cX2_markedCells 35 = .ok (.goto (-31), 3) := by decide +kernel
theorem dX2_markedCells_38 : decode cX2_markedCells 38 = .ok (.iload_n 1, 1) := by decide +kernel
theorem dX2_markedCells_39 : decode cX2_markedCells 39 = .ok (.ireturn, 1) := by decide +kernel
theorem dX3_init_0 : decode cX3_init 0 = .ok (.aload_n 0, 1) := by decide +kernel
theorem dX3_init_1 : decode cX3_init 1 = .ok (.invokespecial 3, 3) := by decide +kernel
theorem dX3_init_4 : decode cX3_init 4 = .ok (.return_, 1) := by decide +kernel
theorem dX3_topOf_0 : decode cX3_topOf 0 = .ok (.iload_n 0, 1) := by decide +kernel
theorem dX3_topOf_1 : decode cX3_topOf 1 = .ok (.iconst 4, 1) := by decide +kernel
theorem dX3_topOf_2 : decode cX3_topOf 2 = .ok (.idiv, 1) := by decide +kernel
theorem dX3_topOf_3 : decode cX3_topOf 3 = .ok (.iconst 1, 1) := by decide +kernel
theorem dX3_topOf_4 : decode cX3_topOf 4 = .ok (.iadd, 1) := by decide +kernel
theorem dX3_topOf_5 : decode cX3_topOf 5 = .ok (.ireturn, 1) := by decide +kernel
theorem dX3_belowOf_0 : decode cX3_belowOf 0 = .ok (.bipush 7, 2) := by decide +kernel
theorem dX3_belowOf_2 : decode cX3_belowOf 2 = .ok (.iload_n 0, 1) := by decide +kernel
theorem dX3_belowOf_3 : decode cX3_belowOf 3 = .ok (.invokestatic 9, 3) := by decide +kernel
theorem dX3_belowOf_6 : decode cX3_belowOf 6 = .ok (.isub, 1) := by decide +kernel
theorem dX3_belowOf_7 : decode cX3_belowOf 7 = .ok (.ireturn, 1) := by decide +kernel
theorem dX3_eastOf_0 : decode cX3_eastOf 0 = .ok (.iload_n 0, 1) := by decide +kernel
theorem dX3_eastOf_1 : decode cX3_eastOf 1 = .ok (.invokestatic 15, 3) := by decide +kernel
theorem dX3_eastOf_4 : decode cX3_eastOf 4 = .ok (.ifCond .eq 11, 3) := by decide +kernel
theorem dX3_eastOf_7 : decode cX3_eastOf 7 = .ok (.getstatic 19, 3) := by decide +kernel
theorem dX3_eastOf_10 : decode cX3_eastOf 10 = .ok (.iload_n 0, 1) := by decide +kernel
theorem dX3_eastOf_11 : decode cX3_eastOf 11 = .ok (.iaload, 1) := by decide +kernel
theorem dX3_eastOf_12 : decode cX3_eastOf 12 = .ok (.goto 4, 3) := by decide +kernel
theorem dX3_eastOf_15 : decode cX3_eastOf 15 = .ok (.iconst (-1), 1) := by decide +kernel
theorem dX3_eastOf_16 : decode cX3_eastOf 16 = .ok (.ireturn, 1) := by decide +kernel
theorem dX3_southOf_0 : decode cX3_southOf 0 = .ok (.iload_n 0, 1) := by decide +kernel
theorem dX3_southOf_1 : decode cX3_southOf 1 = .ok (.invokestatic 15, 3) := by decide +kernel
theorem dX3_southOf_4 : decode cX3_southOf 4 = .ok (.ifCond .eq 11, 3) := by decide +kernel
theorem dX3_southOf_7 : decode cX3_southOf 7 = .ok (.getstatic 23, 3) := by decide +kernel
theorem dX3_southOf_10 : decode cX3_southOf 10 = .ok (.iload_n 0, 1) := by decide +kernel
theorem dX3_southOf_11 : decode cX3_southOf 11 = .ok (.iaload, 1) := by decide +kernel
theorem dX3_southOf_12 : decode cX3_southOf 12 = .ok (.goto 4, 3) := by decide +kernel
theorem dX3_southOf_15 : decode cX3_southOf 15 = .ok (.iconst (-1), 1) := by decide +kernel
theorem dX3_southOf_16 : decode cX3_southOf 16 = .ok (.ireturn, 1) := by decide +kernel
theorem dX3_numbered_0 : decode cX3_numbered 0 = .ok (.iload_n 1, 1) := by decide +kernel
theorem dX3_numbered_1 : decode cX3_numbered 1 = .ok (.iconst 1, 1) := by decide +kernel
theorem dX3_numbered_2 : decode cX3_numbered 2 = .ok (.isub, 1) := by decide +kernel
theorem dX3_numbered_3 : decode cX3_numbered 3 = .ok (.iload_n 0, 1) := by decide +kernel
theorem dX3_numbered_4 : decode cX3_numbered 4 = .ok (.iload_n 1, 1) := by decide +kernel
theorem dX3_numbered_5 : decode cX3_numbered 5 = .ok (.if_icmp .ge 7, 3) := by decide +kernel
theorem dX3_numbered_8 : decode cX3_numbered 8 = .ok (.iconst 1, 1) := by decide +kernel
theorem dX3_numbered_9 : decode cX3_numbered 9 = .ok (.goto 4, 3) := by decide +kernel
theorem dX3_numbered_12 : decode cX3_numbered 12 = .ok (.iconst 0, 1) := by decide +kernel
theorem dX3_numbered_13 : decode cX3_numbered 13 = .ok (.isub, 1) := by decide +kernel
theorem dX3_numbered_14 : decode cX3_numbered 14 = .ok (.bipush 7, 2) := by decide +kernel
theorem dX3_numbered_16 : decode cX3_numbered 16 = .ok (.iload_n 0, 1) := by decide +kernel
theorem dX3_numbered_17 : decode cX3_numbered 17 = .ok (.isub, 1) := by decide +kernel
theorem dX3_numbered_18 : decode cX3_numbered 18 = .ok (.iload_n 1, 1) := by decide +kernel
theorem dX3_numbered_19 : decode cX3_numbered 19 = .ok (.if_icmp .ge 7, 3) := by decide +kernel
theorem dX3_numbered_22 : decode cX3_numbered 22 = .ok (.iconst 1, 1) := by decide +kernel
theorem dX3_numbered_23 : decode cX3_numbered 23 = .ok (.goto 4, 3) := by decide +kernel
theorem dX3_numbered_26 : decode cX3_numbered 26 = .ok (.iconst 0, 1) := by decide +kernel
theorem dX3_numbered_27 : decode cX3_numbered 27 = .ok (.isub, 1) := by decide +kernel
theorem dX3_numbered_28 : decode cX3_numbered 28 = .ok (.istore_n 2, 1) := by decide +kernel
theorem dX3_numbered_29 : decode cX3_numbered 29 = .ok (.iconst 4, 1) := by decide +kernel
theorem dX3_numbered_30 : decode cX3_numbered 30 = .ok (.iload_n 0, 1) := by decide +kernel
theorem dX3_numbered_31 : decode cX3_numbered 31 = .ok (.iconst 1, 1) := by decide +kernel
theorem dX3_numbered_32 : decode cX3_numbered 32 = .ok (.isub, 1) := by decide +kernel
theorem dX3_numbered_33 : decode cX3_numbered 33 = .ok (.imul, 1) := by decide +kernel
theorem dX3_numbered_34 : decode cX3_numbered 34 = .ok (.iload_n 2, 1) := by decide +kernel
theorem dX3_numbered_35 : decode cX3_numbered 35 = .ok (.iadd, 1) := by decide +kernel
theorem dX3_numbered_36 : decode cX3_numbered 36 = .ok (.ireturn, 1) := by decide +kernel
theorem dX3_turned_0 : decode cX3_turned 0 = .ok (.iload_n 0, 1) := by decide +kernel
theorem dX3_turned_1 : decode cX3_turned 1 = .ok (.invokestatic 15, 3) := by decide +kernel
theorem dX3_turned_4 : decode cX3_turned 4 = .ok (.ifCond .ne 5, 3) := by decide +kernel
theorem dX3_turned_7 : decode cX3_turned 7 = .ok (.iconst (-1), 1) := by decide +kernel
theorem dX3_turned_8 : decode cX3_turned 8 = .ok (.ireturn, 1) := by decide +kernel
theorem dX3_turned_9 : decode cX3_turned 9 = .ok (.iload_n 0, 1) := by decide +kernel
theorem dX3_turned_10 : decode cX3_turned 10 = .ok (.invokestatic 9, 3) := by decide +kernel
theorem dX3_turned_13 : decode cX3_turned 13 = .ok (.istore_n 2, 1) := by decide +kernel
theorem dX3_turned_14 : decode cX3_turned 14 = .ok (.getstatic 19, 3) := by decide +kernel
theorem dX3_turned_17 : decode cX3_turned 17 = .ok (.iload_n 0, 1) := by decide +kernel
theorem dX3_turned_18 : decode cX3_turned 18 = .ok (.iaload, 1) := by decide +kernel
theorem dX3_turned_19 : decode cX3_turned 19 = .ok (.istore_n 3, 1) := by decide +kernel
theorem dX3_turned_20 : decode cX3_turned 20 = .ok (.getstatic 23, 3) := by decide +kernel
theorem dX3_turned_23 : decode cX3_turned 23 = .ok (.iload_n 0, 1) := by decide +kernel
theorem dX3_turned_24 : decode cX3_turned 24 = .ok (.iaload, 1) := by decide +kernel
theorem dX3_turned_25 : decode cX3_turned 25 = .ok (.istore 4, 2) := by decide +kernel
theorem dX3_turned_27 : decode cX3_turned 27 = .ok (.iload_n 1, 1) := by decide +kernel
theorem dX3_turned_28 : decode cX3_turned 28 = .ok (.tableswitch 56 0 2 #[28, 37, 47], 28) := by decide +kernel
theorem dX3_turned_56 : decode cX3_turned 56 = .ok (.bipush 7, 2) := by decide +kernel
theorem dX3_turned_58 : decode cX3_turned 58 = .ok (.iload_n 3, 1) := by decide +kernel
theorem dX3_turned_59 : decode cX3_turned 59 = .ok (.isub, 1) := by decide +kernel
theorem dX3_turned_60 : decode cX3_turned 60 = .ok (.iload_n 2, 1) := by decide +kernel
theorem dX3_turned_61 : decode cX3_turned 61 = .ok (.invokestatic 26, 3) := by decide +kernel
theorem dX3_turned_64 : decode cX3_turned 64 = .ok (.ireturn, 1) := by decide +kernel
theorem dX3_turned_65 : decode cX3_turned 65 = .ok (.bipush 7, 2) := by decide +kernel
theorem dX3_turned_67 : decode cX3_turned 67 = .ok (.iload 4, 2) := by decide +kernel
theorem dX3_turned_69 : decode cX3_turned 69 = .ok (.isub, 1) := by decide +kernel
theorem dX3_turned_70 : decode cX3_turned 70 = .ok (.iload_n 3, 1) := by decide +kernel
theorem dX3_turned_71 : decode cX3_turned 71 = .ok (.invokestatic 26, 3) := by decide +kernel
theorem dX3_turned_74 : decode cX3_turned 74 = .ok (.ireturn, 1) := by decide +kernel
theorem dX3_turned_75 : decode cX3_turned 75 = .ok (.iload_n 3, 1) := by decide +kernel
theorem dX3_turned_76 : decode cX3_turned 76 = .ok (.bipush 7, 2) := by decide +kernel
theorem dX3_turned_78 : decode cX3_turned 78 = .ok (.iload_n 2, 1) := by decide +kernel
theorem dX3_turned_79 : decode cX3_turned 79 = .ok (.isub, 1) := by decide +kernel
theorem dX3_turned_80 : decode cX3_turned 80 = .ok (.invokestatic 26, 3) := by decide +kernel
theorem dX3_turned_83 : decode cX3_turned 83 = .ok (.ireturn, 1) := by decide +kernel
theorem dX3_turned_84 : decode cX3_turned 84 = .ok (.iload 4, 2) := by decide +kernel
theorem dX3_turned_86 : decode cX3_turned 86 = .ok (.iload_n 3, 1) := by decide +kernel
theorem dX3_turned_87 : decode cX3_turned 87 = .ok (.invokestatic 26, 3) := by decide +kernel
theorem dX3_turned_90 : decode cX3_turned 90 = .ok (.ireturn, 1) := by decide +kernel
theorem dX3_meets_0 : decode cX3_meets 0 = .ok (.iload_n 1, 1) := by decide +kernel
theorem dX3_meets_1 : decode cX3_meets 1 = .ok (.bipush 10, 2) := by decide +kernel
theorem dX3_meets_3 : decode cX3_meets 3 = .ok (.if_icmp .lt 17, 3) := by decide +kernel
theorem dX3_meets_6 : decode cX3_meets 6 = .ok (.iload_n 0, 1) := by decide +kernel
theorem dX3_meets_7 : decode cX3_meets 7 = .ok (.iload_n 1, 1) := by decide +kernel
theorem dX3_meets_8 : decode cX3_meets 8 = .ok (.bipush 10, 2) := by decide +kernel
theorem dX3_meets_10 : decode cX3_meets 10 = .ok (.isub, 1) := by decide +kernel
theorem dX3_meets_11 : decode cX3_meets 11 = .ok (.if_icmp .ne 7, 3) := by decide +kernel
theorem dX3_meets_14 : decode cX3_meets 14 = .ok (.iconst 1, 1) := by decide +kernel
theorem dX3_meets_15 : decode cX3_meets 15 = .ok (.goto 4, 3) := by decide +kernel
theorem dX3_meets_18 : decode cX3_meets 18 = .ok (.iconst 0, 1) := by decide +kernel
theorem dX3_meets_19 : decode cX3_meets 19 = .ok (.ireturn, 1) := by decide +kernel
theorem dX3_meets_20 : decode cX3_meets 20 = .ok (.iload_n 1, 1) := by decide +kernel
theorem dX3_meets_21 : decode cX3_meets 21 = .ok (.ifCond .eq 11, 3) := by decide +kernel
theorem dX3_meets_24 : decode cX3_meets 24 = .ok (.iload_n 0, 1) := by decide +kernel
theorem dX3_meets_25 : decode cX3_meets 25 = .ok (.invokestatic 9, 3) := by decide +kernel
theorem dX3_meets_28 : decode cX3_meets 28 = .ok (.iload_n 1, 1) := by decide +kernel
theorem dX3_meets_29 : decode cX3_meets 29 = .ok (.if_icmp .ne 7, 3) := by decide +kernel
theorem dX3_meets_32 : decode cX3_meets 32 = .ok (.iconst 1, 1) := by decide +kernel
theorem dX3_meets_33 : decode cX3_meets 33 = .ok (.goto 4, 3) := by decide +kernel
theorem dX3_meets_36 : decode cX3_meets 36 = .ok (.iconst 0, 1) := by decide +kernel
theorem dX3_meets_37 : decode cX3_meets 37 = .ok (.ireturn, 1) := by decide +kernel
theorem dX3_after_0 : decode cX3_after 0 = .ok (.iload_n 1, 1) := by decide +kernel
theorem dX3_after_1 : decode cX3_after 1 = .ok (.iload_n 2, 1) := by decide +kernel
theorem dX3_after_2 : decode cX3_after 2 = .ok (.invokestatic 30, 3) := by decide +kernel
theorem dX3_after_5 : decode cX3_after 5 = .ok (.ireturn, 1) := by decide +kernel
theorem dX4_init_0 : decode cX4_init 0 = .ok (.aload_n 0, 1) := by decide +kernel
theorem dX4_init_1 : decode cX4_init 1 = .ok (.invokespecial 3, 3) := by decide +kernel
theorem dX4_init_4 : decode cX4_init 4 = .ok (.aload_n 0, 1) := by decide +kernel
theorem dX4_init_5 : decode cX4_init 5 = .ok (.aload_n 1, 1) := by decide +kernel
theorem dX4_init_6 : decode cX4_init 6 = .ok (.putfield 9, 3) := by decide +kernel
theorem dX4_init_9 : decode cX4_init 9 = .ok (.return_, 1) := by decide +kernel
theorem dX4_at_0 : decode cX4_at 0 = .ok (.bipush 24, 2) := by decide +kernel
theorem dX4_at_2 : decode cX4_at 2 = .ok (.iload_n 0, 1) := by decide +kernel
theorem dX4_at_3 : decode cX4_at 3 = .ok (.imul, 1) := by decide +kernel
theorem dX4_at_4 : decode cX4_at 4 = .ok (.iload_n 1, 1) := by decide +kernel
theorem dX4_at_5 : decode cX4_at 5 = .ok (.iadd, 1) := by decide +kernel
theorem dX4_at_6 : decode cX4_at 6 = .ok (.ireturn, 1) := by decide +kernel
theorem dX4_cellOf_0 : decode cX4_cellOf 0 = .ok (.iload_n 0, 1) := by decide +kernel
theorem dX4_cellOf_1 : decode cX4_cellOf 1 = .ok (.bipush 24, 2) := by decide +kernel
theorem dX4_cellOf_3 : decode cX4_cellOf 3 = .ok (.idiv, 1) := by decide +kernel
theorem dX4_cellOf_4 : decode cX4_cellOf 4 = .ok (.ireturn, 1) := by decide +kernel
theorem dX4_stanceOf_0 : decode cX4_stanceOf 0 = .ok (.iload_n 0, 1) := by decide +kernel
theorem dX4_stanceOf_1 : decode cX4_stanceOf 1 = .ok (.bipush 24, 2) := by decide +kernel
theorem dX4_stanceOf_3 : decode cX4_stanceOf 3 = .ok (.irem, 1) := by decide +kernel
theorem dX4_stanceOf_4 : decode cX4_stanceOf 4 = .ok (.ireturn, 1) := by decide +kernel
theorem dX4_printOf_0 : decode cX4_printOf 0 = .ok (.iload_n 0, 1) := by decide +kernel
theorem dX4_printOf_1 : decode cX4_printOf 1 = .ok (.invokestatic 15, 3) := by decide +kernel
theorem dX4_printOf_4 : decode cX4_printOf 4 = .ok (.invokestatic 19, 3) := by decide +kernel
theorem dX4_printOf_7 : decode cX4_printOf 7 = .ok (.ireturn, 1) := by decide +kernel
theorem dX4_after_0 : decode cX4_after 0 = .ok (.aload_n 0, 1) := by decide +kernel
theorem dX4_after_1 : decode cX4_after 1 = .ok (.getfield 9, 3) := by decide +kernel
theorem dX4_after_4 : decode cX4_after 4 = .ok (.iload_n 1, 1) := by decide +kernel
theorem dX4_after_5 : decode cX4_after 5 = .ok (.invokestatic 24, 3) := by decide +kernel
theorem dX4_after_8 : decode cX4_after 8 = .ok (.iload_n 2, 1) := by decide +kernel
theorem dX4_after_9 : decode cX4_after 9 = .ok (.invokevirtual 27, 3) := by decide +kernel
theorem dX4_after_12 : decode cX4_after 12 = .ok (.istore_n 3, 1) := by decide +kernel
theorem dX4_after_13 : decode cX4_after 13 = .ok (.aload_n 0, 1) := by decide +kernel
theorem dX4_after_14 : decode cX4_after 14 = .ok (.getfield 9, 3) := by decide +kernel
theorem dX4_after_17 : decode cX4_after 17 = .ok (.iload_n 3, 1) := by decide +kernel
theorem dX4_after_18 : decode cX4_after 18 = .ok (.aload_n 0, 1) := by decide +kernel
theorem dX4_after_19 : decode cX4_after 19 = .ok (.getfield 9, 3) := by decide +kernel
theorem dX4_after_22 : decode cX4_after 22 = .ok (.invokevirtual 33, 3) := by decide +kernel
theorem dX4_after_25 : decode cX4_after 25 = .ok (.invokevirtual 37, 3) := by decide +kernel
theorem dX4_after_28 : decode cX4_after 28 = .ok (.ifCond .ne 5, 3) := by decide +kernel
theorem dX4_after_31 : decode cX4_after 31 = .ok (.iconst (-1), 1) := by decide +kernel
theorem dX4_after_32 : decode cX4_after 32 = .ok (.ireturn, 1) := by decide +kernel
theorem dX4_after_33 : decode cX4_after 33 = .ok (.iload_n 1, 1) := by decide +kernel
theorem dX4_after_34 : decode cX4_after 34 = .ok (.invokestatic 15, 3) := by decide +kernel
theorem dX4_after_37 : decode cX4_after 37 = .ok (.iload_n 2, 1) := by decide +kernel
theorem dX4_after_38 : decode cX4_after 38 = .ok (.invokestatic 41, 3) := by decide +kernel
theorem dX4_after_41 : decode cX4_after 41 = .ok (.istore 4, 2) := by decide +kernel
theorem dX4_after_43 : decode cX4_after 43 = .ok (.aload_n 0, 1) := by decide +kernel
theorem dX4_after_44 : decode cX4_after 44 = .ok (.getfield 9, 3) := by decide +kernel
theorem dX4_after_47 : decode cX4_after 47 = .ok (.iload_n 3, 1) := by decide +kernel
theorem dX4_after_48 : decode cX4_after 48 = .ok (.invokevirtual 44, 3) := by decide +kernel
theorem dX4_after_51 : decode cX4_after 51 = .ok (.istore 5, 2) := by decide +kernel
theorem dX4_after_53 : decode cX4_after 53 = .ok (.iload 5, 2) := by decide +kernel
theorem dX4_after_55 : decode cX4_after 55 = .ok (.ifCond .eq 13, 3) := by decide +kernel
theorem dX4_after_58 : decode cX4_after 58 = .ok (.iload 5, 2) := by decide +kernel
theorem dX4_after_60 : decode cX4_after 60 = .ok (.iload 4, 2) := by decide +kernel
theorem dX4_after_62 : decode cX4_after 62 = .ok (.invokestatic 47, 3) := by decide +kernel
theorem dX4_after_65 : decode cX4_after 65 = .ok (.if_icmp .ne 12, 3) := by decide +kernel
theorem dX4_after_68 : decode cX4_after 68 = .ok (.iload_n 3, 1) := by decide +kernel
theorem dX4_after_69 : decode cX4_after 69 = .ok (.iload 4, 2) := by decide +kernel
theorem dX4_after_71 : decode cX4_after 71 = .ok (.invokestatic 50, 3) := by decide +kernel
theorem dX4_after_74 : decode cX4_after 74 = .ok (.goto 4, 3) := by decide +kernel
theorem dX4_after_77 : decode cX4_after 77 = .ok (.iconst (-1), 1) := by decide +kernel
theorem dX4_after_78 : decode cX4_after 78 = .ok (.ireturn, 1) := by decide +kernel
theorem dX5_init_0 : decode cX5_init 0 = .ok (.aload_n 0, 1) := by decide +kernel
theorem dX5_init_1 : decode cX5_init 1 = .ok (.invokespecial 3, 3) := by decide +kernel
theorem dX5_init_4 : decode cX5_init 4 = .ok (.aload_n 0, 1) := by decide +kernel
theorem dX5_init_5 : decode cX5_init 5 = .ok (.sipush 600, 3) := by decide +kernel
theorem dX5_init_8 : decode cX5_init 8 = .ok (.newarray .int, 2) := by decide +kernel
theorem dX5_init_10 : decode cX5_init 10 = .ok (.putfield 9, 3) := by decide +kernel
theorem dX5_init_13 : decode cX5_init 13 = .ok (.aload_n 0, 1) := by decide +kernel
theorem dX5_init_14 : decode cX5_init 14 = .ok (.aload_n 1, 1) := by decide +kernel
theorem dX5_init_15 : decode cX5_init 15 = .ok (.putfield 15, 3) := by decide +kernel
theorem dX5_init_18 : decode cX5_init 18 = .ok (.aload_n 0, 1) := by decide +kernel
theorem dX5_init_19 : decode cX5_init 19 = .ok (.aload_n 2, 1) := by decide +kernel
theorem dX5_init_20 : decode cX5_init 20 = .ok (.putfield 19, 3) := by decide +kernel
theorem dX5_init_23 : decode cX5_init 23 = .ok (.return_, 1) := by decide +kernel
theorem dX5_length_0 : decode cX5_length 0 = .ok (.aload_n 0, 1) := by decide +kernel
theorem dX5_length_1 : decode cX5_length 1 = .ok (.getfield 19, 3) := by decide +kernel
theorem dX5_length_4 : decode cX5_length 4 = .ok (.aload_n 0, 1) := by decide +kernel
theorem dX5_length_5 : decode cX5_length 5 = .ok (.iload_n 1, 1) := by decide +kernel
theorem dX5_length_6 : decode cX5_length 6 = .ok (.iload_n 2, 1) := by decide +kernel
theorem dX5_length_7 : decode cX5_length 7 = .ok (.iload_n 3, 1) := by decide +kernel
theorem dX5_length_8 : decode cX5_length 8 = .ok (.invokevirtual 23, 3) := by decide +kernel
theorem dX5_length_11 : decode cX5_length 11 = .ok (.invokevirtual 27, 3) := by decide +kernel
theorem dX5_length_14 : decode cX5_length 14 = .ok (.invokestatic 33, 3) := by decide +kernel
theorem dX5_length_17 : decode cX5_length 17 = .ok (.ireturn, 1) := by decide +kernel
theorem dX5_stepAt_0 : decode cX5_stepAt 0 = .ok (.aload_n 0, 1) := by decide +kernel
theorem dX5_stepAt_1 : decode cX5_stepAt 1 = .ok (.getfield 19, 3) := by decide +kernel
theorem dX5_stepAt_4 : decode cX5_stepAt 4 = .ok (.aload_n 0, 1) := by decide +kernel
theorem dX5_stepAt_5 : decode cX5_stepAt 5 = .ok (.iload_n 1, 1) := by decide +kernel
theorem dX5_stepAt_6 : decode cX5_stepAt 6 = .ok (.iload_n 2, 1) := by decide +kernel
theorem dX5_stepAt_7 : decode cX5_stepAt 7 = .ok (.iload_n 3, 1) := by decide +kernel
theorem dX5_stepAt_8 : decode cX5_stepAt 8 = .ok (.invokevirtual 23, 3) := by decide +kernel
theorem dX5_stepAt_11 : decode cX5_stepAt 11 = .ok (.iload 4, 2) := by decide +kernel
theorem dX5_stepAt_13 : decode cX5_stepAt 13 = .ok (.invokevirtual 36, 3) := by decide +kernel
theorem dX5_stepAt_16 : decode cX5_stepAt 16 = .ok (.ireturn, 1) := by decide +kernel
theorem dX5_howMany_0 : decode cX5_howMany 0 = .ok (.aload_n 0, 1) := by decide +kernel
theorem dX5_howMany_1 : decode cX5_howMany 1 = .ok (.getfield 19, 3) := by decide +kernel
theorem dX5_howMany_4 : decode cX5_howMany 4 = .ok (.aload_n 0, 1) := by decide +kernel
theorem dX5_howMany_5 : decode cX5_howMany 5 = .ok (.iload_n 1, 1) := by decide +kernel
theorem dX5_howMany_6 : decode cX5_howMany 6 = .ok (.iload_n 2, 1) := by decide +kernel
theorem dX5_howMany_7 : decode cX5_howMany 7 = .ok (.iload_n 3, 1) := by decide +kernel
theorem dX5_howMany_8 : decode cX5_howMany 8 = .ok (.invokevirtual 23, 3) := by decide +kernel
theorem dX5_howMany_11 : decode cX5_howMany 11 = .ok (.invokevirtual 27, 3) := by decide +kernel
theorem dX5_howMany_14 : decode cX5_howMany 14 = .ok (.istore 4, 2) := by decide +kernel
theorem dX5_howMany_16 : decode cX5_howMany 16 = .ok (.lconst 0, 1) := by decide +kernel
theorem dX5_howMany_17 : decode cX5_howMany 17 = .ok (.lstore 5, 2) := by decide +kernel
theorem dX5_howMany_19 : decode cX5_howMany 19 = .ok (.iconst 0, 1) := by decide +kernel
theorem dX5_howMany_20 : decode cX5_howMany 20 = .ok (.istore 7, 2) := by decide +kernel
theorem dX5_howMany_22 : decode cX5_howMany 22 = .ok (.iload 7, 2) := by decide +kernel
theorem dX5_howMany_24 : decode cX5_howMany 24 = .ok (.aload_n 0, 1) := by decide +kernel
theorem dX5_howMany_25 : decode cX5_howMany 25 = .ok (.getfield 19, 3) := by decide +kernel
theorem dX5_howMany_28 : decode cX5_howMany 28 = .ok (.invokevirtual 40, 3) := by decide +kernel
theorem dX5_howMany_31 : decode cX5_howMany 31 = .ok (.if_icmp .ge 58, 3) := by decide +kernel
theorem dX5_howMany_34 : decode cX5_howMany 34 = .ok (.aload_n 0, 1) := by decide +kernel
theorem dX5_howMany_35 : decode cX5_howMany 35 = .ok (.getfield 19, 3) := by decide +kernel
theorem dX5_howMany_38 : decode cX5_howMany 38 = .ok (.iload 7, 2) := by decide +kernel
theorem dX5_howMany_40 : decode cX5_howMany 40 = .ok (.invokevirtual 44, 3) := by decide +kernel
theorem dX5_howMany_43 : decode cX5_howMany 43 = .ok (.istore 8, 2) := by decide +kernel
theorem dX5_howMany_45 : decode cX5_howMany 45 = .ok (.iload 8, 2) := by decide +kernel
theorem dX5_howMany_47 : decode cX5_howMany 47 = .ok (.iload_n 2, 1) := by decide +kernel
theorem dX5_howMany_48 : decode cX5_howMany 48 = .ok (.iload_n 3, 1) := by decide +kernel
theorem dX5_howMany_49 : decode cX5_howMany 49 = .ok (.invokestatic 47, 3) := by decide +kernel
theorem dX5_howMany_52 : decode cX5_howMany 52 = .ok (.ifCond .eq 31, 3) := by decide +kernel
theorem dX5_howMany_55 : decode cX5_howMany 55 = .ok (.aload_n 0, 1) := by decide +kernel
theorem dX5_howMany_56 : decode cX5_howMany 56 = .ok (.getfield 19, 3) := by decide +kernel
theorem dX5_howMany_59 : decode cX5_howMany 59 = .ok (.iload 8, 2) := by decide +kernel
theorem dX5_howMany_61 : decode cX5_howMany 61 = .ok (.invokevirtual 27, 3) := by decide +kernel
theorem dX5_howMany_64 : decode cX5_howMany 64 = .ok (.iload 4, 2) := by decide +kernel
theorem dX5_howMany_66 : decode cX5_howMany 66 = .ok (.if_icmp .ne 17, 3) := by decide +kernel
theorem dX5_howMany_69 : decode cX5_howMany 69 = .ok (.lload 5, 2) := by decide +kernel
theorem dX5_howMany_71 : decode cX5_howMany 71 = .ok (.aload_n 0, 1) := by decide +kernel
theorem dX5_howMany_72 : decode cX5_howMany 72 = .ok (.getfield 19, 3) := by decide +kernel
theorem dX5_howMany_75 : decode cX5_howMany 75 = .ok (.iload 8, 2) := by decide +kernel
theorem dX5_howMany_77 : decode cX5_howMany 77 = .ok (.invokevirtual 51, 3) := by decide +kernel
theorem dX5_howMany_80 : decode cX5_howMany 80 = .ok (.ladd, 1) := by decide +kernel
theorem dX5_howMany_81 : decode cX5_howMany 81 = .ok (.lstore 5, 2) := by decide +kernel
theorem dX5_howMany_83 : decode cX5_howMany 83 = .ok (.iinc 7 1, 3) := by decide +kernel
theorem dX5_howMany_86 : decode cX5_howMany 86 = .ok (.goto (-64), 3) := by decide +kernel
theorem dX5_howMany_89 : decode cX5_howMany 89 = .ok (.lload 5, 2) := by decide +kernel
theorem dX5_howMany_91 : decode cX5_howMany 91 = .ok (.lreturn, 1) := by decide +kernel
theorem dX5_leastPrints_0 : decode cX5_leastPrints 0 = .ok (.aload_n 0, 1) := by decide +kernel
theorem dX5_leastPrints_1 : decode cX5_leastPrints 1 = .ok (.getfield 19, 3) := by decide +kernel
theorem dX5_leastPrints_4 : decode cX5_leastPrints 4 = .ok (.iload_n 1, 1) := by decide +kernel
theorem dX5_leastPrints_5 : decode cX5_leastPrints 5 = .ok (.invokevirtual 55, 3) := by decide +kernel
theorem dX5_leastPrints_8 : decode cX5_leastPrints 8 = .ok (.aload_n 0, 1) := by decide +kernel
theorem dX5_leastPrints_9 : decode cX5_leastPrints 9 = .ok (.getfield 19, 3) := by decide +kernel
theorem dX5_leastPrints_12 : decode cX5_leastPrints 12 = .ok (.aload_n 0, 1) := by decide +kernel
theorem dX5_leastPrints_13 : decode cX5_leastPrints 13 = .ok (.getfield 15, 3) := by decide +kernel
theorem dX5_leastPrints_16 : decode cX5_leastPrints 16 = .ok (.invokevirtual 59, 3) := by decide +kernel
theorem dX5_leastPrints_19 : decode cX5_leastPrints 19 = .ok (.aload_n 0, 1) := by decide +kernel
theorem dX5_leastPrints_20 : decode cX5_leastPrints 20 = .ok (.getfield 9, 3) := by decide +kernel
theorem dX5_leastPrints_23 : decode cX5_leastPrints 23 = .ok (.ldc 63, 2) := by decide +kernel
theorem dX5_leastPrints_25 : decode cX5_leastPrints 25 = .ok (.invokestatic 64, 3) := by decide +kernel
theorem dX5_leastPrints_28 : decode cX5_leastPrints 28 = .ok (.iload_n 1, 1) := by decide +kernel
theorem dX5_leastPrints_29 : decode cX5_leastPrints 29 = .ok (.ifCond .lt 17, 3) := by decide +kernel
theorem dX5_leastPrints_32 : decode cX5_leastPrints 32 = .ok (.iload_n 1, 1) := by decide +kernel
theorem dX5_leastPrints_33 : decode cX5_leastPrints 33 = .ok (.sipush 600, 3) := by decide +kernel
theorem dX5_leastPrints_36 : decode cX5_leastPrints 36 = .ok (.if_icmp .ge 10, 3) := by decide +kernel
theorem dX5_leastPrints_39 : decode cX5_leastPrints 39 = .ok (.aload_n 0, 1) := by decide +kernel
theorem dX5_leastPrints_40 : decode cX5_leastPrints 40 = .ok (.getfield 9, 3) := by decide +kernel
theorem dX5_leastPrints_43 : decode cX5_leastPrints 43 = .ok (.iload_n 1, 1) := by decide +kernel
theorem dX5_leastPrints_44 : decode cX5_leastPrints 44 = .ok (.iconst 0, 1) := by decide +kernel
theorem dX5_leastPrints_45 : decode cX5_leastPrints 45 = .ok (.iastore, 1) := by decide +kernel
theorem dX5_leastPrints_46 : decode cX5_leastPrints 46 = .ok (.iconst 1, 1) := by decide +kernel
theorem dX5_leastPrints_47 : decode cX5_leastPrints 47 = .ok (.istore 4, 2) := by decide +kernel
theorem dX5_leastPrints_49 : decode cX5_leastPrints 49 = .ok (.iconst 0, 1) := by decide +kernel
theorem dX5_leastPrints_50 : decode cX5_leastPrints 50 = .ok (.istore 5, 2) := by decide +kernel
theorem dX5_leastPrints_52 : decode cX5_leastPrints 52 = .ok (.iload 4, 2) := by decide +kernel
theorem dX5_leastPrints_54 : decode cX5_leastPrints 54 = .ok (.ifCond .eq 23, 3) := by decide +kernel
theorem dX5_leastPrints_57 : decode cX5_leastPrints 57 = .ok (.iload 5, 2) := by decide +kernel
theorem dX5_leastPrints_59 : decode cX5_leastPrints 59 = .ok (.sipush 600, 3) := by decide +kernel
theorem dX5_leastPrints_62 : decode cX5_leastPrints 62 = .ok (.if_icmp .ge 15, 3) := by decide +kernel
theorem dX5_leastPrints_65 : decode cX5_leastPrints 65 = .ok (.aload_n 0, 1) := by decide +kernel
theorem dX5_leastPrints_66 : decode cX5_leastPrints 66 = .ok (.invokevirtual 70, 3) := by decide +kernel
theorem dX5_leastPrints_69 : decode cX5_leastPrints 69 = .ok (.istore 4, 2) := by decide +kernel
theorem dX5_leastPrints_71 : decode cX5_leastPrints 71 = .ok (.iinc 5 1, 3) := by decide +kernel
theorem dX5_leastPrints_74 : decode cX5_leastPrints 74 = .ok (.goto (-22), 3) := by decide +kernel
theorem dX5_leastPrints_77 : decode cX5_leastPrints 77 = .ok (.ldc 63, 2) := by decide +kernel
theorem dX5_leastPrints_79 : decode cX5_leastPrints 79 = .ok (.istore 5, 2) := by decide +kernel
theorem dX5_leastPrints_81 : decode cX5_leastPrints 81 = .ok (.iconst 0, 1) := by decide +kernel
theorem dX5_leastPrints_82 : decode cX5_leastPrints 82 = .ok (.istore 6, 2) := by decide +kernel
theorem dX5_leastPrints_84 : decode cX5_leastPrints 84 = .ok (.iload 6, 2) := by decide +kernel
theorem dX5_leastPrints_86 : decode cX5_leastPrints 86 = .ok (.sipush 600, 3) := by decide +kernel
theorem dX5_leastPrints_89 : decode cX5_leastPrints 89 = .ok (.if_icmp .ge 33, 3) := by decide +kernel
theorem dX5_leastPrints_92 : decode cX5_leastPrints 92 = .ok (.iload 6, 2) := by decide +kernel
theorem dX5_leastPrints_94 : decode cX5_leastPrints 94 = .ok (.iload_n 2, 1) := by decide +kernel
theorem dX5_leastPrints_95 : decode cX5_leastPrints 95 = .ok (.iload_n 3, 1) := by decide +kernel
theorem dX5_leastPrints_96 : decode cX5_leastPrints 96 = .ok (.invokestatic 47, 3) := by decide +kernel
theorem dX5_leastPrints_99 : decode cX5_leastPrints 99 = .ok (.ifCond .eq 17, 3) := by decide +kernel
theorem dX5_leastPrints_102 : decode cX5_leastPrints 102 = .ok (.iload 5, 2) := by decide +kernel
theorem dX5_leastPrints_104 : decode cX5_leastPrints 104 = .ok (.aload_n 0, 1) := by decide +kernel
theorem dX5_leastPrints_105 : decode cX5_leastPrints 105 = .ok (.getfield 9, 3) := by decide +kernel
theorem dX5_leastPrints_108 : decode cX5_leastPrints 108 = .ok (.iload 6, 2) := by decide +kernel
theorem dX5_leastPrints_110 : decode cX5_leastPrints 110 = .ok (.iaload, 1) := by decide +kernel
theorem dX5_leastPrints_111 : decode cX5_leastPrints 111 = .ok (.invokestatic 74, 3) := by decide +kernel
theorem dX5_leastPrints_114 : decode cX5_leastPrints 114 = .ok (.istore 5, 2) := by decide +kernel
theorem dX5_leastPrints_116 : decode cX5_leastPrints 116 = .ok (.iinc 6 1, 3) := by decide +kernel
theorem dX5_leastPrints_119 : decode cX5_leastPrints 119 = .ok (.goto (-35), 3) := by decide +kernel
theorem dX5_leastPrints_122 : decode cX5_leastPrints 122 = .ok (.iload 5, 2) := by decide +kernel
theorem dX5_leastPrints_124 : decode cX5_leastPrints 124 = .ok (.ldc 63, 2) := by decide +kernel
theorem dX5_leastPrints_126 : decode cX5_leastPrints 126 = .ok (.if_icmp .ne 8, 3) := by decide +kernel
theorem dX5_leastPrints_129 : decode cX5_leastPrints 129 = .ok (.bipush (-9), 2) := by decide +kernel
theorem dX5_leastPrints_131 : decode cX5_leastPrints 131 = .ok (.goto 5, 3) := by decide +kernel
theorem dX5_leastPrints_134 : decode cX5_leastPrints 134 = .ok (.iload 5, 2) := by decide +kernel
theorem dX5_leastPrints_136 : decode cX5_leastPrints 136 = .ok (.ireturn, 1) := by decide +kernel
theorem dX5_lowerCosts_0 : decode cX5_lowerCosts 0 = .ok (.iconst 0, 1) := by decide +kernel
theorem dX5_lowerCosts_1 : decode cX5_lowerCosts 1 = .ok (.istore_n 1, 1) := by decide +kernel
theorem dX5_lowerCosts_2 : decode cX5_lowerCosts 2 = .ok (.iconst 0, 1) := by decide +kernel
theorem dX5_lowerCosts_3 : decode cX5_lowerCosts 3 = .ok (.istore_n 2, 1) := by decide +kernel
theorem dX5_lowerCosts_4 : decode cX5_lowerCosts 4 = .ok (.iload_n 2, 1) := by decide +kernel
theorem dX5_lowerCosts_5 : decode cX5_lowerCosts 5 = .ok (.aload_n 0, 1) := by decide +kernel
theorem dX5_lowerCosts_6 : decode cX5_lowerCosts 6 = .ok (.getfield 19, 3) := by decide +kernel
theorem dX5_lowerCosts_9 : decode cX5_lowerCosts 9 = .ok (.invokevirtual 40, 3) := by decide +kernel
theorem dX5_lowerCosts_12 : decode cX5_lowerCosts 12 = .ok (.if_icmp .ge 51, 3) := by decide +kernel
theorem dX5_lowerCosts_15 : decode cX5_lowerCosts 15 = .ok (.aload_n 0, 1) := by decide +kernel
theorem dX5_lowerCosts_16 : decode cX5_lowerCosts 16 = .ok (.getfield 19, 3) := by decide +kernel
theorem dX5_lowerCosts_19 : decode cX5_lowerCosts 19 = .ok (.iload_n 2, 1) := by decide +kernel
theorem dX5_lowerCosts_20 : decode cX5_lowerCosts 20 = .ok (.invokevirtual 44, 3) := by decide +kernel
theorem dX5_lowerCosts_23 : decode cX5_lowerCosts 23 = .ok (.istore_n 3, 1) := by decide +kernel
theorem dX5_lowerCosts_24 : decode cX5_lowerCosts 24 = .ok (.iconst 0, 1) := by decide +kernel
theorem dX5_lowerCosts_25 : decode cX5_lowerCosts 25 = .ok (.istore 4, 2) := by decide +kernel
theorem dX5_lowerCosts_27 : decode cX5_lowerCosts 27 = .ok (.iload 4, 2) := by decide +kernel
theorem dX5_lowerCosts_29 : decode cX5_lowerCosts 29 = .ok (.iconst 4, 1) := by decide +kernel
theorem dX5_lowerCosts_30 : decode cX5_lowerCosts 30 = .ok (.if_icmp .ge 27, 3) := by decide +kernel
theorem dX5_lowerCosts_33 : decode cX5_lowerCosts 33 = .ok (.iload_n 1, 1) := by decide +kernel
theorem dX5_lowerCosts_34 : decode cX5_lowerCosts 34 = .ok (.aload_n 0, 1) := by decide +kernel
theorem dX5_lowerCosts_35 : decode cX5_lowerCosts 35 = .ok (.iload_n 3, 1) := by decide +kernel
theorem dX5_lowerCosts_36 : decode cX5_lowerCosts 36 = .ok (.aload_n 0, 1) := by decide +kernel
theorem dX5_lowerCosts_37 : decode cX5_lowerCosts 37 = .ok (.getfield 15, 3) := by decide +kernel
theorem dX5_lowerCosts_40 : decode cX5_lowerCosts 40 = .ok (.iload_n 3, 1) := by decide +kernel
theorem dX5_lowerCosts_41 : decode cX5_lowerCosts 41 = .ok (.iload 4, 2) := by decide +kernel
theorem dX5_lowerCosts_43 : decode cX5_lowerCosts 43 = .ok (.invokevirtual 79, 3) := by decide +kernel
theorem dX5_lowerCosts_46 : decode cX5_lowerCosts 46 = .ok (.invokevirtual 84, 3) := by decide +kernel
theorem dX5_lowerCosts_49 : decode cX5_lowerCosts 49 = .ok (.ior, 1) := by decide +kernel
theorem dX5_lowerCosts_50 : decode cX5_lowerCosts 50 = .ok (.istore_n 1, 1) := by decide +kernel
theorem dX5_lowerCosts_51 : decode cX5_lowerCosts 51 = .ok (.iinc 4 1, 3) := by decide +kernel
theorem dX5_lowerCosts_54 : decode cX5_lowerCosts 54 = .ok (.goto (-27), 3) := by decide +kernel
theorem dX5_lowerCosts_57 : decode cX5_lowerCosts 57 = .ok (.iinc 2 1, 3) := by decide +kernel
theorem dX5_lowerCosts_60 : decode cX5_lowerCosts 60 = .ok (.goto (-56), 3) := by decide +kernel
theorem dX5_lowerCosts_63 : decode cX5_lowerCosts 63 = .ok (.iload_n 1, 1) := by decide +kernel
theorem dX5_lowerCosts_64 : decode cX5_lowerCosts 64 = .ok (.ireturn, 1) := by decide +kernel
theorem dX5_lowerCost_0 : decode cX5_lowerCost 0 = .ok (.iload_n 1, 1) := by decide +kernel
theorem dX5_lowerCost_1 : decode cX5_lowerCost 1 = .ok (.ifCond .lt 21, 3) := by decide +kernel
theorem dX5_lowerCost_4 : decode cX5_lowerCost 4 = .ok (.iload_n 1, 1) := by decide +kernel
theorem dX5_lowerCost_5 : decode cX5_lowerCost 5 = .ok (.sipush 600, 3) := by decide +kernel
theorem dX5_lowerCost_8 : decode cX5_lowerCost 8 = .ok (.if_icmp .ge 14, 3) := by decide +kernel
theorem dX5_lowerCost_11 : decode cX5_lowerCost 11 = .ok (.iload_n 2, 1) := by decide +kernel
theorem dX5_lowerCost_12 : decode cX5_lowerCost 12 = .ok (.ifCond .lt 10, 3) := by decide +kernel
theorem dX5_lowerCost_15 : decode cX5_lowerCost 15 = .ok (.iload_n 2, 1) := by decide +kernel
theorem dX5_lowerCost_16 : decode cX5_lowerCost 16 = .ok (.sipush 600, 3) := by decide +kernel
theorem dX5_lowerCost_19 : decode cX5_lowerCost 19 = .ok (.if_icmp .lt 5, 3) := by decide +kernel
theorem dX5_lowerCost_22 : decode cX5_lowerCost 22 = .ok (.iconst 0, 1) := by decide +kernel
theorem dX5_lowerCost_23 : decode cX5_lowerCost 23 = .ok (.ireturn, 1) := by decide +kernel
theorem dX5_lowerCost_24 : decode cX5_lowerCost 24 = .ok (.aload_n 0, 1) := by decide +kernel
theorem dX5_lowerCost_25 : decode cX5_lowerCost 25 = .ok (.getfield 9, 3) := by decide +kernel
theorem dX5_lowerCost_28 : decode cX5_lowerCost 28 = .ok (.iload_n 1, 1) := by decide +kernel
theorem dX5_lowerCost_29 : decode cX5_lowerCost 29 = .ok (.iaload, 1) := by decide +kernel
theorem dX5_lowerCost_30 : decode cX5_lowerCost 30 = .ok (.iload_n 2, 1) := by decide +kernel
theorem dX5_lowerCost_31 : decode cX5_lowerCost 31 = .ok (.invokestatic 88, 3) := by decide +kernel
theorem dX5_lowerCost_34 : decode cX5_lowerCost 34 = .ok (.iadd, 1) := by decide +kernel
theorem dX5_lowerCost_35 : decode cX5_lowerCost 35 = .ok (.istore_n 3, 1) := by decide +kernel
theorem dX5_lowerCost_36 : decode cX5_lowerCost 36 = .ok (.iload_n 3, 1) := by decide +kernel
theorem dX5_lowerCost_37 : decode cX5_lowerCost 37 = .ok (.aload_n 0, 1) := by decide +kernel
theorem dX5_lowerCost_38 : decode cX5_lowerCost 38 = .ok (.getfield 9, 3) := by decide +kernel
theorem dX5_lowerCost_41 : decode cX5_lowerCost 41 = .ok (.iload_n 2, 1) := by decide +kernel
theorem dX5_lowerCost_42 : decode cX5_lowerCost 42 = .ok (.iaload, 1) := by decide +kernel
theorem dX5_lowerCost_43 : decode cX5_lowerCost 43 = .ok (.if_icmp .lt 5, 3) := by decide +kernel
theorem dX5_lowerCost_46 : decode cX5_lowerCost 46 = .ok (.iconst 0, 1) := by decide +kernel
theorem dX5_lowerCost_47 : decode cX5_lowerCost 47 = .ok (.ireturn, 1) := by decide +kernel
theorem dX5_lowerCost_48 : decode cX5_lowerCost 48 = .ok (.aload_n 0, 1) := by decide +kernel
theorem dX5_lowerCost_49 : decode cX5_lowerCost 49 = .ok (.getfield 9, 3) := by decide +kernel
theorem dX5_lowerCost_52 : decode cX5_lowerCost 52 = .ok (.iload_n 2, 1) := by decide +kernel
theorem dX5_lowerCost_53 : decode cX5_lowerCost 53 = .ok (.iload_n 3, 1) := by decide +kernel
theorem dX5_lowerCost_54 : decode cX5_lowerCost 54 = .ok (.iastore, 1) := by decide +kernel
theorem dX5_lowerCost_55 : decode cX5_lowerCost 55 = .ok (.iconst 1, 1) := by decide +kernel
theorem dX5_lowerCost_56 : decode cX5_lowerCost 56 = .ok (.ireturn, 1) := by decide +kernel
theorem dX5_stancesAt_0 : decode cX5_stancesAt 0 = .ok (.aload_n 0, 1) := by decide +kernel
theorem dX5_stancesAt_1 : decode cX5_stancesAt 1 = .ok (.getfield 19, 3) := by decide +kernel
theorem dX5_stancesAt_4 : decode cX5_stancesAt 4 = .ok (.iload_n 1, 1) := by decide +kernel
theorem dX5_stancesAt_5 : decode cX5_stancesAt 5 = .ok (.invokevirtual 55, 3) := by decide +kernel
theorem dX5_stancesAt_8 : decode cX5_stancesAt 8 = .ok (.aload_n 0, 1) := by decide +kernel
theorem dX5_stancesAt_9 : decode cX5_stancesAt 9 = .ok (.getfield 19, 3) := by decide +kernel
theorem dX5_stancesAt_12 : decode cX5_stancesAt 12 = .ok (.aload_n 0, 1) := by decide +kernel
theorem dX5_stancesAt_13 : decode cX5_stancesAt 13 = .ok (.getfield 15, 3) := by decide +kernel
theorem dX5_stancesAt_16 : decode cX5_stancesAt 16 = .ok (.invokevirtual 59, 3) := by decide +kernel
theorem dX5_stancesAt_19 : decode cX5_stancesAt 19 = .ok (.iconst 0, 1) := by decide +kernel
theorem dX5_stancesAt_20 : decode cX5_stancesAt 20 = .ok (.istore_n 3, 1) := by decide +kernel
theorem dX5_stancesAt_21 : decode cX5_stancesAt 21 = .ok (.iconst 0, 1) := by decide +kernel
theorem dX5_stancesAt_22 : decode cX5_stancesAt 22 = .ok (.istore 4, 2) := by decide +kernel
theorem dX5_stancesAt_24 : decode cX5_stancesAt 24 = .ok (.iload 4, 2) := by decide +kernel
theorem dX5_stancesAt_26 : decode cX5_stancesAt 26 = .ok (.aload_n 0, 1) := by decide +kernel
theorem dX5_stancesAt_27 : decode cX5_stancesAt 27 = .ok (.getfield 19, 3) := by decide +kernel
theorem dX5_stancesAt_30 : decode cX5_stancesAt 30 = .ok (.invokevirtual 40, 3) := by decide +kernel
theorem dX5_stancesAt_33 : decode cX5_stancesAt 33 = .ok (.if_icmp .ge 36, 3) := by decide +kernel
theorem dX5_stancesAt_36 : decode cX5_stancesAt 36 = .ok (.iload_n 3, 1) := by decide +kernel
theorem dX5_stancesAt_37 : decode cX5_stancesAt 37 = .ok (.aload_n 0, 1) := by decide +kernel
theorem dX5_stancesAt_38 : decode cX5_stancesAt 38 = .ok (.getfield 19, 3) := by decide +kernel
theorem dX5_stancesAt_41 : decode cX5_stancesAt 41 = .ok (.iload 4, 2) := by decide +kernel
theorem dX5_stancesAt_43 : decode cX5_stancesAt 43 = .ok (.invokevirtual 44, 3) := by decide +kernel
theorem dX5_stancesAt_46 : decode cX5_stancesAt 46 = .ok (.invokestatic 91, 3) := by decide +kernel
theorem dX5_stancesAt_49 : decode cX5_stancesAt 49 = .ok (.iload_n 2, 1) := by decide +kernel
theorem dX5_stancesAt_50 : decode cX5_stancesAt 50 = .ok (.if_icmp .ne 7, 3) := by decide +kernel
theorem dX5_stancesAt_53 : decode cX5_stancesAt 53 = .ok (.iconst 1, 1) := by decide +kernel
theorem dX5_stancesAt_54 : decode cX5_stancesAt 54 = .ok (.goto 4, 3) := by decide +kernel
theorem dX5_stancesAt_57 : decode cX5_stancesAt 57 = .ok (.iconst 0, 1) := by decide +kernel
theorem dX5_stancesAt_58 : decode cX5_stancesAt 58 = .ok (.invokestatic 94, 3) := by decide +kernel
theorem dX5_stancesAt_61 : decode cX5_stancesAt 61 = .ok (.iadd, 1) := by decide +kernel
theorem dX5_stancesAt_62 : decode cX5_stancesAt 62 = .ok (.istore_n 3, 1) := by decide +kernel
theorem dX5_stancesAt_63 : decode cX5_stancesAt 63 = .ok (.iinc 4 1, 3) := by decide +kernel
theorem dX5_stancesAt_66 : decode cX5_stancesAt 66 = .ok (.goto (-42), 3) := by decide +kernel
theorem dX5_stancesAt_69 : decode cX5_stancesAt 69 = .ok (.iload_n 3, 1) := by decide +kernel
theorem dX5_stancesAt_70 : decode cX5_stancesAt 70 = .ok (.ireturn, 1) := by decide +kernel
theorem dX5_cellsReached_0 : decode cX5_cellsReached 0 = .ok (.aload_n 0, 1) := by decide +kernel
theorem dX5_cellsReached_1 : decode cX5_cellsReached 1 = .ok (.getfield 19, 3) := by decide +kernel
theorem dX5_cellsReached_4 : decode cX5_cellsReached 4 = .ok (.iload_n 1, 1) := by decide +kernel
theorem dX5_cellsReached_5 : decode cX5_cellsReached 5 = .ok (.invokevirtual 55, 3) := by decide +kernel
theorem dX5_cellsReached_8 : decode cX5_cellsReached 8 = .ok (.aload_n 0, 1) := by decide +kernel
theorem dX5_cellsReached_9 : decode cX5_cellsReached 9 = .ok (.getfield 19, 3) := by decide +kernel
theorem dX5_cellsReached_12 : decode cX5_cellsReached 12 = .ok (.aload_n 0, 1) := by decide +kernel
theorem dX5_cellsReached_13 : decode cX5_cellsReached 13 = .ok (.getfield 15, 3) := by decide +kernel
theorem dX5_cellsReached_16 : decode cX5_cellsReached 16 = .ok (.invokevirtual 59, 3) := by decide +kernel
theorem dX5_cellsReached_19 : decode cX5_cellsReached 19 = .ok (.iconst 0, 1) := by decide +kernel
theorem dX5_cellsReached_20 : decode cX5_cellsReached 20 = .ok (.istore_n 2, 1) := by decide +kernel
theorem dX5_cellsReached_21 : decode cX5_cellsReached 21 = .ok (.iconst 0, 1) := by decide +kernel
theorem dX5_cellsReached_22 : decode cX5_cellsReached 22 = .ok (.istore_n 3, 1) := by decide +kernel
theorem dX5_cellsReached_23 : decode cX5_cellsReached 23 = .ok (.iload_n 3, 1) := by decide +kernel
theorem dX5_cellsReached_24 : decode cX5_cellsReached 24 = .ok (.aload_n 0, 1) := by decide +kernel
theorem dX5_cellsReached_25 : decode cX5_cellsReached 25 = .ok (.getfield 19, 3) := by decide +kernel
theorem dX5_cellsReached_28 : decode cX5_cellsReached 28 = .ok (.invokevirtual 40, 3) := by decide +kernel
theorem dX5_cellsReached_31 : decode cX5_cellsReached 31 = .ok (.if_icmp .ge 25, 3) := by decide +kernel
theorem dX5_cellsReached_34 : decode cX5_cellsReached 34 = .ok (.iload_n 2, 1) := by decide +kernel
theorem dX5_cellsReached_35 : decode cX5_cellsReached 35 = .ok (.iconst 1, 1) := by decide +kernel
theorem dX5_cellsReached_36 : decode cX5_cellsReached 36 = .ok (.aload_n 0, 1) := by decide +kernel
theorem dX5_cellsReached_37 : decode cX5_cellsReached 37 = .ok (.getfield 19, 3) := by decide +kernel
theorem dX5_cellsReached_40 : decode cX5_cellsReached 40 = .ok (.iload_n 3, 1) := by decide +kernel
theorem dX5_cellsReached_41 : decode cX5_cellsReached 41 = .ok (.invokevirtual 44, 3) := by decide +kernel
theorem dX5_cellsReached_44 : decode cX5_cellsReached 44 = .ok (.invokestatic 91, 3) := by decide +kernel
theorem dX5_cellsReached_47 : decode cX5_cellsReached 47 = .ok (.ishl, 1) := by decide +kernel
theorem dX5_cellsReached_48 : decode cX5_cellsReached 48 = .ok (.ior, 1) := by decide +kernel
theorem dX5_cellsReached_49 : decode cX5_cellsReached 49 = .ok (.istore_n 2, 1) := by decide +kernel
theorem dX5_cellsReached_50 : decode cX5_cellsReached 50 = .ok (.iinc 3 1, 3) := by decide +kernel
theorem dX5_cellsReached_53 : decode cX5_cellsReached 53 = .ok (.goto (-30), 3) := by decide +kernel
theorem dX5_cellsReached_56 : decode cX5_cellsReached 56 = .ok (.iload_n 2, 1) := by decide +kernel
theorem dX5_cellsReached_57 : decode cX5_cellsReached 57 = .ok (.invokestatic 98, 3) := by decide +kernel
theorem dX5_cellsReached_60 : decode cX5_cellsReached 60 = .ok (.ireturn, 1) := by decide +kernel
theorem dX5_endOf_0 : decode cX5_endOf 0 = .ok (.aload_n 0, 1) := by decide +kernel
theorem dX5_endOf_1 : decode cX5_endOf 1 = .ok (.getfield 19, 3) := by decide +kernel
theorem dX5_endOf_4 : decode cX5_endOf 4 = .ok (.iload_n 1, 1) := by decide +kernel
theorem dX5_endOf_5 : decode cX5_endOf 5 = .ok (.invokevirtual 55, 3) := by decide +kernel
theorem dX5_endOf_8 : decode cX5_endOf 8 = .ok (.aload_n 0, 1) := by decide +kernel
theorem dX5_endOf_9 : decode cX5_endOf 9 = .ok (.getfield 19, 3) := by decide +kernel
theorem dX5_endOf_12 : decode cX5_endOf 12 = .ok (.aload_n 0, 1) := by decide +kernel
theorem dX5_endOf_13 : decode cX5_endOf 13 = .ok (.getfield 15, 3) := by decide +kernel
theorem dX5_endOf_16 : decode cX5_endOf 16 = .ok (.invokevirtual 59, 3) := by decide +kernel
theorem dX5_endOf_19 : decode cX5_endOf 19 = .ok (.iconst 0, 1) := by decide +kernel
theorem dX5_endOf_20 : decode cX5_endOf 20 = .ok (.istore 4, 2) := by decide +kernel
theorem dX5_endOf_22 : decode cX5_endOf 22 = .ok (.iload 4, 2) := by decide +kernel
theorem dX5_endOf_24 : decode cX5_endOf 24 = .ok (.aload_n 0, 1) := by decide +kernel
theorem dX5_endOf_25 : decode cX5_endOf 25 = .ok (.getfield 19, 3) := by decide +kernel
theorem dX5_endOf_28 : decode cX5_endOf 28 = .ok (.invokevirtual 40, 3) := by decide +kernel
theorem dX5_endOf_31 : decode cX5_endOf 31 = .ok (.if_icmp .ge 33, 3) := by decide +kernel
theorem dX5_endOf_34 : decode cX5_endOf 34 = .ok (.aload_n 0, 1) := by decide +kernel
theorem dX5_endOf_35 : decode cX5_endOf 35 = .ok (.getfield 19, 3) := by decide +kernel
theorem dX5_endOf_38 : decode cX5_endOf 38 = .ok (.iload 4, 2) := by decide +kernel
theorem dX5_endOf_40 : decode cX5_endOf 40 = .ok (.invokevirtual 44, 3) := by decide +kernel
theorem dX5_endOf_43 : decode cX5_endOf 43 = .ok (.istore 5, 2) := by decide +kernel
theorem dX5_endOf_45 : decode cX5_endOf 45 = .ok (.iload 5, 2) := by decide +kernel
theorem dX5_endOf_47 : decode cX5_endOf 47 = .ok (.iload_n 2, 1) := by decide +kernel
theorem dX5_endOf_48 : decode cX5_endOf 48 = .ok (.iload_n 3, 1) := by decide +kernel
theorem dX5_endOf_49 : decode cX5_endOf 49 = .ok (.invokestatic 47, 3) := by decide +kernel
theorem dX5_endOf_52 : decode cX5_endOf 52 = .ok (.ifCond .eq 6, 3) := by decide +kernel
theorem dX5_endOf_55 : decode cX5_endOf 55 = .ok (.iload 5, 2) := by decide +kernel
theorem dX5_endOf_57 : decode cX5_endOf 57 = .ok (.ireturn, 1) := by decide +kernel
theorem dX5_endOf_58 : decode cX5_endOf 58 = .ok (.iinc 4 1, 3) := by decide +kernel
theorem dX5_endOf_61 : decode cX5_endOf 61 = .ok (.goto (-39), 3) := by decide +kernel
theorem dX5_endOf_64 : decode cX5_endOf 64 = .ok (.iconst (-1), 1) := by decide +kernel
theorem dX5_endOf_65 : decode cX5_endOf 65 = .ok (.ireturn, 1) := by decide +kernel
theorem dX5_meets_0 : decode cX5_meets 0 = .ok (.iload_n 0, 1) := by decide +kernel
theorem dX5_meets_1 : decode cX5_meets 1 = .ok (.invokestatic 91, 3) := by decide +kernel
theorem dX5_meets_4 : decode cX5_meets 4 = .ok (.iload_n 1, 1) := by decide +kernel
theorem dX5_meets_5 : decode cX5_meets 5 = .ok (.if_icmp .ne 18, 3) := by decide +kernel
theorem dX5_meets_8 : decode cX5_meets 8 = .ok (.iload_n 0, 1) := by decide +kernel
theorem dX5_meets_9 : decode cX5_meets 9 = .ok (.invokestatic 103, 3) := by decide +kernel
theorem dX5_meets_12 : decode cX5_meets 12 = .ok (.iload_n 2, 1) := by decide +kernel
theorem dX5_meets_13 : decode cX5_meets 13 = .ok (.invokestatic 106, 3) := by decide +kernel
theorem dX5_meets_16 : decode cX5_meets 16 = .ok (.ifCond .eq 7, 3) := by decide +kernel
theorem dX5_meets_19 : decode cX5_meets 19 = .ok (.iconst 1, 1) := by decide +kernel
theorem dX5_meets_20 : decode cX5_meets 20 = .ok (.goto 4, 3) := by decide +kernel
theorem dX5_meets_23 : decode cX5_meets 23 = .ok (.iconst 0, 1) := by decide +kernel
theorem dX5_meets_24 : decode cX5_meets 24 = .ok (.ireturn, 1) := by decide +kernel
theorem dX6_init_0 : decode cX6_init 0 = .ok (.aload_n 0, 1) := by decide +kernel
theorem dX6_init_1 : decode cX6_init 1 = .ok (.invokespecial 1, 3) := by decide +kernel
theorem dX6_init_4 : decode cX6_init 4 = .ok (.return_, 1) := by decide +kernel
theorem dX7_init_0 : decode cX7_init 0 = .ok (.aload_n 0, 1) := by decide +kernel
theorem dX7_init_1 : decode cX7_init 1 = .ok (.invokespecial 3, 3) := by decide +kernel
theorem dX7_init_4 : decode cX7_init 4 = .ok (.aload_n 0, 1) := by decide +kernel
theorem dX7_init_5 : decode cX7_init 5 = .ok (.bipush 20, 2) := by decide +kernel
theorem dX7_init_7 : decode cX7_init 7 = .ok (.newarray .int, 2) := by decide +kernel
theorem dX7_init_9 : decode cX7_init 9 = .ok (.putfield 9, 3) := by decide +kernel
theorem dX7_init_12 : decode cX7_init 12 = .ok (.aload_n 0, 1) := by decide +kernel
theorem dX7_init_13 : decode cX7_init 13 = .ok (.bipush 20, 2) := by decide +kernel
theorem dX7_init_15 : decode cX7_init 15 = .ok (.newarray .int, 2) := by decide +kernel
theorem dX7_init_17 : decode cX7_init 17 = .ok (.putfield 15, 3) := by decide +kernel
theorem dX7_init_20 : decode cX7_init 20 = .ok (.aload_n 0, 1) := by decide +kernel
theorem dX7_init_21 : decode cX7_init 21 = .ok (.bipush 28, 2) := by decide +kernel
theorem dX7_init_23 : decode cX7_init 23 = .ok (.newarray .int, 2) := by decide +kernel
theorem dX7_init_25 : decode cX7_init 25 = .ok (.putfield 18, 3) := by decide +kernel
theorem dX7_init_28 : decode cX7_init 28 = .ok (.aload_n 0, 1) := by decide +kernel
theorem dX7_init_29 : decode cX7_init 29 = .ok (.aload_n 1, 1) := by decide +kernel
theorem dX7_init_30 : decode cX7_init 30 = .ok (.putfield 21, 3) := by decide +kernel
theorem dX7_init_33 : decode cX7_init 33 = .ok (.aload_n 0, 1) := by decide +kernel
theorem dX7_init_34 : decode cX7_init 34 = .ok (.aload_n 2, 1) := by decide +kernel
theorem dX7_init_35 : decode cX7_init 35 = .ok (.putfield 25, 3) := by decide +kernel
theorem dX7_init_38 : decode cX7_init 38 = .ok (.return_, 1) := by decide +kernel
theorem dX7_length_0 : decode cX7_length 0 = .ok (.aload_n 0, 1) := by decide +kernel
theorem dX7_length_1 : decode cX7_length 1 = .ok (.getfield 29, 3) := by decide +kernel
theorem dX7_length_4 : decode cX7_length 4 = .ok (.ireturn, 1) := by decide +kernel
theorem dX7_append_0 : decode cX7_append 0 = .ok (.aload_n 0, 1) := by decide +kernel
theorem dX7_append_1 : decode cX7_append 1 = .ok (.getfield 29, 3) := by decide +kernel
theorem dX7_append_4 : decode cX7_append 4 = .ok (.bipush 20, 2) := by decide +kernel
theorem dX7_append_6 : decode cX7_append 6 = .ok (.if_icmp .ge 33, 3) := by decide +kernel
theorem dX7_append_9 : decode cX7_append 9 = .ok (.aload_n 0, 1) := by decide +kernel
theorem dX7_append_10 : decode cX7_append 10 = .ok (.getfield 9, 3) := by decide +kernel
theorem dX7_append_13 : decode cX7_append 13 = .ok (.aload_n 0, 1) := by decide +kernel
theorem dX7_append_14 : decode cX7_append 14 = .ok (.getfield 29, 3) := by decide +kernel
theorem dX7_append_17 : decode cX7_append 17 = .ok (.iload_n 1, 1) := by decide +kernel
theorem dX7_append_18 : decode cX7_append 18 = .ok (.iastore, 1) := by decide +kernel
theorem dX7_append_19 : decode cX7_append 19 = .ok (.aload_n 0, 1) := by decide +kernel
theorem dX7_append_20 : decode cX7_append 20 = .ok (.getfield 15, 3) := by decide +kernel
theorem dX7_append_23 : decode cX7_append 23 = .ok (.aload_n 0, 1) := by decide +kernel
theorem dX7_append_24 : decode cX7_append 24 = .ok (.getfield 29, 3) := by decide +kernel
theorem dX7_append_27 : decode cX7_append 27 = .ok (.iload_n 2, 1) := by decide +kernel
theorem dX7_append_28 : decode cX7_append 28 = .ok (.iastore, 1) := by decide +kernel
theorem dX7_append_29 : decode cX7_append 29 = .ok (.aload_n 0, 1) := by decide +kernel
theorem dX7_append_30 : decode cX7_append 30 = .ok (.dup, 1) := by decide +kernel
theorem dX7_append_31 : decode cX7_append 31 = .ok (.getfield 29, 3) := by decide +kernel
theorem dX7_append_34 : decode cX7_append 34 = .ok (.iconst 1, 1) := by decide +kernel
theorem dX7_append_35 : decode cX7_append 35 = .ok (.iadd, 1) := by decide +kernel
theorem dX7_append_36 : decode cX7_append 36 = .ok (.putfield 29, 3) := by decide +kernel
theorem dX7_append_39 : decode cX7_append 39 = .ok (.aload_n 0, 1) := by decide +kernel
theorem dX7_append_40 : decode cX7_append 40 = .ok (.getfield 29, 3) := by decide +kernel
theorem dX7_append_43 : decode cX7_append 43 = .ok (.ireturn, 1) := by decide +kernel
theorem dX7_drop_0 : decode cX7_drop 0 = .ok (.aload_n 0, 1) := by decide +kernel
theorem dX7_drop_1 : decode cX7_drop 1 = .ok (.getfield 29, 3) := by decide +kernel
theorem dX7_drop_4 : decode cX7_drop 4 = .ok (.istore_n 1, 1) := by decide +kernel
theorem dX7_drop_5 : decode cX7_drop 5 = .ok (.aload_n 0, 1) := by decide +kernel
theorem dX7_drop_6 : decode cX7_drop 6 = .ok (.iconst 0, 1) := by decide +kernel
theorem dX7_drop_7 : decode cX7_drop 7 = .ok (.putfield 29, 3) := by decide +kernel
theorem dX7_drop_10 : decode cX7_drop 10 = .ok (.iload_n 1, 1) := by decide +kernel
theorem dX7_drop_11 : decode cX7_drop 11 = .ok (.ireturn, 1) := by decide +kernel
theorem dX7_fitting_0 : decode cX7_fitting 0 = .ok (.iconst 0, 1) := by decide +kernel
theorem dX7_fitting_1 : decode cX7_fitting 1 = .ok (.istore_n 1, 1) := by decide +kernel
theorem dX7_fitting_2 : decode cX7_fitting 2 = .ok (.iconst 0, 1) := by decide +kernel
theorem dX7_fitting_3 : decode cX7_fitting 3 = .ok (.istore_n 2, 1) := by decide +kernel
theorem dX7_fitting_4 : decode cX7_fitting 4 = .ok (.iload_n 2, 1) := by decide +kernel
theorem dX7_fitting_5 : decode cX7_fitting 5 = .ok (.aload_n 0, 1) := by decide +kernel
theorem dX7_fitting_6 : decode cX7_fitting 6 = .ok (.invokevirtual 33, 3) := by decide +kernel
theorem dX7_fitting_9 : decode cX7_fitting 9 = .ok (.if_icmp .ge 29, 3) := by decide +kernel
theorem dX7_fitting_12 : decode cX7_fitting 12 = .ok (.iload_n 1, 1) := by decide +kernel
theorem dX7_fitting_13 : decode cX7_fitting 13 = .ok (.aload_n 0, 1) := by decide +kernel
theorem dX7_fitting_14 : decode cX7_fitting 14 = .ok (.iload_n 2, 1) := by decide +kernel
theorem dX7_fitting_15 : decode cX7_fitting 15 = .ok (.invokevirtual 37, 3) := by decide +kernel
theorem dX7_fitting_18 : decode cX7_fitting 18 = .ok (.iconst (-1), 1) := by decide +kernel
theorem dX7_fitting_19 : decode cX7_fitting 19 = .ok (.if_icmp .eq 7, 3) := by decide +kernel
theorem dX7_fitting_22 : decode cX7_fitting 22 = .ok (.iconst 1, 1) := by decide +kernel
theorem dX7_fitting_23 : decode cX7_fitting 23 = .ok (.goto 4, 3) := by decide +kernel
theorem dX7_fitting_26 : decode cX7_fitting 26 = .ok (.iconst 0, 1) := by decide +kernel
theorem dX7_fitting_27 : decode cX7_fitting 27 = .ok (.invokestatic 41, 3) := by decide +kernel
theorem dX7_fitting_30 : decode cX7_fitting 30 = .ok (.iadd, 1) := by decide +kernel
theorem dX7_fitting_31 : decode cX7_fitting 31 = .ok (.istore_n 1, 1) := by decide +kernel
theorem dX7_fitting_32 : decode cX7_fitting 32 = .ok (.iinc 2 1, 3) := by decide +kernel
theorem dX7_fitting_35 : decode cX7_fitting 35 = .ok (.goto (-31), 3) := by decide +kernel
theorem dX7_fitting_38 : decode cX7_fitting 38 = .ok (.iload_n 1, 1) := by decide +kernel
theorem dX7_fitting_39 : decode cX7_fitting 39 = .ok (.ireturn, 1) := by decide +kernel
theorem dX7_fittingAt_0 : decode cX7_fittingAt 0 = .ok (.iconst 0, 1) := by decide +kernel
theorem dX7_fittingAt_1 : decode cX7_fittingAt 1 = .ok (.istore_n 2, 1) := by decide +kernel
theorem dX7_fittingAt_2 : decode cX7_fittingAt 2 = .ok (.iconst 0, 1) := by decide +kernel
theorem dX7_fittingAt_3 : decode cX7_fittingAt 3 = .ok (.istore_n 3, 1) := by decide +kernel
theorem dX7_fittingAt_4 : decode cX7_fittingAt 4 = .ok (.iload_n 3, 1) := by decide +kernel
theorem dX7_fittingAt_5 : decode cX7_fittingAt 5 = .ok (.aload_n 0, 1) := by decide +kernel
theorem dX7_fittingAt_6 : decode cX7_fittingAt 6 = .ok (.invokevirtual 33, 3) := by decide +kernel
theorem dX7_fittingAt_9 : decode cX7_fittingAt 9 = .ok (.if_icmp .ge 31, 3) := by decide +kernel
theorem dX7_fittingAt_12 : decode cX7_fittingAt 12 = .ok (.aload_n 0, 1) := by decide +kernel
theorem dX7_fittingAt_13 : decode cX7_fittingAt 13 = .ok (.iload_n 3, 1) := by decide +kernel
theorem dX7_fittingAt_14 : decode cX7_fittingAt 14 = .ok (.invokevirtual 37, 3) := by decide +kernel
theorem dX7_fittingAt_17 : decode cX7_fittingAt 17 = .ok (.iconst (-1), 1) := by decide +kernel
theorem dX7_fittingAt_18 : decode cX7_fittingAt 18 = .ok (.if_icmp .ne 6, 3) := by decide +kernel
theorem dX7_fittingAt_21 : decode cX7_fittingAt 21 = .ok (.goto 13, 3) := by decide +kernel
theorem dX7_fittingAt_24 : decode cX7_fittingAt 24 = .ok (.iload_n 2, 1) := by decide +kernel
theorem dX7_fittingAt_25 : decode cX7_fittingAt 25 = .ok (.iload_n 1, 1) := by decide +kernel
theorem dX7_fittingAt_26 : decode cX7_fittingAt 26 = .ok (.if_icmp .ne 5, 3) := by decide +kernel
theorem dX7_fittingAt_29 : decode cX7_fittingAt 29 = .ok (.iload_n 3, 1) := by decide +kernel
theorem dX7_fittingAt_30 : decode cX7_fittingAt 30 = .ok (.ireturn, 1) := by decide +kernel
theorem dX7_fittingAt_31 : decode cX7_fittingAt 31 = .ok (.iinc 2 1, 3) := by decide +kernel
theorem dX7_fittingAt_34 : decode cX7_fittingAt 34 = .ok (.iinc 3 1, 3) := by decide +kernel
theorem dX7_fittingAt_37 : decode cX7_fittingAt 37 = .ok (.goto (-33), 3) := by decide +kernel
theorem dX7_fittingAt_40 : decode cX7_fittingAt 40 = .ok (.iconst (-1), 1) := by decide +kernel
theorem dX7_fittingAt_41 : decode cX7_fittingAt 41 = .ok (.ireturn, 1) := by decide +kernel
theorem dX7_agreed_0 : decode cX7_agreed 0 = .ok (.bipush (-9), 2) := by decide +kernel
theorem dX7_agreed_2 : decode cX7_agreed 2 = .ok (.istore_n 2, 1) := by decide +kernel
theorem dX7_agreed_3 : decode cX7_agreed 3 = .ok (.iconst 0, 1) := by decide +kernel
theorem dX7_agreed_4 : decode cX7_agreed 4 = .ok (.istore_n 3, 1) := by decide +kernel
theorem dX7_agreed_5 : decode cX7_agreed 5 = .ok (.iload_n 3, 1) := by decide +kernel
theorem dX7_agreed_6 : decode cX7_agreed 6 = .ok (.aload_n 0, 1) := by decide +kernel
theorem dX7_agreed_7 : decode cX7_agreed 7 = .ok (.invokevirtual 33, 3) := by decide +kernel
theorem dX7_agreed_10 : decode cX7_agreed 10 = .ok (.if_icmp .ge 52, 3) := by decide +kernel
theorem dX7_agreed_13 : decode cX7_agreed 13 = .ok (.aload_n 0, 1) := by decide +kernel
theorem dX7_agreed_14 : decode cX7_agreed 14 = .ok (.iload_n 3, 1) := by decide +kernel
theorem dX7_agreed_15 : decode cX7_agreed 15 = .ok (.invokevirtual 37, 3) := by decide +kernel
theorem dX7_agreed_18 : decode cX7_agreed 18 = .ok (.istore 4, 2) := by decide +kernel
theorem dX7_agreed_20 : decode cX7_agreed 20 = .ok (.iload 4, 2) := by decide +kernel
theorem dX7_agreed_22 : decode cX7_agreed 22 = .ok (.iconst (-1), 1) := by decide +kernel
theorem dX7_agreed_23 : decode cX7_agreed 23 = .ok (.if_icmp .ne 6, 3) := by decide +kernel
theorem dX7_agreed_26 : decode cX7_agreed 26 = .ok (.goto 30, 3) := by decide +kernel
theorem dX7_agreed_29 : decode cX7_agreed 29 = .ok (.iload_n 3, 1) := by decide +kernel
theorem dX7_agreed_30 : decode cX7_agreed 30 = .ok (.iload 4, 2) := by decide +kernel
theorem dX7_agreed_32 : decode cX7_agreed 32 = .ok (.iload_n 1, 1) := by decide +kernel
theorem dX7_agreed_33 : decode cX7_agreed 33 = .ok (.invokestatic 45, 3) := by decide +kernel
theorem dX7_agreed_36 : decode cX7_agreed 36 = .ok (.istore 5, 2) := by decide +kernel
theorem dX7_agreed_38 : decode cX7_agreed 38 = .ok (.iload_n 2, 1) := by decide +kernel
theorem dX7_agreed_39 : decode cX7_agreed 39 = .ok (.bipush (-9), 2) := by decide +kernel
theorem dX7_agreed_41 : decode cX7_agreed 41 = .ok (.if_icmp .eq 12, 3) := by decide +kernel
theorem dX7_agreed_44 : decode cX7_agreed 44 = .ok (.iload_n 2, 1) := by decide +kernel
theorem dX7_agreed_45 : decode cX7_agreed 45 = .ok (.iload 5, 2) := by decide +kernel
theorem dX7_agreed_47 : decode cX7_agreed 47 = .ok (.if_icmp .eq 6, 3) := by decide +kernel
theorem dX7_agreed_50 : decode cX7_agreed 50 = .ok (.bipush (-9), 2) := by decide +kernel
theorem dX7_agreed_52 : decode cX7_agreed 52 = .ok (.ireturn, 1) := by decide +kernel
theorem dX7_agreed_53 : decode cX7_agreed 53 = .ok (.iload 5, 2) := by decide +kernel
theorem dX7_agreed_55 : decode cX7_agreed 55 = .ok (.istore_n 2, 1) := by decide +kernel
theorem dX7_agreed_56 : decode cX7_agreed 56 = .ok (.iinc 3 1, 3) := by decide +kernel
theorem dX7_agreed_59 : decode cX7_agreed 59 = .ok (.goto (-54), 3) := by decide +kernel
theorem dX7_agreed_62 : decode cX7_agreed 62 = .ok (.iload_n 2, 1) := by decide +kernel
theorem dX7_agreed_63 : decode cX7_agreed 63 = .ok (.ireturn, 1) := by decide +kernel
theorem dX7_toldOf_0 : decode cX7_toldOf 0 = .ok (.iload_n 2, 1) := by decide +kernel
theorem dX7_toldOf_1 : decode cX7_toldOf 1 = .ok (.ifCond .ne 8, 3) := by decide +kernel
theorem dX7_toldOf_4 : decode cX7_toldOf 4 = .ok (.iload_n 1, 1) := by decide +kernel
theorem dX7_toldOf_5 : decode cX7_toldOf 5 = .ok (.invokestatic 49, 3) := by decide +kernel
theorem dX7_toldOf_8 : decode cX7_toldOf 8 = .ok (.ireturn, 1) := by decide +kernel
theorem dX7_toldOf_9 : decode cX7_toldOf 9 = .ok (.iload_n 2, 1) := by decide +kernel
theorem dX7_toldOf_10 : decode cX7_toldOf 10 = .ok (.iconst 1, 1) := by decide +kernel
theorem dX7_toldOf_11 : decode cX7_toldOf 11 = .ok (.if_icmp .ne 13, 3) := by decide +kernel
theorem dX7_toldOf_14 : decode cX7_toldOf 14 = .ok (.iload_n 1, 1) := by decide +kernel
theorem dX7_toldOf_15 : decode cX7_toldOf 15 = .ok (.invokestatic 54, 3) := by decide +kernel
theorem dX7_toldOf_18 : decode cX7_toldOf 18 = .ok (.invokestatic 57, 3) := by decide +kernel
theorem dX7_toldOf_21 : decode cX7_toldOf 21 = .ok (.goto 7, 3) := by decide +kernel
theorem dX7_toldOf_24 : decode cX7_toldOf 24 = .ok (.iload_n 0, 1) := by decide +kernel
theorem dX7_toldOf_25 : decode cX7_toldOf 25 = .ok (.invokestatic 49, 3) := by decide +kernel
theorem dX7_toldOf_28 : decode cX7_toldOf 28 = .ok (.ireturn, 1) := by decide +kernel
theorem dX7_tellingWay_0 : decode cX7_tellingWay 0 = .ok (.aload_n 0, 1) := by decide +kernel
theorem dX7_tellingWay_1 : decode cX7_tellingWay 1 = .ok (.getfield 18, 3) := by decide +kernel
theorem dX7_tellingWay_4 : decode cX7_tellingWay 4 = .ok (.iconst 0, 1) := by decide +kernel
theorem dX7_tellingWay_5 : decode cX7_tellingWay 5 = .ok (.invokestatic 62, 3) := by decide +kernel
theorem dX7_tellingWay_8 : decode cX7_tellingWay 8 = .ok (.iconst 0, 1) := by decide +kernel
theorem dX7_tellingWay_9 : decode cX7_tellingWay 9 = .ok (.istore_n 1, 1) := by decide +kernel
theorem dX7_tellingWay_10 : decode cX7_tellingWay 10 = .ok (.bipush 15, 2) := by decide +kernel
theorem dX7_tellingWay_12 : decode cX7_tellingWay 12 = .ok (.istore_n 2, 1) := by decide +kernel
theorem dX7_tellingWay_13 : decode cX7_tellingWay 13 = .ok (.iconst 0, 1) := by decide +kernel
theorem dX7_tellingWay_14 : decode cX7_tellingWay 14 = .ok (.istore_n 3, 1) := by decide +kernel
theorem dX7_tellingWay_15 : decode cX7_tellingWay 15 = .ok (.iload_n 3, 1) := by decide +kernel
theorem dX7_tellingWay_16 : decode cX7_tellingWay 16 = .ok (.aload_n 0, 1) := by decide +kernel
theorem dX7_tellingWay_17 : decode cX7_tellingWay 17 = .ok (.invokevirtual 33, 3) := by decide +kernel
theorem dX7_tellingWay_20 : decode cX7_tellingWay 20 = .ok (.if_icmp .ge 34, 3) := by decide +kernel
theorem dX7_tellingWay_23 : decode cX7_tellingWay 23 = .ok (.aload_n 0, 1) := by decide +kernel
theorem dX7_tellingWay_24 : decode cX7_tellingWay 24 = .ok (.iload_n 3, 1) := by decide +kernel
theorem dX7_tellingWay_25 : decode cX7_tellingWay 25 = .ok (.invokevirtual 37, 3) := by decide +kernel
theorem dX7_tellingWay_28 : decode cX7_tellingWay 28 = .ok (.istore 4, 2) := by decide +kernel
theorem dX7_tellingWay_30 : decode cX7_tellingWay 30 = .ok (.iload 4, 2) := by decide +kernel
theorem dX7_tellingWay_32 : decode cX7_tellingWay 32 = .ok (.iconst (-1), 1) := by decide +kernel
theorem dX7_tellingWay_33 : decode cX7_tellingWay 33 = .ok (.if_icmp .eq 15, 3) := by decide +kernel
theorem dX7_tellingWay_36 : decode cX7_tellingWay 36 = .ok (.iinc 1 1, 3) := by decide +kernel
theorem dX7_tellingWay_39 : decode cX7_tellingWay 39 = .ok (.iload_n 2, 1) := by decide +kernel
theorem dX7_tellingWay_40 : decode cX7_tellingWay 40 = .ok (.aload_n 0, 1) := by decide +kernel
theorem dX7_tellingWay_41 : decode cX7_tellingWay 41 = .ok (.iload 4, 2) := by decide +kernel
theorem dX7_tellingWay_43 : decode cX7_tellingWay 43 = .ok (.invokevirtual 68, 3) := by decide +kernel
theorem dX7_tellingWay_46 : decode cX7_tellingWay 46 = .ok (.iand, 1) := by decide +kernel
theorem dX7_tellingWay_47 : decode cX7_tellingWay 47 = .ok (.istore_n 2, 1) := by decide +kernel
theorem dX7_tellingWay_48 : decode cX7_tellingWay 48 = .ok (.iinc 3 1, 3) := by decide +kernel
theorem dX7_tellingWay_51 : decode cX7_tellingWay 51 = .ok (.goto (-36), 3) := by decide +kernel
theorem dX7_tellingWay_54 : decode cX7_tellingWay 54 = .ok (.iload_n 1, 1) := by decide +kernel
theorem dX7_tellingWay_55 : decode cX7_tellingWay 55 = .ok (.ifCond .ne 8, 3) := by decide +kernel
theorem dX7_tellingWay_58 : decode cX7_tellingWay 58 = .ok (.bipush (-9), 2) := by decide +kernel
theorem dX7_tellingWay_60 : decode cX7_tellingWay 60 = .ok (.goto 8, 3) := by decide +kernel
theorem dX7_tellingWay_63 : decode cX7_tellingWay 63 = .ok (.aload_n 0, 1) := by decide +kernel
theorem dX7_tellingWay_64 : decode cX7_tellingWay 64 = .ok (.iload_n 2, 1) := by decide +kernel
theorem dX7_tellingWay_65 : decode cX7_tellingWay 65 = .ok (.invokevirtual 71, 3) := by decide +kernel
theorem dX7_tellingWay_68 : decode cX7_tellingWay 68 = .ok (.ireturn, 1) := by decide +kernel
theorem dX7_tallyFrom_0 : decode cX7_tallyFrom 0 = .ok (.iconst 0, 1) := by decide +kernel
theorem dX7_tallyFrom_1 : decode cX7_tallyFrom 1 = .ok (.istore_n 2, 1) := by decide +kernel
theorem dX7_tallyFrom_2 : decode cX7_tallyFrom 2 = .ok (.iconst 0, 1) := by decide +kernel
theorem dX7_tallyFrom_3 : decode cX7_tallyFrom 3 = .ok (.istore_n 3, 1) := by decide +kernel
theorem dX7_tallyFrom_4 : decode cX7_tallyFrom 4 = .ok (.iload_n 3, 1) := by decide +kernel
theorem dX7_tallyFrom_5 : decode cX7_tallyFrom 5 = .ok (.iconst 4, 1) := by decide +kernel
theorem dX7_tallyFrom_6 : decode cX7_tallyFrom 6 = .ok (.if_icmp .ge 51, 3) := by decide +kernel
theorem dX7_tallyFrom_9 : decode cX7_tallyFrom 9 = .ok (.aload_n 0, 1) := by decide +kernel
theorem dX7_tallyFrom_10 : decode cX7_tallyFrom 10 = .ok (.getfield 25, 3) := by decide +kernel
theorem dX7_tallyFrom_13 : decode cX7_tallyFrom 13 = .ok (.iload_n 1, 1) := by decide +kernel
theorem dX7_tallyFrom_14 : decode cX7_tallyFrom 14 = .ok (.iload_n 3, 1) := by decide +kernel
theorem dX7_tallyFrom_15 : decode cX7_tallyFrom 15 = .ok (.invokevirtual 74, 3) := by decide +kernel
theorem dX7_tallyFrom_18 : decode cX7_tallyFrom 18 = .ok (.istore 4, 2) := by decide +kernel
theorem dX7_tallyFrom_20 : decode cX7_tallyFrom 20 = .ok (.iload 4, 2) := by decide +kernel
theorem dX7_tallyFrom_22 : decode cX7_tallyFrom 22 = .ok (.iconst (-1), 1) := by decide +kernel
theorem dX7_tallyFrom_23 : decode cX7_tallyFrom 23 = .ok (.if_icmp .eq 28, 3) := by decide +kernel
theorem dX7_tallyFrom_26 : decode cX7_tallyFrom 26 = .ok (.iload_n 2, 1) := by decide +kernel
theorem dX7_tallyFrom_27 : decode cX7_tallyFrom 27 = .ok (.iconst 1, 1) := by decide +kernel
theorem dX7_tallyFrom_28 : decode cX7_tallyFrom 28 = .ok (.iload_n 3, 1) := by decide +kernel
theorem dX7_tallyFrom_29 : decode cX7_tallyFrom 29 = .ok (.ishl, 1) := by decide +kernel
theorem dX7_tallyFrom_30 : decode cX7_tallyFrom 30 = .ok (.ior, 1) := by decide +kernel
theorem dX7_tallyFrom_31 : decode cX7_tallyFrom 31 = .ok (.istore_n 2, 1) := by decide +kernel
theorem dX7_tallyFrom_32 : decode cX7_tallyFrom 32 = .ok (.aload_n 0, 1) := by decide +kernel
theorem dX7_tallyFrom_33 : decode cX7_tallyFrom 33 = .ok (.getfield 18, 3) := by decide +kernel
theorem dX7_tallyFrom_36 : decode cX7_tallyFrom 36 = .ok (.iload_n 3, 1) := by decide +kernel
theorem dX7_tallyFrom_37 : decode cX7_tallyFrom 37 = .ok (.bipush 7, 2) := by decide +kernel
theorem dX7_tallyFrom_39 : decode cX7_tallyFrom 39 = .ok (.imul, 1) := by decide +kernel
theorem dX7_tallyFrom_40 : decode cX7_tallyFrom 40 = .ok (.iload 4, 2) := by decide +kernel
theorem dX7_tallyFrom_42 : decode cX7_tallyFrom 42 = .ok (.invokestatic 78, 3) := by decide +kernel
theorem dX7_tallyFrom_45 : decode cX7_tallyFrom 45 = .ok (.iadd, 1) := by decide +kernel
theorem dX7_tallyFrom_46 : decode cX7_tallyFrom 46 = .ok (.dup2, 1) := by decide +kernel
theorem dX7_tallyFrom_47 : decode cX7_tallyFrom 47 = .ok (.iaload, 1) := by decide +kernel
theorem dX7_tallyFrom_48 : decode cX7_tallyFrom 48 = .ok (.iconst 1, 1) := by decide +kernel
theorem dX7_tallyFrom_49 : decode cX7_tallyFrom 49 = .ok (.iadd, 1) := by decide +kernel
theorem dX7_tallyFrom_50 : decode cX7_tallyFrom 50 = .ok (.iastore, 1) := by decide +kernel
theorem dX7_tallyFrom_51 : decode cX7_tallyFrom 51 = .ok (.iinc 3 1, 3) := by decide +kernel
theorem dX7_tallyFrom_54 : decode cX7_tallyFrom 54 = .ok (.goto (-50), 3) := by decide +kernel
theorem dX7_tallyFrom_57 : decode cX7_tallyFrom 57 = .ok (.iload_n 2, 1) := by decide +kernel
theorem dX7_tallyFrom_58 : decode cX7_tallyFrom 58 = .ok (.ireturn, 1) := by decide +kernel
theorem dX7_leastTallied_0 : decode cX7_leastTallied 0 = .ok (.bipush (-9), 2) := by decide +kernel
theorem dX7_leastTallied_2 : decode cX7_leastTallied 2 = .ok (.istore_n 2, 1) := by decide +kernel
theorem dX7_leastTallied_3 : decode cX7_leastTallied 3 = .ok (.iconst 0, 1) := by decide +kernel
theorem dX7_leastTallied_4 : decode cX7_leastTallied 4 = .ok (.istore_n 3, 1) := by decide +kernel
theorem dX7_leastTallied_5 : decode cX7_leastTallied 5 = .ok (.iconst 0, 1) := by decide +kernel
theorem dX7_leastTallied_6 : decode cX7_leastTallied 6 = .ok (.istore 4, 2) := by decide +kernel
theorem dX7_leastTallied_8 : decode cX7_leastTallied 8 = .ok (.iload 4, 2) := by decide +kernel
theorem dX7_leastTallied_10 : decode cX7_leastTallied 10 = .ok (.iconst 4, 1) := by decide +kernel
theorem dX7_leastTallied_11 : decode cX7_leastTallied 11 = .ok (.if_icmp .ge 47, 3) := by decide +kernel
theorem dX7_leastTallied_14 : decode cX7_leastTallied 14 = .ok (.iload_n 1, 1) := by decide +kernel
theorem dX7_leastTallied_15 : decode cX7_leastTallied 15 = .ok (.iload 4, 2) := by decide +kernel
theorem dX7_leastTallied_17 : decode cX7_leastTallied 17 = .ok (.ishr, 1) := by decide +kernel
theorem dX7_leastTallied_18 : decode cX7_leastTallied 18 = .ok (.iconst 1, 1) := by decide +kernel
theorem dX7_leastTallied_19 : decode cX7_leastTallied 19 = .ok (.iand, 1) := by decide +kernel
theorem dX7_leastTallied_20 : decode cX7_leastTallied 20 = .ok (.ifCond .ne 6, 3) := by decide +kernel
theorem dX7_leastTallied_23 : decode cX7_leastTallied 23 = .ok (.goto 29, 3) := by decide +kernel
theorem dX7_leastTallied_26 : decode cX7_leastTallied 26 = .ok (.aload_n 0, 1) := by decide +kernel
theorem dX7_leastTallied_27 : decode cX7_leastTallied 27 = .ok (.iload 4, 2) := by decide +kernel
theorem dX7_leastTallied_29 : decode cX7_leastTallied 29 = .ok (.invokevirtual 81, 3) := by decide +kernel
theorem dX7_leastTallied_32 : decode cX7_leastTallied 32 = .ok (.istore 5, 2) := by decide +kernel
theorem dX7_leastTallied_34 : decode cX7_leastTallied 34 = .ok (.iload_n 2, 1) := by decide +kernel
theorem dX7_leastTallied_35 : decode cX7_leastTallied 35 = .ok (.bipush (-9), 2) := by decide +kernel
theorem dX7_leastTallied_37 : decode cX7_leastTallied 37 = .ok (.if_icmp .eq 9, 3) := by decide +kernel
theorem dX7_leastTallied_40 : decode cX7_leastTallied 40 = .ok (.iload 5, 2) := by decide +kernel
theorem dX7_leastTallied_42 : decode cX7_leastTallied 42 = .ok (.iload_n 3, 1) := by decide +kernel
theorem dX7_leastTallied_43 : decode cX7_leastTallied 43 = .ok (.if_icmp .ge 9, 3) := by decide +kernel
theorem dX7_leastTallied_46 : decode cX7_leastTallied 46 = .ok (.iload 4, 2) := by decide +kernel
theorem dX7_leastTallied_48 : decode cX7_leastTallied 48 = .ok (.istore_n 2, 1) := by decide +kernel
theorem dX7_leastTallied_49 : decode cX7_leastTallied 49 = .ok (.iload 5, 2) := by decide +kernel
theorem dX7_leastTallied_51 : decode cX7_leastTallied 51 = .ok (.istore_n 3, 1) := by decide +kernel
theorem dX7_leastTallied_52 : decode cX7_leastTallied 52 = .ok (.iinc 4 1, 3) := by decide +kernel
theorem dX7_leastTallied_55 : decode cX7_leastTallied 55 = .ok (.goto (-47), 3) := by decide +kernel
theorem dX7_leastTallied_58 : decode cX7_leastTallied 58 = .ok (.iload_n 2, 1) := by decide +kernel
theorem dX7_leastTallied_59 : decode cX7_leastTallied 59 = .ok (.ireturn, 1) := by decide +kernel
theorem dX7_mostTallied_0 : decode cX7_mostTallied 0 = .ok (.iconst 0, 1) := by decide +kernel
theorem dX7_mostTallied_1 : decode cX7_mostTallied 1 = .ok (.istore_n 2, 1) := by decide +kernel
theorem dX7_mostTallied_2 : decode cX7_mostTallied 2 = .ok (.iconst 1, 1) := by decide +kernel
theorem dX7_mostTallied_3 : decode cX7_mostTallied 3 = .ok (.istore_n 3, 1) := by decide +kernel
theorem dX7_mostTallied_4 : decode cX7_mostTallied 4 = .ok (.iload_n 3, 1) := by decide +kernel
theorem dX7_mostTallied_5 : decode cX7_mostTallied 5 = .ok (.bipush 6, 2) := by decide +kernel
theorem dX7_mostTallied_7 : decode cX7_mostTallied 7 = .ok (.if_icmp .gt 25, 3) := by decide +kernel
theorem dX7_mostTallied_10 : decode cX7_mostTallied 10 = .ok (.iload_n 2, 1) := by decide +kernel
theorem dX7_mostTallied_11 : decode cX7_mostTallied 11 = .ok (.aload_n 0, 1) := by decide +kernel
theorem dX7_mostTallied_12 : decode cX7_mostTallied 12 = .ok (.getfield 18, 3) := by decide +kernel
theorem dX7_mostTallied_15 : decode cX7_mostTallied 15 = .ok (.iload_n 1, 1) := by decide +kernel
theorem dX7_mostTallied_16 : decode cX7_mostTallied 16 = .ok (.bipush 7, 2) := by decide +kernel
theorem dX7_mostTallied_18 : decode cX7_mostTallied 18 = .ok (.imul, 1) := by decide +kernel
theorem dX7_mostTallied_19 : decode cX7_mostTallied 19 = .ok (.iload_n 3, 1) := by decide +kernel
theorem dX7_mostTallied_20 : decode cX7_mostTallied 20 = .ok (.iadd, 1) := by decide +kernel
theorem dX7_mostTallied_21 : decode cX7_mostTallied 21 = .ok (.iaload, 1) := by decide +kernel
theorem dX7_mostTallied_22 : decode cX7_mostTallied 22 = .ok (.invokestatic 84, 3) := by decide +kernel
theorem dX7_mostTallied_25 : decode cX7_mostTallied 25 = .ok (.istore_n 2, 1) := by decide +kernel
theorem dX7_mostTallied_26 : decode cX7_mostTallied 26 = .ok (.iinc 3 1, 3) := by decide +kernel
theorem dX7_mostTallied_29 : decode cX7_mostTallied 29 = .ok (.goto (-25), 3) := by decide +kernel
theorem dX7_mostTallied_32 : decode cX7_mostTallied 32 = .ok (.iload_n 2, 1) := by decide +kernel
theorem dX7_mostTallied_33 : decode cX7_mostTallied 33 = .ok (.ireturn, 1) := by decide +kernel
theorem dX7_allStarts_0 : decode cX7_allStarts 0 = .ok (.bipush 24, 2) := by decide +kernel
theorem dX7_allStarts_2 : decode cX7_allStarts 2 = .ok (.aload_n 0, 1) := by decide +kernel
theorem dX7_allStarts_3 : decode cX7_allStarts 3 = .ok (.getfield 21, 3) := by decide +kernel
theorem dX7_allStarts_6 : decode cX7_allStarts 6 = .ok (.invokevirtual 89, 3) := by decide +kernel
theorem dX7_allStarts_9 : decode cX7_allStarts 9 = .ok (.imul, 1) := by decide +kernel
theorem dX7_allStarts_10 : decode cX7_allStarts 10 = .ok (.ireturn, 1) := by decide +kernel
theorem dX7_endOf_0 : decode cX7_endOf 0 = .ok (.iload_n 1, 1) := by decide +kernel
theorem dX7_endOf_1 : decode cX7_endOf 1 = .ok (.istore_n 2, 1) := by decide +kernel
theorem dX7_endOf_2 : decode cX7_endOf 2 = .ok (.iconst 0, 1) := by decide +kernel
theorem dX7_endOf_3 : decode cX7_endOf 3 = .ok (.istore_n 3, 1) := by decide +kernel
theorem dX7_endOf_4 : decode cX7_endOf 4 = .ok (.iload_n 3, 1) := by decide +kernel
theorem dX7_endOf_5 : decode cX7_endOf 5 = .ok (.aload_n 0, 1) := by decide +kernel
theorem dX7_endOf_6 : decode cX7_endOf 6 = .ok (.getfield 29, 3) := by decide +kernel
theorem dX7_endOf_9 : decode cX7_endOf 9 = .ok (.if_icmp .ge 61, 3) := by decide +kernel
theorem dX7_endOf_12 : decode cX7_endOf 12 = .ok (.iload_n 3, 1) := by decide +kernel
theorem dX7_endOf_13 : decode cX7_endOf 13 = .ok (.bipush 20, 2) := by decide +kernel
theorem dX7_endOf_15 : decode cX7_endOf 15 = .ok (.if_icmp .ge 55, 3) := by decide +kernel
theorem dX7_endOf_18 : decode cX7_endOf 18 = .ok (.aload_n 0, 1) := by decide +kernel
theorem dX7_endOf_19 : decode cX7_endOf 19 = .ok (.getfield 25, 3) := by decide +kernel
theorem dX7_endOf_22 : decode cX7_endOf 22 = .ok (.iload_n 2, 1) := by decide +kernel
theorem dX7_endOf_23 : decode cX7_endOf 23 = .ok (.aload_n 0, 1) := by decide +kernel
theorem dX7_endOf_24 : decode cX7_endOf 24 = .ok (.getfield 9, 3) := by decide +kernel
theorem dX7_endOf_27 : decode cX7_endOf 27 = .ok (.iload_n 3, 1) := by decide +kernel
theorem dX7_endOf_28 : decode cX7_endOf 28 = .ok (.iaload, 1) := by decide +kernel
theorem dX7_endOf_29 : decode cX7_endOf 29 = .ok (.invokevirtual 74, 3) := by decide +kernel
theorem dX7_endOf_32 : decode cX7_endOf 32 = .ok (.istore_n 2, 1) := by decide +kernel
theorem dX7_endOf_33 : decode cX7_endOf 33 = .ok (.iload_n 2, 1) := by decide +kernel
theorem dX7_endOf_34 : decode cX7_endOf 34 = .ok (.iconst (-1), 1) := by decide +kernel
theorem dX7_endOf_35 : decode cX7_endOf 35 = .ok (.if_icmp .ne 5, 3) := by decide +kernel
theorem dX7_endOf_38 : decode cX7_endOf 38 = .ok (.iconst (-1), 1) := by decide +kernel
theorem dX7_endOf_39 : decode cX7_endOf 39 = .ok (.ireturn, 1) := by decide +kernel
theorem dX7_endOf_40 : decode cX7_endOf 40 = .ok (.aload_n 0, 1) := by decide +kernel
theorem dX7_endOf_41 : decode cX7_endOf 41 = .ok (.getfield 15, 3) := by decide +kernel
theorem dX7_endOf_44 : decode cX7_endOf 44 = .ok (.iload_n 3, 1) := by decide +kernel
theorem dX7_endOf_45 : decode cX7_endOf 45 = .ok (.iaload, 1) := by decide +kernel
theorem dX7_endOf_46 : decode cX7_endOf 46 = .ok (.ifCond .eq 18, 3) := by decide +kernel
theorem dX7_endOf_49 : decode cX7_endOf 49 = .ok (.aload_n 0, 1) := by decide +kernel
theorem dX7_endOf_50 : decode cX7_endOf 50 = .ok (.getfield 15, 3) := by decide +kernel
theorem dX7_endOf_53 : decode cX7_endOf 53 = .ok (.iload_n 3, 1) := by decide +kernel
theorem dX7_endOf_54 : decode cX7_endOf 54 = .ok (.iaload, 1) := by decide +kernel
theorem dX7_endOf_55 : decode cX7_endOf 55 = .ok (.iload_n 2, 1) := by decide +kernel
theorem dX7_endOf_56 : decode cX7_endOf 56 = .ok (.invokestatic 78, 3) := by decide +kernel
theorem dX7_endOf_59 : decode cX7_endOf 59 = .ok (.if_icmp .eq 5, 3) := by decide +kernel
theorem dX7_endOf_62 : decode cX7_endOf 62 = .ok (.iconst (-1), 1) := by decide +kernel
theorem dX7_endOf_63 : decode cX7_endOf 63 = .ok (.ireturn, 1) := by decide +kernel
theorem dX7_endOf_64 : decode cX7_endOf 64 = .ok (.iinc 3 1, 3) := by decide +kernel
theorem dX7_endOf_67 : decode cX7_endOf 67 = .ok (.goto (-63), 3) := by decide +kernel
theorem dX7_endOf_70 : decode cX7_endOf 70 = .ok (.iload_n 2, 1) := by decide +kernel
theorem dX7_endOf_71 : decode cX7_endOf 71 = .ok (.ireturn, 1) := by decide +kernel
theorem dX8_init_0 : decode cX8_init 0 = .ok (.aload_n 0, 1) := by decide +kernel
theorem dX8_init_1 : decode cX8_init 1 = .ok (.invokespecial 3, 3) := by decide +kernel
theorem dX8_init_4 : decode cX8_init 4 = .ok (.aload_n 0, 1) := by decide +kernel
theorem dX8_init_5 : decode cX8_init 5 = .ok (.sipush 600, 3) := by decide +kernel
theorem dX8_init_8 : decode cX8_init 8 = .ok (.newarray .int, 2) := by decide +kernel
theorem dX8_init_10 : decode cX8_init 10 = .ok (.putfield 9, 3) := by decide +kernel
theorem dX8_init_13 : decode cX8_init 13 = .ok (.aload_n 0, 1) := by decide +kernel
theorem dX8_init_14 : decode cX8_init 14 = .ok (.sipush 600, 3) := by decide +kernel
theorem dX8_init_17 : decode cX8_init 17 = .ok (.newarray .int, 2) := by decide +kernel
theorem dX8_init_19 : decode cX8_init 19 = .ok (.putfield 15, 3) := by decide +kernel
theorem dX8_init_22 : decode cX8_init 22 = .ok (.aload_n 0, 1) := by decide +kernel
theorem dX8_init_23 : decode cX8_init 23 = .ok (.sipush 600, 3) := by decide +kernel
theorem dX8_init_26 : decode cX8_init 26 = .ok (.newarray .int, 2) := by decide +kernel
theorem dX8_init_28 : decode cX8_init 28 = .ok (.putfield 18, 3) := by decide +kernel
theorem dX8_init_31 : decode cX8_init 31 = .ok (.aload_n 0, 1) := by decide +kernel
theorem dX8_init_32 : decode cX8_init 32 = .ok (.sipush 600, 3) := by decide +kernel
theorem dX8_init_35 : decode cX8_init 35 = .ok (.newarray .int, 2) := by decide +kernel
theorem dX8_init_37 : decode cX8_init 37 = .ok (.putfield 21, 3) := by decide +kernel
theorem dX8_init_40 : decode cX8_init 40 = .ok (.aload_n 0, 1) := by decide +kernel
theorem dX8_init_41 : decode cX8_init 41 = .ok (.sipush 600, 3) := by decide +kernel
theorem dX8_init_44 : decode cX8_init 44 = .ok (.newarray .long, 2) := by decide +kernel
theorem dX8_init_46 : decode cX8_init 46 = .ok (.putfield 24, 3) := by decide +kernel
theorem dX8_init_49 : decode cX8_init 49 = .ok (.return_, 1) := by decide +kernel
theorem dX8_forget_0 : decode cX8_forget 0 = .ok (.aload_n 0, 1) := by decide +kernel
theorem dX8_forget_1 : decode cX8_forget 1 = .ok (.getfield 9, 3) := by decide +kernel
theorem dX8_forget_4 : decode cX8_forget 4 = .ok (.iconst (-1), 1) := by decide +kernel
theorem dX8_forget_5 : decode cX8_forget 5 = .ok (.invokestatic 28, 3) := by decide +kernel
theorem dX8_forget_8 : decode cX8_forget 8 = .ok (.aload_n 0, 1) := by decide +kernel
theorem dX8_forget_9 : decode cX8_forget 9 = .ok (.iconst 0, 1) := by decide +kernel
theorem dX8_forget_10 : decode cX8_forget 10 = .ok (.putfield 34, 3) := by decide +kernel
theorem dX8_forget_13 : decode cX8_forget 13 = .ok (.return_, 1) := by decide +kernel
theorem dX8_enter_0 : decode cX8_enter 0 = .ok (.iload_n 1, 1) := by decide +kernel
theorem dX8_enter_1 : decode cX8_enter 1 = .ok (.invokestatic 38, 3) := by decide +kernel
theorem dX8_enter_4 : decode cX8_enter 4 = .ok (.ifCond .eq 28, 3) := by decide +kernel
theorem dX8_enter_7 : decode cX8_enter 7 = .ok (.aload_n 0, 1) := by decide +kernel
theorem dX8_enter_8 : decode cX8_enter 8 = .ok (.getfield 9, 3) := by decide +kernel
theorem dX8_enter_11 : decode cX8_enter 11 = .ok (.iload_n 1, 1) := by decide +kernel
theorem dX8_enter_12 : decode cX8_enter 12 = .ok (.iaload, 1) := by decide +kernel
theorem dX8_enter_13 : decode cX8_enter 13 = .ok (.iconst (-1), 1) := by decide +kernel
theorem dX8_enter_14 : decode cX8_enter 14 = .ok (.if_icmp .ne 18, 3) := by decide +kernel
theorem dX8_enter_17 : decode cX8_enter 17 = .ok (.aload_n 0, 1) := by decide +kernel
theorem dX8_enter_18 : decode cX8_enter 18 = .ok (.iload_n 1, 1) := by decide +kernel
theorem dX8_enter_19 : decode cX8_enter 19 = .ok (.iconst 0, 1) := by decide +kernel
theorem dX8_enter_20 : decode cX8_enter 20 = .ok (.iconst (-1), 1) := by decide +kernel
theorem dX8_enter_21 : decode cX8_enter 21 = .ok (.iconst (-1), 1) := by decide +kernel
theorem dX8_enter_22 : decode cX8_enter 22 = .ok (.invokevirtual 42, 3) := by decide +kernel
theorem dX8_enter_25 : decode cX8_enter 25 = .ok (.aload_n 0, 1) := by decide +kernel
theorem dX8_enter_26 : decode cX8_enter 26 = .ok (.getfield 24, 3) := by decide +kernel
theorem dX8_enter_29 : decode cX8_enter 29 = .ok (.iload_n 1, 1) := by decide +kernel
theorem dX8_enter_30 : decode cX8_enter 30 = .ok (.lconst 1, 1) := by decide +kernel
theorem dX8_enter_31 : decode cX8_enter 31 = .ok (.lastore, 1) := by decide +kernel
theorem dX8_enter_32 : decode cX8_enter 32 = .ok (.return_, 1) := by decide +kernel
theorem dX8_begin_0 : decode cX8_begin 0 = .ok (.aload_n 0, 1) := by decide +kernel
theorem dX8_begin_1 : decode cX8_begin 1 = .ok (.invokevirtual 46, 3) := by decide +kernel
theorem dX8_begin_4 : decode cX8_begin 4 = .ok (.aload_n 0, 1) := by decide +kernel
theorem dX8_begin_5 : decode cX8_begin 5 = .ok (.iload_n 1, 1) := by decide +kernel
theorem dX8_begin_6 : decode cX8_begin 6 = .ok (.invokevirtual 49, 3) := by decide +kernel
theorem dX8_begin_9 : decode cX8_begin 9 = .ok (.return_, 1) := by decide +kernel
theorem dX8_spread_0 : decode cX8_spread 0 = .ok (.iconst 0, 1) := by decide +kernel
theorem dX8_spread_1 : decode cX8_spread 1 = .ok (.istore_n 2, 1) := by decide +kernel
theorem dX8_spread_2 : decode cX8_spread 2 = .ok (.iload_n 2, 1) := by decide +kernel
theorem dX8_spread_3 : decode cX8_spread 3 = .ok (.aload_n 0, 1) := by decide +kernel
theorem dX8_spread_4 : decode cX8_spread 4 = .ok (.getfield 34, 3) := by decide +kernel
theorem dX8_spread_7 : decode cX8_spread 7 = .ok (.if_icmp .ge 52, 3) := by decide +kernel
theorem dX8_spread_10 : decode cX8_spread 10 = .ok (.iload_n 2, 1) := by decide +kernel
theorem dX8_spread_11 : decode cX8_spread 11 = .ok (.sipush 600, 3) := by decide +kernel
theorem dX8_spread_14 : decode cX8_spread 14 = .ok (.if_icmp .ge 45, 3) := by decide +kernel
theorem dX8_spread_17 : decode cX8_spread 17 = .ok (.aload_n 0, 1) := by decide +kernel
theorem dX8_spread_18 : decode cX8_spread 18 = .ok (.getfield 21, 3) := by decide +kernel
theorem dX8_spread_21 : decode cX8_spread 21 = .ok (.iload_n 2, 1) := by decide +kernel
theorem dX8_spread_22 : decode cX8_spread 22 = .ok (.iaload, 1) := by decide +kernel
theorem dX8_spread_23 : decode cX8_spread 23 = .ok (.istore_n 3, 1) := by decide +kernel
theorem dX8_spread_24 : decode cX8_spread 24 = .ok (.iconst 0, 1) := by decide +kernel
theorem dX8_spread_25 : decode cX8_spread 25 = .ok (.istore 4, 2) := by decide +kernel
theorem dX8_spread_27 : decode cX8_spread 27 = .ok (.iload 4, 2) := by decide +kernel
theorem dX8_spread_29 : decode cX8_spread 29 = .ok (.iconst 4, 1) := by decide +kernel
theorem dX8_spread_30 : decode cX8_spread 30 = .ok (.if_icmp .ge 23, 3) := by decide +kernel
theorem dX8_spread_33 : decode cX8_spread 33 = .ok (.aload_n 0, 1) := by decide +kernel
theorem dX8_spread_34 : decode cX8_spread 34 = .ok (.iload_n 3, 1) := by decide +kernel
theorem dX8_spread_35 : decode cX8_spread 35 = .ok (.iload 4, 2) := by decide +kernel
theorem dX8_spread_37 : decode cX8_spread 37 = .ok (.aload_n 1, 1) := by decide +kernel
theorem dX8_spread_38 : decode cX8_spread 38 = .ok (.iload_n 3, 1) := by decide +kernel
theorem dX8_spread_39 : decode cX8_spread 39 = .ok (.iload 4, 2) := by decide +kernel
theorem dX8_spread_41 : decode cX8_spread 41 = .ok (.invokevirtual 53, 3) := by decide +kernel
theorem dX8_spread_44 : decode cX8_spread 44 = .ok (.invokevirtual 59, 3) := by decide +kernel
theorem dX8_spread_47 : decode cX8_spread 47 = .ok (.iinc 4 1, 3) := by decide +kernel
theorem dX8_spread_50 : decode cX8_spread 50 = .ok (.goto (-23), 3) := by decide +kernel
theorem dX8_spread_53 : decode cX8_spread 53 = .ok (.iinc 2 1, 3) := by decide +kernel
theorem dX8_spread_56 : decode cX8_spread 56 = .ok (.goto (-54), 3) := by decide +kernel
theorem dX8_spread_59 : decode cX8_spread 59 = .ok (.return_, 1) := by decide +kernel
theorem dX8_meet_0 : decode cX8_meet 0 = .ok (.iload_n 1, 1) := by decide +kernel
theorem dX8_meet_1 : decode cX8_meet 1 = .ok (.invokestatic 38, 3) := by decide +kernel
theorem dX8_meet_4 : decode cX8_meet 4 = .ok (.ifCond .eq 10, 3) := by decide +kernel
theorem dX8_meet_7 : decode cX8_meet 7 = .ok (.iload_n 3, 1) := by decide +kernel
theorem dX8_meet_8 : decode cX8_meet 8 = .ok (.invokestatic 38, 3) := by decide +kernel
theorem dX8_meet_11 : decode cX8_meet 11 = .ok (.ifCond .ne 4, 3) := by decide +kernel
theorem dX8_meet_14 : decode cX8_meet 14 = .ok (.return_, 1) := by decide +kernel
theorem dX8_meet_15 : decode cX8_meet 15 = .ok (.aload_n 0, 1) := by decide +kernel
theorem dX8_meet_16 : decode cX8_meet 16 = .ok (.getfield 9, 3) := by decide +kernel
theorem dX8_meet_19 : decode cX8_meet 19 = .ok (.iload_n 3, 1) := by decide +kernel
theorem dX8_meet_20 : decode cX8_meet 20 = .ok (.iaload, 1) := by decide +kernel
theorem dX8_meet_21 : decode cX8_meet 21 = .ok (.iconst (-1), 1) := by decide +kernel
theorem dX8_meet_22 : decode cX8_meet 22 = .ok (.if_icmp .ne 18, 3) := by decide +kernel
theorem dX8_meet_25 : decode cX8_meet 25 = .ok (.aload_n 0, 1) := by decide +kernel
theorem dX8_meet_26 : decode cX8_meet 26 = .ok (.iload_n 3, 1) := by decide +kernel
theorem dX8_meet_27 : decode cX8_meet 27 = .ok (.aload_n 0, 1) := by decide +kernel
theorem dX8_meet_28 : decode cX8_meet 28 = .ok (.getfield 9, 3) := by decide +kernel
theorem dX8_meet_31 : decode cX8_meet 31 = .ok (.iload_n 1, 1) := by decide +kernel
theorem dX8_meet_32 : decode cX8_meet 32 = .ok (.iaload, 1) := by decide +kernel
theorem dX8_meet_33 : decode cX8_meet 33 = .ok (.iconst 1, 1) := by decide +kernel
theorem dX8_meet_34 : decode cX8_meet 34 = .ok (.iadd, 1) := by decide +kernel
theorem dX8_meet_35 : decode cX8_meet 35 = .ok (.iload_n 1, 1) := by decide +kernel
theorem dX8_meet_36 : decode cX8_meet 36 = .ok (.iload_n 2, 1) := by decide +kernel
theorem dX8_meet_37 : decode cX8_meet 37 = .ok (.invokevirtual 42, 3) := by decide +kernel
theorem dX8_meet_40 : decode cX8_meet 40 = .ok (.aload_n 0, 1) := by decide +kernel
theorem dX8_meet_41 : decode cX8_meet 41 = .ok (.getfield 9, 3) := by decide +kernel
theorem dX8_meet_44 : decode cX8_meet 44 = .ok (.iload_n 3, 1) := by decide +kernel
theorem dX8_meet_45 : decode cX8_meet 45 = .ok (.iaload, 1) := by decide +kernel
theorem dX8_meet_46 : decode cX8_meet 46 = .ok (.aload_n 0, 1) := by decide +kernel
theorem dX8_meet_47 : decode cX8_meet 47 = .ok (.getfield 9, 3) := by decide +kernel
theorem dX8_meet_50 : decode cX8_meet 50 = .ok (.iload_n 1, 1) := by decide +kernel
theorem dX8_meet_51 : decode cX8_meet 51 = .ok (.iaload, 1) := by decide +kernel
theorem dX8_meet_52 : decode cX8_meet 52 = .ok (.iconst 1, 1) := by decide +kernel
theorem dX8_meet_53 : decode cX8_meet 53 = .ok (.iadd, 1) := by decide +kernel
theorem dX8_meet_54 : decode cX8_meet 54 = .ok (.if_icmp .ne 18, 3) := by decide +kernel
theorem dX8_meet_57 : decode cX8_meet 57 = .ok (.aload_n 0, 1) := by decide +kernel
theorem dX8_meet_58 : decode cX8_meet 58 = .ok (.getfield 24, 3) := by decide +kernel
theorem dX8_meet_61 : decode cX8_meet 61 = .ok (.iload_n 3, 1) := by decide +kernel
theorem dX8_meet_62 : decode cX8_meet 62 = .ok (.dup2, 1) := by decide +kernel
theorem dX8_meet_63 : decode cX8_meet 63 = .ok (.laload, 1) := by decide +kernel
theorem dX8_meet_64 : decode cX8_meet 64 = .ok (.aload_n 0, 1) := by decide +kernel
theorem dX8_meet_65 : decode cX8_meet 65 = .ok (.getfield 24, 3) := by decide +kernel
theorem dX8_meet_68 : decode cX8_meet 68 = .ok (.iload_n 1, 1) := by decide +kernel
theorem dX8_meet_69 : decode cX8_meet 69 = .ok (.laload, 1) := by decide +kernel
theorem dX8_meet_70 : decode cX8_meet 70 = .ok (.ladd, 1) := by decide +kernel
theorem dX8_meet_71 : decode cX8_meet 71 = .ok (.lastore, 1) := by decide +kernel
theorem dX8_meet_72 : decode cX8_meet 72 = .ok (.return_, 1) := by decide +kernel
theorem dX8_add_0 : decode cX8_add 0 = .ok (.iload_n 1, 1) := by decide +kernel
theorem dX8_add_1 : decode cX8_add 1 = .ok (.invokestatic 38, 3) := by decide +kernel
theorem dX8_add_4 : decode cX8_add 4 = .ok (.ifCond .eq 13, 3) := by decide +kernel
theorem dX8_add_7 : decode cX8_add 7 = .ok (.aload_n 0, 1) := by decide +kernel
theorem dX8_add_8 : decode cX8_add 8 = .ok (.getfield 34, 3) := by decide +kernel
theorem dX8_add_11 : decode cX8_add 11 = .ok (.sipush 600, 3) := by decide +kernel
theorem dX8_add_14 : decode cX8_add 14 = .ok (.if_icmp .lt 4, 3) := by decide +kernel
theorem dX8_add_17 : decode cX8_add 17 = .ok (.return_, 1) := by decide +kernel
theorem dX8_add_18 : decode cX8_add 18 = .ok (.aload_n 0, 1) := by decide +kernel
theorem dX8_add_19 : decode cX8_add 19 = .ok (.getfield 9, 3) := by decide +kernel
theorem dX8_add_22 : decode cX8_add 22 = .ok (.iload_n 1, 1) := by decide +kernel
theorem dX8_add_23 : decode cX8_add 23 = .ok (.iload_n 2, 1) := by decide +kernel
theorem dX8_add_24 : decode cX8_add 24 = .ok (.iastore, 1) := by decide +kernel
theorem dX8_add_25 : decode cX8_add 25 = .ok (.aload_n 0, 1) := by decide +kernel
theorem dX8_add_26 : decode cX8_add 26 = .ok (.getfield 18, 3) := by decide +kernel
theorem dX8_add_29 : decode cX8_add 29 = .ok (.iload_n 1, 1) := by decide +kernel
theorem dX8_add_30 : decode cX8_add 30 = .ok (.iload_n 3, 1) := by decide +kernel
theorem dX8_add_31 : decode cX8_add 31 = .ok (.iastore, 1) := by decide +kernel
theorem dX8_add_32 : decode cX8_add 32 = .ok (.aload_n 0, 1) := by decide +kernel
theorem dX8_add_33 : decode cX8_add 33 = .ok (.getfield 15, 3) := by decide +kernel
theorem dX8_add_36 : decode cX8_add 36 = .ok (.iload_n 1, 1) := by decide +kernel
theorem dX8_add_37 : decode cX8_add 37 = .ok (.iload 4, 2) := by decide +kernel
theorem dX8_add_39 : decode cX8_add 39 = .ok (.iastore, 1) := by decide +kernel
theorem dX8_add_40 : decode cX8_add 40 = .ok (.aload_n 0, 1) := by decide +kernel
theorem dX8_add_41 : decode cX8_add 41 = .ok (.getfield 24, 3) := by decide +kernel
theorem dX8_add_44 : decode cX8_add 44 = .ok (.iload_n 1, 1) := by decide +kernel
theorem dX8_add_45 : decode cX8_add 45 = .ok (.lconst 0, 1) := by decide +kernel
theorem dX8_add_46 : decode cX8_add 46 = .ok (.lastore, 1) := by decide +kernel
theorem dX8_add_47 : decode cX8_add 47 = .ok (.aload_n 0, 1) := by decide +kernel
theorem dX8_add_48 : decode cX8_add 48 = .ok (.getfield 21, 3) := by decide +kernel
theorem dX8_add_51 : decode cX8_add 51 = .ok (.aload_n 0, 1) := by decide +kernel
theorem dX8_add_52 : decode cX8_add 52 = .ok (.getfield 34, 3) := by decide +kernel
theorem dX8_add_55 : decode cX8_add 55 = .ok (.iload_n 1, 1) := by decide +kernel
theorem dX8_add_56 : decode cX8_add 56 = .ok (.iastore, 1) := by decide +kernel
theorem dX8_add_57 : decode cX8_add 57 = .ok (.aload_n 0, 1) := by decide +kernel
theorem dX8_add_58 : decode cX8_add 58 = .ok (.dup, 1) := by decide +kernel
theorem dX8_add_59 : decode cX8_add 59 = .ok (.getfield 34, 3) := by decide +kernel
theorem dX8_add_62 : decode cX8_add 62 = .ok (.iconst 1, 1) := by decide +kernel
theorem dX8_add_63 : decode cX8_add 63 = .ok (.iadd, 1) := by decide +kernel
theorem dX8_add_64 : decode cX8_add 64 = .ok (.putfield 34, 3) := by decide +kernel
theorem dX8_add_67 : decode cX8_add 67 = .ok (.return_, 1) := by decide +kernel
theorem dX8_isState_0 : decode cX8_isState 0 = .ok (.iload_n 0, 1) := by decide +kernel
theorem dX8_isState_1 : decode cX8_isState 1 = .ok (.ifCond .lt 14, 3) := by decide +kernel
theorem dX8_isState_4 : decode cX8_isState 4 = .ok (.iload_n 0, 1) := by decide +kernel
theorem dX8_isState_5 : decode cX8_isState 5 = .ok (.sipush 600, 3) := by decide +kernel
theorem dX8_isState_8 : decode cX8_isState 8 = .ok (.if_icmp .ge 7, 3) := by decide +kernel
theorem dX8_isState_11 : decode cX8_isState 11 = .ok (.iconst 1, 1) := by decide +kernel
theorem dX8_isState_12 : decode cX8_isState 12 = .ok (.goto 4, 3) := by decide +kernel
theorem dX8_isState_15 : decode cX8_isState 15 = .ok (.iconst 0, 1) := by decide +kernel
theorem dX8_isState_16 : decode cX8_isState 16 = .ok (.ireturn, 1) := by decide +kernel
theorem dX8_reached_0 : decode cX8_reached 0 = .ok (.aload_n 0, 1) := by decide +kernel
theorem dX8_reached_1 : decode cX8_reached 1 = .ok (.getfield 34, 3) := by decide +kernel
theorem dX8_reached_4 : decode cX8_reached 4 = .ok (.ireturn, 1) := by decide +kernel
theorem dX8_reachedAt_0 : decode cX8_reachedAt 0 = .ok (.iload_n 1, 1) := by decide +kernel
theorem dX8_reachedAt_1 : decode cX8_reachedAt 1 = .ok (.ifCond .lt 27, 3) := by decide +kernel
theorem dX8_reachedAt_4 : decode cX8_reachedAt 4 = .ok (.iload_n 1, 1) := by decide +kernel
theorem dX8_reachedAt_5 : decode cX8_reachedAt 5 = .ok (.aload_n 0, 1) := by decide +kernel
theorem dX8_reachedAt_6 : decode cX8_reachedAt 6 = .ok (.getfield 34, 3) := by decide +kernel
theorem dX8_reachedAt_9 : decode cX8_reachedAt 9 = .ok (.if_icmp .ge 19, 3) := by decide +kernel
theorem dX8_reachedAt_12 : decode cX8_reachedAt 12 = .ok (.iload_n 1, 1) := by decide +kernel
theorem dX8_reachedAt_13 : decode cX8_reachedAt 13 = .ok (.sipush 600, 3) := by decide +kernel
theorem dX8_reachedAt_16 : decode cX8_reachedAt 16 = .ok (.if_icmp .ge 12, 3) := by decide +kernel
theorem dX8_reachedAt_19 : decode cX8_reachedAt 19 = .ok (.aload_n 0, 1) := by decide +kernel
theorem dX8_reachedAt_20 : decode cX8_reachedAt 20 = .ok (.getfield 21, 3) := by decide +kernel
theorem dX8_reachedAt_23 : decode cX8_reachedAt 23 = .ok (.iload_n 1, 1) := by decide +kernel
theorem dX8_reachedAt_24 : decode cX8_reachedAt 24 = .ok (.iaload, 1) := by decide +kernel
theorem dX8_reachedAt_25 : decode cX8_reachedAt 25 = .ok (.goto 4, 3) := by decide +kernel
theorem dX8_reachedAt_28 : decode cX8_reachedAt 28 = .ok (.iconst (-1), 1) := by decide +kernel
theorem dX8_reachedAt_29 : decode cX8_reachedAt 29 = .ok (.ireturn, 1) := by decide +kernel
theorem dX8_distanceTo_0 : decode cX8_distanceTo 0 = .ok (.iload_n 1, 1) := by decide +kernel
theorem dX8_distanceTo_1 : decode cX8_distanceTo 1 = .ok (.invokestatic 38, 3) := by decide +kernel
theorem dX8_distanceTo_4 : decode cX8_distanceTo 4 = .ok (.ifCond .eq 12, 3) := by decide +kernel
theorem dX8_distanceTo_7 : decode cX8_distanceTo 7 = .ok (.aload_n 0, 1) := by decide +kernel
theorem dX8_distanceTo_8 : decode cX8_distanceTo 8 = .ok (.getfield 9, 3) := by decide +kernel
theorem dX8_distanceTo_11 : decode cX8_distanceTo 11 = .ok (.iload_n 1, 1) := by decide +kernel
theorem dX8_distanceTo_12 : decode cX8_distanceTo 12 = .ok (.iaload, 1) := by decide +kernel
theorem dX8_distanceTo_13 : decode cX8_distanceTo 13 = .ok (.goto 4, 3) := by decide +kernel
theorem dX8_distanceTo_16 : decode cX8_distanceTo 16 = .ok (.iconst (-1), 1) := by decide +kernel
theorem dX8_distanceTo_17 : decode cX8_distanceTo 17 = .ok (.ireturn, 1) := by decide +kernel
theorem dX8_pathsTo_0 : decode cX8_pathsTo 0 = .ok (.iload_n 1, 1) := by decide +kernel
theorem dX8_pathsTo_1 : decode cX8_pathsTo 1 = .ok (.invokestatic 38, 3) := by decide +kernel
theorem dX8_pathsTo_4 : decode cX8_pathsTo 4 = .ok (.ifCond .eq 12, 3) := by decide +kernel
theorem dX8_pathsTo_7 : decode cX8_pathsTo 7 = .ok (.aload_n 0, 1) := by decide +kernel
theorem dX8_pathsTo_8 : decode cX8_pathsTo 8 = .ok (.getfield 24, 3) := by decide +kernel
theorem dX8_pathsTo_11 : decode cX8_pathsTo 11 = .ok (.iload_n 1, 1) := by decide +kernel
theorem dX8_pathsTo_12 : decode cX8_pathsTo 12 = .ok (.laload, 1) := by decide +kernel
theorem dX8_pathsTo_13 : decode cX8_pathsTo 13 = .ok (.goto 4, 3) := by decide +kernel
theorem dX8_pathsTo_16 : decode cX8_pathsTo 16 = .ok (.lconst 0, 1) := by decide +kernel
theorem dX8_pathsTo_17 : decode cX8_pathsTo 17 = .ok (.lreturn, 1) := by decide +kernel
theorem dX8_stepTo_0 : decode cX8_stepTo 0 = .ok (.aload_n 0, 1) := by decide +kernel
theorem dX8_stepTo_1 : decode cX8_stepTo 1 = .ok (.iload_n 1, 1) := by decide +kernel
theorem dX8_stepTo_2 : decode cX8_stepTo 2 = .ok (.invokevirtual 63, 3) := by decide +kernel
theorem dX8_stepTo_5 : decode cX8_stepTo 5 = .ok (.istore_n 3, 1) := by decide +kernel
theorem dX8_stepTo_6 : decode cX8_stepTo 6 = .ok (.iload_n 2, 1) := by decide +kernel
theorem dX8_stepTo_7 : decode cX8_stepTo 7 = .ok (.ifCond .lt 8, 3) := by decide +kernel
theorem dX8_stepTo_10 : decode cX8_stepTo 10 = .ok (.iload_n 2, 1) := by decide +kernel
theorem dX8_stepTo_11 : decode cX8_stepTo 11 = .ok (.iload_n 3, 1) := by decide +kernel
theorem dX8_stepTo_12 : decode cX8_stepTo 12 = .ok (.if_icmp .lt 6, 3) := by decide +kernel
theorem dX8_stepTo_15 : decode cX8_stepTo 15 = .ok (.bipush (-9), 2) := by decide +kernel
theorem dX8_stepTo_17 : decode cX8_stepTo 17 = .ok (.ireturn, 1) := by decide +kernel
theorem dX8_stepTo_18 : decode cX8_stepTo 18 = .ok (.iload_n 1, 1) := by decide +kernel
theorem dX8_stepTo_19 : decode cX8_stepTo 19 = .ok (.istore 4, 2) := by decide +kernel
theorem dX8_stepTo_21 : decode cX8_stepTo 21 = .ok (.iload_n 3, 1) := by decide +kernel
theorem dX8_stepTo_22 : decode cX8_stepTo 22 = .ok (.iconst 1, 1) := by decide +kernel
theorem dX8_stepTo_23 : decode cX8_stepTo 23 = .ok (.isub, 1) := by decide +kernel
theorem dX8_stepTo_24 : decode cX8_stepTo 24 = .ok (.istore 5, 2) := by decide +kernel
theorem dX8_stepTo_26 : decode cX8_stepTo 26 = .ok (.iload 5, 2) := by decide +kernel
theorem dX8_stepTo_28 : decode cX8_stepTo 28 = .ok (.iload_n 2, 1) := by decide +kernel
theorem dX8_stepTo_29 : decode cX8_stepTo 29 = .ok (.if_icmp .le 26, 3) := by decide +kernel
theorem dX8_stepTo_32 : decode cX8_stepTo 32 = .ok (.iload 4, 2) := by decide +kernel
theorem dX8_stepTo_34 : decode cX8_stepTo 34 = .ok (.invokestatic 38, 3) := by decide +kernel
theorem dX8_stepTo_37 : decode cX8_stepTo 37 = .ok (.ifCond .eq 18, 3) := by decide +kernel
theorem dX8_stepTo_40 : decode cX8_stepTo 40 = .ok (.aload_n 0, 1) := by decide +kernel
theorem dX8_stepTo_41 : decode cX8_stepTo 41 = .ok (.getfield 18, 3) := by decide +kernel
theorem dX8_stepTo_44 : decode cX8_stepTo 44 = .ok (.iload 4, 2) := by decide +kernel
theorem dX8_stepTo_46 : decode cX8_stepTo 46 = .ok (.iaload, 1) := by decide +kernel
theorem dX8_stepTo_47 : decode cX8_stepTo 47 = .ok (.istore 4, 2) := by decide +kernel
theorem dX8_stepTo_49 : decode cX8_stepTo 49 = .ok (.iinc 5 (-1), 3) := by decide +kernel
theorem dX8_stepTo_52 : decode cX8_stepTo 52 = .ok (.goto (-26), 3) := by decide +kernel
theorem dX8_stepTo_55 : decode cX8_stepTo 55 = .ok (.iload 4, 2) := by decide +kernel
theorem dX8_stepTo_57 : decode cX8_stepTo 57 = .ok (.invokestatic 38, 3) := by decide +kernel
theorem dX8_stepTo_60 : decode cX8_stepTo 60 = .ok (.ifCond .eq 13, 3) := by decide +kernel
theorem dX8_stepTo_63 : decode cX8_stepTo 63 = .ok (.aload_n 0, 1) := by decide +kernel
theorem dX8_stepTo_64 : decode cX8_stepTo 64 = .ok (.getfield 15, 3) := by decide +kernel
theorem dX8_stepTo_67 : decode cX8_stepTo 67 = .ok (.iload 4, 2) := by decide +kernel
theorem dX8_stepTo_69 : decode cX8_stepTo 69 = .ok (.iaload, 1) := by decide +kernel
theorem dX8_stepTo_70 : decode cX8_stepTo 70 = .ok (.goto 5, 3) := by decide +kernel
theorem dX8_stepTo_73 : decode cX8_stepTo 73 = .ok (.bipush (-9), 2) := by decide +kernel
theorem dX8_stepTo_75 : decode cX8_stepTo 75 = .ok (.ireturn, 1) := by decide +kernel
theorem dX9_init_0 : decode cX9_init 0 = .ok (.aload_n 0, 1) := by decide +kernel
theorem dX9_init_1 : decode cX9_init 1 = .ok (.invokespecial 3, 3) := by decide +kernel
theorem dX9_init_4 : decode cX9_init 4 = .ok (.aload_n 0, 1) := by decide +kernel
theorem dX9_init_5 : decode cX9_init 5 = .ok (.bipush 16, 2) := by decide +kernel
theorem dX9_init_7 : decode cX9_init 7 = .ok (.newarray .int, 2) := by decide +kernel
theorem dX9_init_9 : decode cX9_init 9 = .ok (.putfield 9, 3) := by decide +kernel
theorem dX9_init_12 : decode cX9_init 12 = .ok (.aload_n 0, 1) := by decide +kernel
theorem dX9_init_13 : decode cX9_init 13 = .ok (.aload_n 1, 1) := by decide +kernel
theorem dX9_init_14 : decode cX9_init 14 = .ok (.putfield 15, 3) := by decide +kernel
theorem dX9_init_17 : decode cX9_init 17 = .ok (.aload_n 0, 1) := by decide +kernel
theorem dX9_init_18 : decode cX9_init 18 = .ok (.aload_n 2, 1) := by decide +kernel
theorem dX9_init_19 : decode cX9_init 19 = .ok (.putfield 19, 3) := by decide +kernel
theorem dX9_init_22 : decode cX9_init 22 = .ok (.return_, 1) := by decide +kernel
theorem dX9_howMany_0 : decode cX9_howMany 0 = .ok (.aload_n 0, 1) := by decide +kernel
theorem dX9_howMany_1 : decode cX9_howMany 1 = .ok (.iload_n 1, 1) := by decide +kernel
theorem dX9_howMany_2 : decode cX9_howMany 2 = .ok (.iload_n 2, 1) := by decide +kernel
theorem dX9_howMany_3 : decode cX9_howMany 3 = .ok (.iconst 0, 1) := by decide +kernel
theorem dX9_howMany_4 : decode cX9_howMany 4 = .ok (.invokevirtual 23, 3) := by decide +kernel
theorem dX9_howMany_7 : decode cX9_howMany 7 = .ok (.aload_n 0, 1) := by decide +kernel
theorem dX9_howMany_8 : decode cX9_howMany 8 = .ok (.getfield 27, 3) := by decide +kernel
theorem dX9_howMany_11 : decode cX9_howMany 11 = .ok (.ireturn, 1) := by decide +kernel
theorem dX9_stepAt_0 : decode cX9_stepAt 0 = .ok (.aload_n 0, 1) := by decide +kernel
theorem dX9_stepAt_1 : decode cX9_stepAt 1 = .ok (.iload_n 1, 1) := by decide +kernel
theorem dX9_stepAt_2 : decode cX9_stepAt 2 = .ok (.iload_n 2, 1) := by decide +kernel
theorem dX9_stepAt_3 : decode cX9_stepAt 3 = .ok (.iconst 1, 1) := by decide +kernel
theorem dX9_stepAt_4 : decode cX9_stepAt 4 = .ok (.invokevirtual 23, 3) := by decide +kernel
theorem dX9_stepAt_7 : decode cX9_stepAt 7 = .ok (.aload_n 0, 1) := by decide +kernel
theorem dX9_stepAt_8 : decode cX9_stepAt 8 = .ok (.getfield 27, 3) := by decide +kernel
theorem dX9_stepAt_11 : decode cX9_stepAt 11 = .ok (.ifCond .le 30, 3) := by decide +kernel
theorem dX9_stepAt_14 : decode cX9_stepAt 14 = .ok (.iload_n 3, 1) := by decide +kernel
theorem dX9_stepAt_15 : decode cX9_stepAt 15 = .ok (.ifCond .lt 26, 3) := by decide +kernel
theorem dX9_stepAt_18 : decode cX9_stepAt 18 = .ok (.iload_n 3, 1) := by decide +kernel
theorem dX9_stepAt_19 : decode cX9_stepAt 19 = .ok (.aload_n 0, 1) := by decide +kernel
theorem dX9_stepAt_20 : decode cX9_stepAt 20 = .ok (.getfield 31, 3) := by decide +kernel
theorem dX9_stepAt_23 : decode cX9_stepAt 23 = .ok (.if_icmp .ge 18, 3) := by decide +kernel
theorem dX9_stepAt_26 : decode cX9_stepAt 26 = .ok (.iload_n 3, 1) := by decide +kernel
theorem dX9_stepAt_27 : decode cX9_stepAt 27 = .ok (.bipush 16, 2) := by decide +kernel
theorem dX9_stepAt_29 : decode cX9_stepAt 29 = .ok (.if_icmp .ge 12, 3) := by decide +kernel
theorem dX9_stepAt_32 : decode cX9_stepAt 32 = .ok (.aload_n 0, 1) := by decide +kernel
theorem dX9_stepAt_33 : decode cX9_stepAt 33 = .ok (.getfield 9, 3) := by decide +kernel
theorem dX9_stepAt_36 : decode cX9_stepAt 36 = .ok (.iload_n 3, 1) := by decide +kernel
theorem dX9_stepAt_37 : decode cX9_stepAt 37 = .ok (.iaload, 1) := by decide +kernel
theorem dX9_stepAt_38 : decode cX9_stepAt 38 = .ok (.goto 5, 3) := by decide +kernel
theorem dX9_stepAt_41 : decode cX9_stepAt 41 = .ok (.bipush (-9), 2) := by decide +kernel
theorem dX9_stepAt_43 : decode cX9_stepAt 43 = .ok (.ireturn, 1) := by decide +kernel
theorem dX9_seek_0 : decode cX9_seek 0 = .ok (.aload_n 0, 1) := by decide +kernel
theorem dX9_seek_1 : decode cX9_seek 1 = .ok (.iload_n 2, 1) := by decide +kernel
theorem dX9_seek_2 : decode cX9_seek 2 = .ok (.putfield 34, 3) := by decide +kernel
theorem dX9_seek_5 : decode cX9_seek 5 = .ok (.aload_n 0, 1) := by decide +kernel
theorem dX9_seek_6 : decode cX9_seek 6 = .ok (.aload_n 0, 1) := by decide +kernel
theorem dX9_seek_7 : decode cX9_seek 7 = .ok (.getfield 15, 3) := by decide +kernel
theorem dX9_seek_10 : decode cX9_seek 10 = .ok (.invokevirtual 37, 3) := by decide +kernel
theorem dX9_seek_13 : decode cX9_seek 13 = .ok (.iconst 1, 1) := by decide +kernel
theorem dX9_seek_14 : decode cX9_seek 14 = .ok (.isub, 1) := by decide +kernel
theorem dX9_seek_15 : decode cX9_seek 15 = .ok (.putfield 31, 3) := by decide +kernel
theorem dX9_seek_18 : decode cX9_seek 18 = .ok (.aload_n 0, 1) := by decide +kernel
theorem dX9_seek_19 : decode cX9_seek 19 = .ok (.iload_n 3, 1) := by decide +kernel
theorem dX9_seek_20 : decode cX9_seek 20 = .ok (.putfield 43, 3) := by decide +kernel
theorem dX9_seek_23 : decode cX9_seek 23 = .ok (.aload_n 0, 1) := by decide +kernel
theorem dX9_seek_24 : decode cX9_seek 24 = .ok (.iconst 0, 1) := by decide +kernel
theorem dX9_seek_25 : decode cX9_seek 25 = .ok (.putfield 27, 3) := by decide +kernel
theorem dX9_seek_28 : decode cX9_seek 28 = .ok (.aload_n 0, 1) := by decide +kernel
theorem dX9_seek_29 : decode cX9_seek 29 = .ok (.iload_n 1, 1) := by decide +kernel
theorem dX9_seek_30 : decode cX9_seek 30 = .ok (.iconst 1, 1) := by decide +kernel
theorem dX9_seek_31 : decode cX9_seek 31 = .ok (.iload_n 1, 1) := by decide +kernel
theorem dX9_seek_32 : decode cX9_seek 32 = .ok (.invokestatic 47, 3) := by decide +kernel
theorem dX9_seek_35 : decode cX9_seek 35 = .ok (.ishl, 1) := by decide +kernel
theorem dX9_seek_36 : decode cX9_seek 36 = .ok (.iconst 0, 1) := by decide +kernel
theorem dX9_seek_37 : decode cX9_seek 37 = .ok (.invokevirtual 53, 3) := by decide +kernel
theorem dX9_seek_40 : decode cX9_seek 40 = .ok (.return_, 1) := by decide +kernel
theorem dX9_extend_0 : decode cX9_extend 0 = .ok (.iload_n 3, 1) := by decide +kernel
theorem dX9_extend_1 : decode cX9_extend 1 = .ok (.aload_n 0, 1) := by decide +kernel
theorem dX9_extend_2 : decode cX9_extend 2 = .ok (.getfield 31, 3) := by decide +kernel
theorem dX9_extend_5 : decode cX9_extend 5 = .ok (.if_icmp .ge 9, 3) := by decide +kernel
theorem dX9_extend_8 : decode cX9_extend 8 = .ok (.iload_n 3, 1) := by decide +kernel
theorem dX9_extend_9 : decode cX9_extend 9 = .ok (.bipush 16, 2) := by decide +kernel
theorem dX9_extend_11 : decode cX9_extend 11 = .ok (.if_icmp .lt 27, 3) := by decide +kernel
theorem dX9_extend_14 : decode cX9_extend 14 = .ok (.aload_n 0, 1) := by decide +kernel
theorem dX9_extend_15 : decode cX9_extend 15 = .ok (.dup, 1) := by decide +kernel
theorem dX9_extend_16 : decode cX9_extend 16 = .ok (.getfield 27, 3) := by decide +kernel
theorem dX9_extend_19 : decode cX9_extend 19 = .ok (.iload_n 1, 1) := by decide +kernel
theorem dX9_extend_20 : decode cX9_extend 20 = .ok (.invokestatic 57, 3) := by decide +kernel
theorem dX9_extend_23 : decode cX9_extend 23 = .ok (.aload_n 0, 1) := by decide +kernel
theorem dX9_extend_24 : decode cX9_extend 24 = .ok (.getfield 34, 3) := by decide +kernel
theorem dX9_extend_27 : decode cX9_extend 27 = .ok (.invokestatic 60, 3) := by decide +kernel
theorem dX9_extend_30 : decode cX9_extend 30 = .ok (.invokestatic 66, 3) := by decide +kernel
theorem dX9_extend_33 : decode cX9_extend 33 = .ok (.iadd, 1) := by decide +kernel
theorem dX9_extend_34 : decode cX9_extend 34 = .ok (.putfield 27, 3) := by decide +kernel
theorem dX9_extend_37 : decode cX9_extend 37 = .ok (.return_, 1) := by decide +kernel
theorem dX9_extend_38 : decode cX9_extend 38 = .ok (.iconst 0, 1) := by decide +kernel
theorem dX9_extend_39 : decode cX9_extend 39 = .ok (.istore 4, 2) := by decide +kernel
theorem dX9_extend_41 : decode cX9_extend 41 = .ok (.iload 4, 2) := by decide +kernel
theorem dX9_extend_43 : decode cX9_extend 43 = .ok (.iconst 4, 1) := by decide +kernel
theorem dX9_extend_44 : decode cX9_extend 44 = .ok (.if_icmp .ge 78, 3) := by decide +kernel
theorem dX9_extend_47 : decode cX9_extend 47 = .ok (.aload_n 0, 1) := by decide +kernel
theorem dX9_extend_48 : decode cX9_extend 48 = .ok (.getfield 43, 3) := by decide +kernel
theorem dX9_extend_51 : decode cX9_extend 51 = .ok (.ifCond .eq 10, 3) := by decide +kernel
theorem dX9_extend_54 : decode cX9_extend 54 = .ok (.aload_n 0, 1) := by decide +kernel
theorem dX9_extend_55 : decode cX9_extend 55 = .ok (.getfield 27, 3) := by decide +kernel
theorem dX9_extend_58 : decode cX9_extend 58 = .ok (.ifCond .gt 64, 3) := by decide +kernel
theorem dX9_extend_61 : decode cX9_extend 61 = .ok (.aload_n 0, 1) := by decide +kernel
theorem dX9_extend_62 : decode cX9_extend 62 = .ok (.getfield 19, 3) := by decide +kernel
theorem dX9_extend_65 : decode cX9_extend 65 = .ok (.iload_n 1, 1) := by decide +kernel
theorem dX9_extend_66 : decode cX9_extend 66 = .ok (.iload 4, 2) := by decide +kernel
theorem dX9_extend_68 : decode cX9_extend 68 = .ok (.invokevirtual 70, 3) := by decide +kernel
theorem dX9_extend_71 : decode cX9_extend 71 = .ok (.istore 5, 2) := by decide +kernel
theorem dX9_extend_73 : decode cX9_extend 73 = .ok (.iconst 1, 1) := by decide +kernel
theorem dX9_extend_74 : decode cX9_extend 74 = .ok (.iload 5, 2) := by decide +kernel
theorem dX9_extend_76 : decode cX9_extend 76 = .ok (.invokestatic 47, 3) := by decide +kernel
theorem dX9_extend_79 : decode cX9_extend 79 = .ok (.ishl, 1) := by decide +kernel
theorem dX9_extend_80 : decode cX9_extend 80 = .ok (.istore 6, 2) := by decide +kernel
theorem dX9_extend_82 : decode cX9_extend 82 = .ok (.iload 5, 2) := by decide +kernel
theorem dX9_extend_84 : decode cX9_extend 84 = .ok (.iconst (-1), 1) := by decide +kernel
theorem dX9_extend_85 : decode cX9_extend 85 = .ok (.if_icmp .eq 31, 3) := by decide +kernel
theorem dX9_extend_88 : decode cX9_extend 88 = .ok (.iload_n 2, 1) := by decide +kernel
theorem dX9_extend_89 : decode cX9_extend 89 = .ok (.iload 6, 2) := by decide +kernel
theorem dX9_extend_91 : decode cX9_extend 91 = .ok (.iand, 1) := by decide +kernel
theorem dX9_extend_92 : decode cX9_extend 92 = .ok (.ifCond .ne 24, 3) := by decide +kernel
theorem dX9_extend_95 : decode cX9_extend 95 = .ok (.aload_n 0, 1) := by decide +kernel
theorem dX9_extend_96 : decode cX9_extend 96 = .ok (.getfield 9, 3) := by decide +kernel
theorem dX9_extend_99 : decode cX9_extend 99 = .ok (.iload_n 3, 1) := by decide +kernel
theorem dX9_extend_100 : decode cX9_extend 100 = .ok (.iload 4, 2) := by decide +kernel
theorem dX9_extend_102 : decode cX9_extend 102 = .ok (.iastore, 1) := by decide +kernel
theorem dX9_extend_103 : decode cX9_extend 103 = .ok (.aload_n 0, 1) := by decide +kernel
theorem dX9_extend_104 : decode cX9_extend 104 = .ok (.iload 5, 2) := by decide +kernel
theorem dX9_extend_106 : decode cX9_extend 106 = .ok (.iload_n 2, 1) := by decide +kernel
theorem dX9_extend_107 : decode cX9_extend 107 = .ok (.iload 6, 2) := by decide +kernel
theorem dX9_extend_109 : decode cX9_extend 109 = .ok (.ior, 1) := by decide +kernel
theorem dX9_extend_110 : decode cX9_extend 110 = .ok (.iload_n 3, 1) := by decide +kernel
theorem dX9_extend_111 : decode cX9_extend 111 = .ok (.iconst 1, 1) := by decide +kernel
theorem dX9_extend_112 : decode cX9_extend 112 = .ok (.iadd, 1) := by decide +kernel
theorem dX9_extend_113 : decode cX9_extend 113 = .ok (.invokevirtual 53, 3) := by decide +kernel
theorem dX9_extend_116 : decode cX9_extend 116 = .ok (.iinc 4 1, 3) := by decide +kernel
theorem dX9_extend_119 : decode cX9_extend 119 = .ok (.goto (-78), 3) := by decide +kernel
theorem dX9_extend_122 : decode cX9_extend 122 = .ok (.return_, 1) := by decide +kernel
theorem dX10_init_0 : decode cX10_init 0 = .ok (.aload_n 0, 1) := by decide +kernel
theorem dX10_init_1 : decode cX10_init 1 = .ok (.invokespecial 3, 3) := by decide +kernel
theorem dX10_init_4 : decode cX10_init 4 = .ok (.aload_n 0, 1) := by decide +kernel
theorem dX10_init_5 : decode cX10_init 5 = .ok (.new 9, 3) := by decide +kernel
theorem dX10_init_8 : decode cX10_init 8 = .ok (.dup, 1) := by decide +kernel
theorem dX10_init_9 : decode cX10_init 9 = .ok (.invokespecial 11, 3) := by decide +kernel
theorem dX10_init_12 : decode cX10_init 12 = .ok (.putfield 12, 3) := by decide +kernel
theorem dX10_init_15 : decode cX10_init 15 = .ok (.aload_n 0, 1) := by decide +kernel
theorem dX10_init_16 : decode cX10_init 16 = .ok (.new 16, 3) := by decide +kernel
theorem dX10_init_19 : decode cX10_init 19 = .ok (.dup, 1) := by decide +kernel
theorem dX10_init_20 : decode cX10_init 20 = .ok (.invokespecial 18, 3) := by decide +kernel
theorem dX10_init_23 : decode cX10_init 23 = .ok (.putfield 19, 3) := by decide +kernel
theorem dX10_init_26 : decode cX10_init 26 = .ok (.aload_n 0, 1) := by decide +kernel
theorem dX10_init_27 : decode cX10_init 27 = .ok (.new 23, 3) := by decide +kernel
theorem dX10_init_30 : decode cX10_init 30 = .ok (.dup, 1) := by decide +kernel
theorem dX10_init_31 : decode cX10_init 31 = .ok (.invokespecial 25, 3) := by decide +kernel
theorem dX10_init_34 : decode cX10_init 34 = .ok (.putfield 26, 3) := by decide +kernel
theorem dX10_init_37 : decode cX10_init 37 = .ok (.aload_n 0, 1) := by decide +kernel
theorem dX10_init_38 : decode cX10_init 38 = .ok (.new 30, 3) := by decide +kernel
theorem dX10_init_41 : decode cX10_init 41 = .ok (.dup, 1) := by decide +kernel
theorem dX10_init_42 : decode cX10_init 42 = .ok (.aload_n 0, 1) := by decide +kernel
theorem dX10_init_43 : decode cX10_init 43 = .ok (.getfield 12, 3) := by decide +kernel
theorem dX10_init_46 : decode cX10_init 46 = .ok (.invokespecial 32, 3) := by decide +kernel
theorem dX10_init_49 : decode cX10_init 49 = .ok (.putfield 35, 3) := by decide +kernel
theorem dX10_init_52 : decode cX10_init 52 = .ok (.aload_n 0, 1) := by decide +kernel
theorem dX10_init_53 : decode cX10_init 53 = .ok (.new 39, 3) := by decide +kernel
theorem dX10_init_56 : decode cX10_init 56 = .ok (.dup, 1) := by decide +kernel
theorem dX10_init_57 : decode cX10_init 57 = .ok (.aload_n 0, 1) := by decide +kernel
theorem dX10_init_58 : decode cX10_init 58 = .ok (.getfield 35, 3) := by decide +kernel
theorem dX10_init_61 : decode cX10_init 61 = .ok (.aload_n 0, 1) := by decide +kernel
theorem dX10_init_62 : decode cX10_init 62 = .ok (.getfield 26, 3) := by decide +kernel
theorem dX10_init_65 : decode cX10_init 65 = .ok (.invokespecial 41, 3) := by decide +kernel
theorem dX10_init_68 : decode cX10_init 68 = .ok (.putfield 44, 3) := by decide +kernel
theorem dX10_init_71 : decode cX10_init 71 = .ok (.aload_n 0, 1) := by decide +kernel
theorem dX10_init_72 : decode cX10_init 72 = .ok (.new 48, 3) := by decide +kernel
theorem dX10_init_75 : decode cX10_init 75 = .ok (.dup, 1) := by decide +kernel
theorem dX10_init_76 : decode cX10_init 76 = .ok (.aload_n 0, 1) := by decide +kernel
theorem dX10_init_77 : decode cX10_init 77 = .ok (.getfield 12, 3) := by decide +kernel
theorem dX10_init_80 : decode cX10_init 80 = .ok (.aload_n 0, 1) := by decide +kernel
theorem dX10_init_81 : decode cX10_init 81 = .ok (.getfield 35, 3) := by decide +kernel
theorem dX10_init_84 : decode cX10_init 84 = .ok (.invokespecial 50, 3) := by decide +kernel
theorem dX10_init_87 : decode cX10_init 87 = .ok (.putfield 53, 3) := by decide +kernel
theorem dX10_init_90 : decode cX10_init 90 = .ok (.aload_n 0, 1) := by decide +kernel
theorem dX10_init_91 : decode cX10_init 91 = .ok (.new 57, 3) := by decide +kernel
theorem dX10_init_94 : decode cX10_init 94 = .ok (.dup, 1) := by decide +kernel
theorem dX10_init_95 : decode cX10_init 95 = .ok (.aload_n 0, 1) := by decide +kernel
theorem dX10_init_96 : decode cX10_init 96 = .ok (.getfield 12, 3) := by decide +kernel
theorem dX10_init_99 : decode cX10_init 99 = .ok (.aload_n 0, 1) := by decide +kernel
theorem dX10_init_100 : decode cX10_init 100 = .ok (.getfield 35, 3) := by decide +kernel
theorem dX10_init_103 : decode cX10_init 103 = .ok (.invokespecial 59, 3) := by decide +kernel
theorem dX10_init_106 : decode cX10_init 106 = .ok (.putfield 60, 3) := by decide +kernel
theorem dX10_init_109 : decode cX10_init 109 = .ok (.aload_n 0, 1) := by decide +kernel
theorem dX10_init_110 : decode cX10_init 110 = .ok (.new 64, 3) := by decide +kernel
theorem dX10_init_113 : decode cX10_init 113 = .ok (.dup, 1) := by decide +kernel
theorem dX10_init_114 : decode cX10_init 114 = .ok (.aload_n 0, 1) := by decide +kernel
theorem dX10_init_115 : decode cX10_init 115 = .ok (.getfield 12, 3) := by decide +kernel
theorem dX10_init_118 : decode cX10_init 118 = .ok (.aload_n 0, 1) := by decide +kernel
theorem dX10_init_119 : decode cX10_init 119 = .ok (.getfield 26, 3) := by decide +kernel
theorem dX10_init_122 : decode cX10_init 122 = .ok (.invokespecial 66, 3) := by decide +kernel
theorem dX10_init_125 : decode cX10_init 125 = .ok (.putfield 69, 3) := by decide +kernel
theorem dX10_init_128 : decode cX10_init 128 = .ok (.return_, 1) := by decide +kernel
theorem dX10_board_0 : decode cX10_board 0 = .ok (.iload_n 1, 1) := by decide +kernel
theorem dX10_board_1 : decode cX10_board 1 = .ok (.invokestatic 73, 3) := by decide +kernel
theorem dX10_board_4 : decode cX10_board 4 = .ok (.ifCond .eq 10, 3) := by decide +kernel
theorem dX10_board_7 : decode cX10_board 7 = .ok (.iload_n 2, 1) := by decide +kernel
theorem dX10_board_8 : decode cX10_board 8 = .ok (.invokestatic 73, 3) := by decide +kernel
theorem dX10_board_11 : decode cX10_board 11 = .ok (.ifCond .ne 6, 3) := by decide +kernel
theorem dX10_board_14 : decode cX10_board 14 = .ok (.bipush (-2), 2) := by decide +kernel
theorem dX10_board_16 : decode cX10_board 16 = .ok (.ireturn, 1) := by decide +kernel
theorem dX10_board_17 : decode cX10_board 17 = .ok (.aload_n 0, 1) := by decide +kernel
theorem dX10_board_18 : decode cX10_board 18 = .ok (.getfield 12, 3) := by decide +kernel
theorem dX10_board_21 : decode cX10_board 21 = .ok (.iload_n 1, 1) := by decide +kernel
theorem dX10_board_22 : decode cX10_board 22 = .ok (.iload_n 2, 1) := by decide +kernel
theorem dX10_board_23 : decode cX10_board 23 = .ok (.invokevirtual 77, 3) := by decide +kernel
theorem dX10_board_26 : decode cX10_board 26 = .ok (.aload_n 0, 1) := by decide +kernel
theorem dX10_board_27 : decode cX10_board 27 = .ok (.getfield 12, 3) := by decide +kernel
theorem dX10_board_30 : decode cX10_board 30 = .ok (.invokevirtual 81, 3) := by decide +kernel
theorem dX10_board_33 : decode cX10_board 33 = .ok (.ireturn, 1) := by decide +kernel
theorem dX10_cell_0 : decode cX10_cell 0 = .ok (.aload_n 0, 1) := by decide +kernel
theorem dX10_cell_1 : decode cX10_cell 1 = .ok (.getfield 12, 3) := by decide +kernel
theorem dX10_cell_4 : decode cX10_cell 4 = .ok (.iload_n 1, 1) := by decide +kernel
theorem dX10_cell_5 : decode cX10_cell 5 = .ok (.invokevirtual 85, 3) := by decide +kernel
theorem dX10_cell_8 : decode cX10_cell 8 = .ok (.ifCond .ne 5, 3) := by decide +kernel
theorem dX10_cell_11 : decode cX10_cell 11 = .ok (.iconst (-1), 1) := by decide +kernel
theorem dX10_cell_12 : decode cX10_cell 12 = .ok (.ireturn, 1) := by decide +kernel
theorem dX10_cell_13 : decode cX10_cell 13 = .ok (.iload_n 2, 1) := by decide +kernel
theorem dX10_cell_14 : decode cX10_cell 14 = .ok (.ifCond .ne 23, 3) := by decide +kernel
theorem dX10_cell_17 : decode cX10_cell 17 = .ok (.iload_n 3, 1) := by decide +kernel
theorem dX10_cell_18 : decode cX10_cell 18 = .ok (.ifCond .lt 19, 3) := by decide +kernel
theorem dX10_cell_21 : decode cX10_cell 21 = .ok (.iload_n 3, 1) := by decide +kernel
theorem dX10_cell_22 : decode cX10_cell 22 = .ok (.bipush 8, 2) := by decide +kernel
theorem dX10_cell_24 : decode cX10_cell 24 = .ok (.if_icmp .gt 13, 3) := by decide +kernel
theorem dX10_cell_27 : decode cX10_cell 27 = .ok (.aload_n 0, 1) := by decide +kernel
theorem dX10_cell_28 : decode cX10_cell 28 = .ok (.getfield 12, 3) := by decide +kernel
theorem dX10_cell_31 : decode cX10_cell 31 = .ok (.iload_n 1, 1) := by decide +kernel
theorem dX10_cell_32 : decode cX10_cell 32 = .ok (.iload_n 3, 1) := by decide +kernel
theorem dX10_cell_33 : decode cX10_cell 33 = .ok (.invokevirtual 88, 3) := by decide +kernel
theorem dX10_cell_36 : decode cX10_cell 36 = .ok (.ireturn, 1) := by decide +kernel
theorem dX10_cell_37 : decode cX10_cell 37 = .ok (.iload_n 2, 1) := by decide +kernel
theorem dX10_cell_38 : decode cX10_cell 38 = .ok (.iconst 1, 1) := by decide +kernel
theorem dX10_cell_39 : decode cX10_cell 39 = .ok (.if_icmp .ne 23, 3) := by decide +kernel
theorem dX10_cell_42 : decode cX10_cell 42 = .ok (.iload_n 3, 1) := by decide +kernel
theorem dX10_cell_43 : decode cX10_cell 43 = .ok (.ifCond .lt 19, 3) := by decide +kernel
theorem dX10_cell_46 : decode cX10_cell 46 = .ok (.iload_n 3, 1) := by decide +kernel
theorem dX10_cell_47 : decode cX10_cell 47 = .ok (.bipush 6, 2) := by decide +kernel
theorem dX10_cell_49 : decode cX10_cell 49 = .ok (.if_icmp .gt 13, 3) := by decide +kernel
theorem dX10_cell_52 : decode cX10_cell 52 = .ok (.aload_n 0, 1) := by decide +kernel
theorem dX10_cell_53 : decode cX10_cell 53 = .ok (.getfield 12, 3) := by decide +kernel
theorem dX10_cell_56 : decode cX10_cell 56 = .ok (.iload_n 1, 1) := by decide +kernel
theorem dX10_cell_57 : decode cX10_cell 57 = .ok (.iload_n 3, 1) := by decide +kernel
theorem dX10_cell_58 : decode cX10_cell 58 = .ok (.invokevirtual 92, 3) := by decide +kernel
theorem dX10_cell_61 : decode cX10_cell 61 = .ok (.ireturn, 1) := by decide +kernel
theorem dX10_cell_62 : decode cX10_cell 62 = .ok (.bipush (-2), 2) := by decide +kernel
theorem dX10_cell_64 : decode cX10_cell 64 = .ok (.ireturn, 1) := by decide +kernel
theorem dX10_group_0 : decode cX10_group 0 = .ok (.iload_n 1, 1) := by decide +kernel
theorem dX10_group_1 : decode cX10_group 1 = .ok (.ifCond .lt 8, 3) := by decide +kernel
theorem dX10_group_4 : decode cX10_group 4 = .ok (.iload_n 1, 1) := by decide +kernel
theorem dX10_group_5 : decode cX10_group 5 = .ok (.iconst 3, 1) := by decide +kernel
theorem dX10_group_6 : decode cX10_group 6 = .ok (.if_icmp .lt 5, 3) := by decide +kernel
theorem dX10_group_9 : decode cX10_group 9 = .ok (.iconst (-1), 1) := by decide +kernel
theorem dX10_group_10 : decode cX10_group 10 = .ok (.ireturn, 1) := by decide +kernel
theorem dX10_group_11 : decode cX10_group 11 = .ok (.aload_n 0, 1) := by decide +kernel
theorem dX10_group_12 : decode cX10_group 12 = .ok (.getfield 12, 3) := by decide +kernel
theorem dX10_group_15 : decode cX10_group 15 = .ok (.iload_n 1, 1) := by decide +kernel
theorem dX10_group_16 : decode cX10_group 16 = .ok (.iload_n 2, 1) := by decide +kernel
theorem dX10_group_17 : decode cX10_group 17 = .ok (.invokevirtual 95, 3) := by decide +kernel
theorem dX10_group_20 : decode cX10_group 20 = .ok (.ireturn, 1) := by decide +kernel
theorem dX10_open_0 : decode cX10_open 0 = .ok (.aload_n 0, 1) := by decide +kernel
theorem dX10_open_1 : decode cX10_open 1 = .ok (.getfield 12, 3) := by decide +kernel
theorem dX10_open_4 : decode cX10_open 4 = .ok (.iload_n 1, 1) := by decide +kernel
theorem dX10_open_5 : decode cX10_open 5 = .ok (.invokevirtual 85, 3) := by decide +kernel
theorem dX10_open_8 : decode cX10_open 8 = .ok (.ifCond .ne 5, 3) := by decide +kernel
theorem dX10_open_11 : decode cX10_open 11 = .ok (.iconst (-1), 1) := by decide +kernel
theorem dX10_open_12 : decode cX10_open 12 = .ok (.ireturn, 1) := by decide +kernel
theorem dX10_open_13 : decode cX10_open 13 = .ok (.aload_n 0, 1) := by decide +kernel
theorem dX10_open_14 : decode cX10_open 14 = .ok (.getfield 12, 3) := by decide +kernel
theorem dX10_open_17 : decode cX10_open 17 = .ok (.iload_n 1, 1) := by decide +kernel
theorem dX10_open_18 : decode cX10_open 18 = .ok (.aload_n 0, 1) := by decide +kernel
theorem dX10_open_19 : decode cX10_open 19 = .ok (.getfield 12, 3) := by decide +kernel
theorem dX10_open_22 : decode cX10_open 22 = .ok (.invokevirtual 99, 3) := by decide +kernel
theorem dX10_open_25 : decode cX10_open 25 = .ok (.invokevirtual 102, 3) := by decide +kernel
theorem dX10_open_28 : decode cX10_open 28 = .ok (.invokestatic 106, 3) := by decide +kernel
theorem dX10_open_31 : decode cX10_open 31 = .ok (.ireturn, 1) := by decide +kernel
theorem dX10_face_0 : decode cX10_face 0 = .ok (.iload_n 1, 1) := by decide +kernel
theorem dX10_face_1 : decode cX10_face 1 = .ok (.invokestatic 110, 3) := by decide +kernel
theorem dX10_face_4 : decode cX10_face 4 = .ok (.ifCond .ne 5, 3) := by decide +kernel
theorem dX10_face_7 : decode cX10_face 7 = .ok (.iconst (-1), 1) := by decide +kernel
theorem dX10_face_8 : decode cX10_face 8 = .ok (.ireturn, 1) := by decide +kernel
theorem dX10_face_9 : decode cX10_face 9 = .ok (.iload_n 2, 1) := by decide +kernel
theorem dX10_face_10 : decode cX10_face 10 = .ok (.tableswitch 41 0 2 #[26, 31, 36], 26) := by decide +kernel
theorem dX10_face_36 : decode cX10_face 36 = .ok (.iload_n 1, 1) := by decide +kernel
theorem dX10_face_37 : decode cX10_face 37 = .ok (.invokestatic 113, 3) := by decide +kernel
theorem dX10_face_40 : decode cX10_face 40 = .ok (.ireturn, 1) := by decide +kernel
theorem dX10_face_41 : decode cX10_face 41 = .ok (.iload_n 1, 1) := by decide +kernel
theorem dX10_face_42 : decode cX10_face 42 = .ok (.invokestatic 117, 3) := by decide +kernel
theorem dX10_face_45 : decode cX10_face 45 = .ok (.ireturn, 1) := by decide +kernel
theorem dX10_face_46 : decode cX10_face 46 = .ok (.iload_n 1, 1) := by decide +kernel
theorem dX10_face_47 : decode cX10_face 47 = .ok (.invokestatic 120, 3) := by decide +kernel
theorem dX10_face_50 : decode cX10_face 50 = .ok (.ireturn, 1) := by decide +kernel
theorem dX10_face_51 : decode cX10_face 51 = .ok (.bipush (-2), 2) := by decide +kernel
theorem dX10_face_53 : decode cX10_face 53 = .ok (.ireturn, 1) := by decide +kernel
theorem dX10_turn_0 : decode cX10_turn 0 = .ok (.iload_n 1, 1) := by decide +kernel
theorem dX10_turn_1 : decode cX10_turn 1 = .ok (.invokestatic 110, 3) := by decide +kernel
theorem dX10_turn_4 : decode cX10_turn 4 = .ok (.ifCond .ne 5, 3) := by decide +kernel
theorem dX10_turn_7 : decode cX10_turn 7 = .ok (.iconst (-1), 1) := by decide +kernel
theorem dX10_turn_8 : decode cX10_turn 8 = .ok (.ireturn, 1) := by decide +kernel
theorem dX10_turn_9 : decode cX10_turn 9 = .ok (.iload_n 2, 1) := by decide +kernel
theorem dX10_turn_10 : decode cX10_turn 10 = .ok (.invokestatic 123, 3) := by decide +kernel
theorem dX10_turn_13 : decode cX10_turn 13 = .ok (.ifCond .eq 11, 3) := by decide +kernel
theorem dX10_turn_16 : decode cX10_turn 16 = .ok (.iload_n 1, 1) := by decide +kernel
theorem dX10_turn_17 : decode cX10_turn 17 = .ok (.iload_n 2, 1) := by decide +kernel
theorem dX10_turn_18 : decode cX10_turn 18 = .ok (.invokestatic 126, 3) := by decide +kernel
theorem dX10_turn_21 : decode cX10_turn 21 = .ok (.goto 5, 3) := by decide +kernel
theorem dX10_turn_24 : decode cX10_turn 24 = .ok (.bipush (-2), 2) := by decide +kernel
theorem dX10_turn_26 : decode cX10_turn 26 = .ok (.ireturn, 1) := by decide +kernel
theorem dX10_stance_0 : decode cX10_stance 0 = .ok (.iload_n 1, 1) := by decide +kernel
theorem dX10_stance_1 : decode cX10_stance 1 = .ok (.invokestatic 129, 3) := by decide +kernel
theorem dX10_stance_4 : decode cX10_stance 4 = .ok (.ifCond .eq 10, 3) := by decide +kernel
theorem dX10_stance_7 : decode cX10_stance 7 = .ok (.iload_n 2, 1) := by decide +kernel
theorem dX10_stance_8 : decode cX10_stance 8 = .ok (.invokestatic 129, 3) := by decide +kernel
theorem dX10_stance_11 : decode cX10_stance 11 = .ok (.ifCond .ne 6, 3) := by decide +kernel
theorem dX10_stance_14 : decode cX10_stance 14 = .ok (.bipush (-2), 2) := by decide +kernel
theorem dX10_stance_16 : decode cX10_stance 16 = .ok (.ireturn, 1) := by decide +kernel
theorem dX10_stance_17 : decode cX10_stance 17 = .ok (.iload_n 2, 1) := by decide +kernel
theorem dX10_stance_18 : decode cX10_stance 18 = .ok (.iload_n 1, 1) := by decide +kernel
theorem dX10_stance_19 : decode cX10_stance 19 = .ok (.if_icmp .eq 11, 3) := by decide +kernel
theorem dX10_stance_22 : decode cX10_stance 22 = .ok (.iload_n 2, 1) := by decide +kernel
theorem dX10_stance_23 : decode cX10_stance 23 = .ok (.bipush 7, 2) := by decide +kernel
theorem dX10_stance_25 : decode cX10_stance 25 = .ok (.iload_n 1, 1) := by decide +kernel
theorem dX10_stance_26 : decode cX10_stance 26 = .ok (.isub, 1) := by decide +kernel
theorem dX10_stance_27 : decode cX10_stance 27 = .ok (.if_icmp .ne 8, 3) := by decide +kernel
theorem dX10_stance_30 : decode cX10_stance 30 = .ok (.bipush (-9), 2) := by decide +kernel
theorem dX10_stance_32 : decode cX10_stance 32 = .ok (.goto 8, 3) := by decide +kernel
theorem dX10_stance_35 : decode cX10_stance 35 = .ok (.iload_n 1, 1) := by decide +kernel
theorem dX10_stance_36 : decode cX10_stance 36 = .ok (.iload_n 2, 1) := by decide +kernel
theorem dX10_stance_37 : decode cX10_stance 37 = .ok (.invokestatic 132, 3) := by decide +kernel
theorem dX10_stance_40 : decode cX10_stance 40 = .ok (.ireturn, 1) := by decide +kernel
theorem dX10_apart_0 : decode cX10_apart 0 = .ok (.iload_n 1, 1) := by decide +kernel
theorem dX10_apart_1 : decode cX10_apart 1 = .ok (.invokestatic 110, 3) := by decide +kernel
theorem dX10_apart_4 : decode cX10_apart 4 = .ok (.ifCond .eq 10, 3) := by decide +kernel
theorem dX10_apart_7 : decode cX10_apart 7 = .ok (.iload_n 2, 1) := by decide +kernel
theorem dX10_apart_8 : decode cX10_apart 8 = .ok (.invokestatic 110, 3) := by decide +kernel
theorem dX10_apart_11 : decode cX10_apart 11 = .ok (.ifCond .ne 5, 3) := by decide +kernel
theorem dX10_apart_14 : decode cX10_apart 14 = .ok (.iconst (-1), 1) := by decide +kernel
theorem dX10_apart_15 : decode cX10_apart 15 = .ok (.ireturn, 1) := by decide +kernel
theorem dX10_apart_16 : decode cX10_apart 16 = .ok (.aload_n 0, 1) := by decide +kernel
theorem dX10_apart_17 : decode cX10_apart 17 = .ok (.getfield 26, 3) := by decide +kernel
theorem dX10_apart_20 : decode cX10_apart 20 = .ok (.iload_n 1, 1) := by decide +kernel
theorem dX10_apart_21 : decode cX10_apart 21 = .ok (.invokevirtual 135, 3) := by decide +kernel
theorem dX10_apart_24 : decode cX10_apart 24 = .ok (.aload_n 0, 1) := by decide +kernel
theorem dX10_apart_25 : decode cX10_apart 25 = .ok (.getfield 26, 3) := by decide +kernel
theorem dX10_apart_28 : decode cX10_apart 28 = .ok (.aload_n 0, 1) := by decide +kernel
theorem dX10_apart_29 : decode cX10_apart 29 = .ok (.getfield 19, 3) := by decide +kernel
theorem dX10_apart_32 : decode cX10_apart 32 = .ok (.invokevirtual 139, 3) := by decide +kernel
theorem dX10_apart_35 : decode cX10_apart 35 = .ok (.aload_n 0, 1) := by decide +kernel
theorem dX10_apart_36 : decode cX10_apart 36 = .ok (.getfield 26, 3) := by decide +kernel
theorem dX10_apart_39 : decode cX10_apart 39 = .ok (.iload_n 2, 1) := by decide +kernel
theorem dX10_apart_40 : decode cX10_apart 40 = .ok (.invokevirtual 143, 3) := by decide +kernel
theorem dX10_apart_43 : decode cX10_apart 43 = .ok (.invokestatic 146, 3) := by decide +kernel
theorem dX10_apart_46 : decode cX10_apart 46 = .ok (.ireturn, 1) := by decide +kernel
theorem dX10_roll_0 : decode cX10_roll 0 = .ok (.aload_n 0, 1) := by decide +kernel
theorem dX10_roll_1 : decode cX10_roll 1 = .ok (.iload_n 1, 1) := by decide +kernel
theorem dX10_roll_2 : decode cX10_roll 2 = .ok (.iload_n 2, 1) := by decide +kernel
theorem dX10_roll_3 : decode cX10_roll 3 = .ok (.invokevirtual 149, 3) := by decide +kernel
theorem dX10_roll_6 : decode cX10_roll 6 = .ok (.ifCond .ne 5, 3) := by decide +kernel
theorem dX10_roll_9 : decode cX10_roll 9 = .ok (.iconst (-1), 1) := by decide +kernel
theorem dX10_roll_10 : decode cX10_roll 10 = .ok (.ireturn, 1) := by decide +kernel
theorem dX10_roll_11 : decode cX10_roll 11 = .ok (.iload_n 3, 1) := by decide +kernel
theorem dX10_roll_12 : decode cX10_roll 12 = .ok (.invokestatic 123, 3) := by decide +kernel
theorem dX10_roll_15 : decode cX10_roll 15 = .ok (.ifCond .ne 6, 3) := by decide +kernel
theorem dX10_roll_18 : decode cX10_roll 18 = .ok (.bipush (-2), 2) := by decide +kernel
theorem dX10_roll_20 : decode cX10_roll 20 = .ok (.ireturn, 1) := by decide +kernel
theorem dX10_roll_21 : decode cX10_roll 21 = .ok (.aload_n 0, 1) := by decide +kernel
theorem dX10_roll_22 : decode cX10_roll 22 = .ok (.getfield 35, 3) := by decide +kernel
theorem dX10_roll_25 : decode cX10_roll 25 = .ok (.iload_n 1, 1) := by decide +kernel
theorem dX10_roll_26 : decode cX10_roll 26 = .ok (.iload_n 2, 1) := by decide +kernel
theorem dX10_roll_27 : decode cX10_roll 27 = .ok (.invokestatic 152, 3) := by decide +kernel
theorem dX10_roll_30 : decode cX10_roll 30 = .ok (.iload_n 3, 1) := by decide +kernel
theorem dX10_roll_31 : decode cX10_roll 31 = .ok (.invokevirtual 155, 3) := by decide +kernel
theorem dX10_roll_34 : decode cX10_roll 34 = .ok (.invokestatic 146, 3) := by decide +kernel
theorem dX10_roll_37 : decode cX10_roll 37 = .ok (.ireturn, 1) := by decide +kernel
theorem dX10_shortest_0 : decode cX10_shortest 0 = .ok (.aload_n 0, 1) := by decide +kernel
theorem dX10_shortest_1 : decode cX10_shortest 1 = .ok (.iload_n 1, 1) := by decide +kernel
theorem dX10_shortest_2 : decode cX10_shortest 2 = .ok (.iload_n 2, 1) := by decide +kernel
theorem dX10_shortest_3 : decode cX10_shortest 3 = .ok (.iload_n 3, 1) := by decide +kernel
theorem dX10_shortest_4 : decode cX10_shortest 4 = .ok (.iload 4, 2) := by decide +kernel
theorem dX10_shortest_6 : decode cX10_shortest 6 = .ok (.invokevirtual 158, 3) := by decide +kernel
theorem dX10_shortest_9 : decode cX10_shortest 9 = .ok (.istore 5, 2) := by decide +kernel
theorem dX10_shortest_11 : decode cX10_shortest 11 = .ok (.iload 5, 2) := by decide +kernel
theorem dX10_shortest_13 : decode cX10_shortest 13 = .ok (.ifCond .eq 8, 3) := by decide +kernel
theorem dX10_shortest_16 : decode cX10_shortest 16 = .ok (.iload 5, 2) := by decide +kernel
theorem dX10_shortest_18 : decode cX10_shortest 18 = .ok (.goto 18, 3) := by decide +kernel
theorem dX10_shortest_21 : decode cX10_shortest 21 = .ok (.aload_n 0, 1) := by decide +kernel
theorem dX10_shortest_22 : decode cX10_shortest 22 = .ok (.getfield 44, 3) := by decide +kernel
theorem dX10_shortest_25 : decode cX10_shortest 25 = .ok (.iload_n 1, 1) := by decide +kernel
theorem dX10_shortest_26 : decode cX10_shortest 26 = .ok (.iload_n 2, 1) := by decide +kernel
theorem dX10_shortest_27 : decode cX10_shortest 27 = .ok (.invokestatic 152, 3) := by decide +kernel
theorem dX10_shortest_30 : decode cX10_shortest 30 = .ok (.iload_n 3, 1) := by decide +kernel
theorem dX10_shortest_31 : decode cX10_shortest 31 = .ok (.iload 4, 2) := by decide +kernel
theorem dX10_shortest_33 : decode cX10_shortest 33 = .ok (.invokevirtual 162, 3) := by decide +kernel
theorem dX10_shortest_36 : decode cX10_shortest 36 = .ok (.ireturn, 1) := by decide +kernel
theorem dX10_way_0 : decode cX10_way 0 = .ok (.aload_n 0, 1) := by decide +kernel
theorem dX10_way_1 : decode cX10_way 1 = .ok (.iload_n 1, 1) := by decide +kernel
theorem dX10_way_2 : decode cX10_way 2 = .ok (.iload_n 2, 1) := by decide +kernel
theorem dX10_way_3 : decode cX10_way 3 = .ok (.iload_n 3, 1) := by decide +kernel
theorem dX10_way_4 : decode cX10_way 4 = .ok (.iload 4, 2) := by decide +kernel
theorem dX10_way_6 : decode cX10_way 6 = .ok (.invokevirtual 158, 3) := by decide +kernel
theorem dX10_way_9 : decode cX10_way 9 = .ok (.istore 6, 2) := by decide +kernel
theorem dX10_way_11 : decode cX10_way 11 = .ok (.iload 6, 2) := by decide +kernel
theorem dX10_way_13 : decode cX10_way 13 = .ok (.ifCond .eq 8, 3) := by decide +kernel
theorem dX10_way_16 : decode cX10_way 16 = .ok (.iload 6, 2) := by decide +kernel
theorem dX10_way_18 : decode cX10_way 18 = .ok (.goto 20, 3) := by decide +kernel
theorem dX10_way_21 : decode cX10_way 21 = .ok (.aload_n 0, 1) := by decide +kernel
theorem dX10_way_22 : decode cX10_way 22 = .ok (.getfield 44, 3) := by decide +kernel
theorem dX10_way_25 : decode cX10_way 25 = .ok (.iload_n 1, 1) := by decide +kernel
theorem dX10_way_26 : decode cX10_way 26 = .ok (.iload_n 2, 1) := by decide +kernel
theorem dX10_way_27 : decode cX10_way 27 = .ok (.invokestatic 152, 3) := by decide +kernel
theorem dX10_way_30 : decode cX10_way 30 = .ok (.iload_n 3, 1) := by decide +kernel
theorem dX10_way_31 : decode cX10_way 31 = .ok (.iload 4, 2) := by decide +kernel
theorem dX10_way_33 : decode cX10_way 33 = .ok (.iload 5, 2) := by decide +kernel
theorem dX10_way_35 : decode cX10_way 35 = .ok (.invokevirtual 166, 3) := by decide +kernel
theorem dX10_way_38 : decode cX10_way 38 = .ok (.ireturn, 1) := by decide +kernel
theorem dX10_ways_0 : decode cX10_ways 0 = .ok (.aload_n 0, 1) := by decide +kernel
theorem dX10_ways_1 : decode cX10_ways 1 = .ok (.iload_n 1, 1) := by decide +kernel
theorem dX10_ways_2 : decode cX10_ways 2 = .ok (.iload_n 2, 1) := by decide +kernel
theorem dX10_ways_3 : decode cX10_ways 3 = .ok (.iload_n 3, 1) := by decide +kernel
theorem dX10_ways_4 : decode cX10_ways 4 = .ok (.iload 4, 2) := by decide +kernel
theorem dX10_ways_6 : decode cX10_ways 6 = .ok (.invokevirtual 158, 3) := by decide +kernel
theorem dX10_ways_9 : decode cX10_ways 9 = .ok (.istore 5, 2) := by decide +kernel
theorem dX10_ways_11 : decode cX10_ways 11 = .ok (.iload 5, 2) := by decide +kernel
theorem dX10_ways_13 : decode cX10_ways 13 = .ok (.ifCond .eq 9, 3) := by decide +kernel
theorem dX10_ways_16 : decode cX10_ways 16 = .ok (.iload 5, 2) := by decide +kernel
theorem dX10_ways_18 : decode cX10_ways 18 = .ok (.i2l, 1) := by decide +kernel
theorem dX10_ways_19 : decode cX10_ways 19 = .ok (.goto 18, 3) := by decide +kernel
theorem dX10_ways_22 : decode cX10_ways 22 = .ok (.aload_n 0, 1) := by decide +kernel
theorem dX10_ways_23 : decode cX10_ways 23 = .ok (.getfield 44, 3) := by decide +kernel
theorem dX10_ways_26 : decode cX10_ways 26 = .ok (.iload_n 1, 1) := by decide +kernel
theorem dX10_ways_27 : decode cX10_ways 27 = .ok (.iload_n 2, 1) := by decide +kernel
theorem dX10_ways_28 : decode cX10_ways 28 = .ok (.invokestatic 152, 3) := by decide +kernel
theorem dX10_ways_31 : decode cX10_ways 31 = .ok (.iload_n 3, 1) := by decide +kernel
theorem dX10_ways_32 : decode cX10_ways 32 = .ok (.iload 4, 2) := by decide +kernel
theorem dX10_ways_34 : decode cX10_ways 34 = .ok (.invokevirtual 169, 3) := by decide +kernel
theorem dX10_ways_37 : decode cX10_ways 37 = .ok (.lreturn, 1) := by decide +kernel
theorem dX10_cheapest_0 : decode cX10_cheapest 0 = .ok (.aload_n 0, 1) := by decide +kernel
theorem dX10_cheapest_1 : decode cX10_cheapest 1 = .ok (.iload_n 1, 1) := by decide +kernel
theorem dX10_cheapest_2 : decode cX10_cheapest 2 = .ok (.iload_n 2, 1) := by decide +kernel
theorem dX10_cheapest_3 : decode cX10_cheapest 3 = .ok (.iload_n 3, 1) := by decide +kernel
theorem dX10_cheapest_4 : decode cX10_cheapest 4 = .ok (.iload 4, 2) := by decide +kernel
theorem dX10_cheapest_6 : decode cX10_cheapest 6 = .ok (.invokevirtual 158, 3) := by decide +kernel
theorem dX10_cheapest_9 : decode cX10_cheapest 9 = .ok (.istore 5, 2) := by decide +kernel
theorem dX10_cheapest_11 : decode cX10_cheapest 11 = .ok (.iload 5, 2) := by decide +kernel
theorem dX10_cheapest_13 : decode cX10_cheapest 13 = .ok (.ifCond .eq 8, 3) := by decide +kernel
theorem dX10_cheapest_16 : decode cX10_cheapest 16 = .ok (.iload 5, 2) := by decide +kernel
theorem dX10_cheapest_18 : decode cX10_cheapest 18 = .ok (.goto 18, 3) := by decide +kernel
theorem dX10_cheapest_21 : decode cX10_cheapest 21 = .ok (.aload_n 0, 1) := by decide +kernel
theorem dX10_cheapest_22 : decode cX10_cheapest 22 = .ok (.getfield 44, 3) := by decide +kernel
theorem dX10_cheapest_25 : decode cX10_cheapest 25 = .ok (.iload_n 1, 1) := by decide +kernel
theorem dX10_cheapest_26 : decode cX10_cheapest 26 = .ok (.iload_n 2, 1) := by decide +kernel
theorem dX10_cheapest_27 : decode cX10_cheapest 27 = .ok (.invokestatic 152, 3) := by decide +kernel
theorem dX10_cheapest_30 : decode cX10_cheapest 30 = .ok (.iload_n 3, 1) := by decide +kernel
theorem dX10_cheapest_31 : decode cX10_cheapest 31 = .ok (.iload 4, 2) := by decide +kernel
theorem dX10_cheapest_33 : decode cX10_cheapest 33 = .ok (.invokevirtual 173, 3) := by decide +kernel
theorem dX10_cheapest_36 : decode cX10_cheapest 36 = .ok (.ireturn, 1) := by decide +kernel
theorem dX10_stances_0 : decode cX10_stances 0 = .ok (.aload_n 0, 1) := by decide +kernel
theorem dX10_stances_1 : decode cX10_stances 1 = .ok (.iload_n 1, 1) := by decide +kernel
theorem dX10_stances_2 : decode cX10_stances 2 = .ok (.iload_n 2, 1) := by decide +kernel
theorem dX10_stances_3 : decode cX10_stances 3 = .ok (.invokevirtual 149, 3) := by decide +kernel
theorem dX10_stances_6 : decode cX10_stances 6 = .ok (.ifCond .eq 14, 3) := by decide +kernel
theorem dX10_stances_9 : decode cX10_stances 9 = .ok (.aload_n 0, 1) := by decide +kernel
theorem dX10_stances_10 : decode cX10_stances 10 = .ok (.getfield 12, 3) := by decide +kernel
theorem dX10_stances_13 : decode cX10_stances 13 = .ok (.iload_n 3, 1) := by decide +kernel
theorem dX10_stances_14 : decode cX10_stances 14 = .ok (.invokevirtual 85, 3) := by decide +kernel
theorem dX10_stances_17 : decode cX10_stances 17 = .ok (.ifCond .ne 5, 3) := by decide +kernel
theorem dX10_stances_20 : decode cX10_stances 20 = .ok (.iconst (-1), 1) := by decide +kernel
theorem dX10_stances_21 : decode cX10_stances 21 = .ok (.ireturn, 1) := by decide +kernel
theorem dX10_stances_22 : decode cX10_stances 22 = .ok (.aload_n 0, 1) := by decide +kernel
theorem dX10_stances_23 : decode cX10_stances 23 = .ok (.getfield 44, 3) := by decide +kernel
theorem dX10_stances_26 : decode cX10_stances 26 = .ok (.iload_n 1, 1) := by decide +kernel
theorem dX10_stances_27 : decode cX10_stances 27 = .ok (.iload_n 2, 1) := by decide +kernel
theorem dX10_stances_28 : decode cX10_stances 28 = .ok (.invokestatic 152, 3) := by decide +kernel
theorem dX10_stances_31 : decode cX10_stances 31 = .ok (.iload_n 3, 1) := by decide +kernel
theorem dX10_stances_32 : decode cX10_stances 32 = .ok (.invokevirtual 176, 3) := by decide +kernel
theorem dX10_stances_35 : decode cX10_stances 35 = .ok (.ireturn, 1) := by decide +kernel
theorem dX10_reach_0 : decode cX10_reach 0 = .ok (.aload_n 0, 1) := by decide +kernel
theorem dX10_reach_1 : decode cX10_reach 1 = .ok (.iload_n 1, 1) := by decide +kernel
theorem dX10_reach_2 : decode cX10_reach 2 = .ok (.iload_n 2, 1) := by decide +kernel
theorem dX10_reach_3 : decode cX10_reach 3 = .ok (.invokevirtual 149, 3) := by decide +kernel
theorem dX10_reach_6 : decode cX10_reach 6 = .ok (.ifCond .eq 18, 3) := by decide +kernel
theorem dX10_reach_9 : decode cX10_reach 9 = .ok (.aload_n 0, 1) := by decide +kernel
theorem dX10_reach_10 : decode cX10_reach 10 = .ok (.getfield 44, 3) := by decide +kernel
theorem dX10_reach_13 : decode cX10_reach 13 = .ok (.iload_n 1, 1) := by decide +kernel
theorem dX10_reach_14 : decode cX10_reach 14 = .ok (.iload_n 2, 1) := by decide +kernel
theorem dX10_reach_15 : decode cX10_reach 15 = .ok (.invokestatic 152, 3) := by decide +kernel
theorem dX10_reach_18 : decode cX10_reach 18 = .ok (.invokevirtual 179, 3) := by decide +kernel
theorem dX10_reach_21 : decode cX10_reach 21 = .ok (.goto 4, 3) := by decide +kernel
theorem dX10_reach_24 : decode cX10_reach 24 = .ok (.iconst (-1), 1) := by decide +kernel
theorem dX10_reach_25 : decode cX10_reach 25 = .ok (.ireturn, 1) := by decide +kernel
theorem dX10_tours_0 : decode cX10_tours 0 = .ok (.aload_n 0, 1) := by decide +kernel
theorem dX10_tours_1 : decode cX10_tours 1 = .ok (.iload_n 1, 1) := by decide +kernel
theorem dX10_tours_2 : decode cX10_tours 2 = .ok (.iload_n 2, 1) := by decide +kernel
theorem dX10_tours_3 : decode cX10_tours 3 = .ok (.iload_n 3, 1) := by decide +kernel
theorem dX10_tours_4 : decode cX10_tours 4 = .ok (.invokevirtual 182, 3) := by decide +kernel
theorem dX10_tours_7 : decode cX10_tours 7 = .ok (.istore 4, 2) := by decide +kernel
theorem dX10_tours_9 : decode cX10_tours 9 = .ok (.iload 4, 2) := by decide +kernel
theorem dX10_tours_11 : decode cX10_tours 11 = .ok (.ifCond .eq 8, 3) := by decide +kernel
theorem dX10_tours_14 : decode cX10_tours 14 = .ok (.iload 4, 2) := by decide +kernel
theorem dX10_tours_16 : decode cX10_tours 16 = .ok (.goto 16, 3) := by decide +kernel
theorem dX10_tours_19 : decode cX10_tours 19 = .ok (.aload_n 0, 1) := by decide +kernel
theorem dX10_tours_20 : decode cX10_tours 20 = .ok (.getfield 53, 3) := by decide +kernel
theorem dX10_tours_23 : decode cX10_tours 23 = .ok (.iload_n 1, 1) := by decide +kernel
theorem dX10_tours_24 : decode cX10_tours 24 = .ok (.iload_n 2, 1) := by decide +kernel
theorem dX10_tours_25 : decode cX10_tours 25 = .ok (.invokestatic 152, 3) := by decide +kernel
theorem dX10_tours_28 : decode cX10_tours 28 = .ok (.iload_n 3, 1) := by decide +kernel
theorem dX10_tours_29 : decode cX10_tours 29 = .ok (.invokevirtual 185, 3) := by decide +kernel
theorem dX10_tours_32 : decode cX10_tours 32 = .ok (.ireturn, 1) := by decide +kernel
theorem dX10_tour_0 : decode cX10_tour 0 = .ok (.aload_n 0, 1) := by decide +kernel
theorem dX10_tour_1 : decode cX10_tour 1 = .ok (.iload_n 1, 1) := by decide +kernel
theorem dX10_tour_2 : decode cX10_tour 2 = .ok (.iload_n 2, 1) := by decide +kernel
theorem dX10_tour_3 : decode cX10_tour 3 = .ok (.iload_n 3, 1) := by decide +kernel
theorem dX10_tour_4 : decode cX10_tour 4 = .ok (.invokevirtual 182, 3) := by decide +kernel
theorem dX10_tour_7 : decode cX10_tour 7 = .ok (.istore 5, 2) := by decide +kernel
theorem dX10_tour_9 : decode cX10_tour 9 = .ok (.iload 5, 2) := by decide +kernel
theorem dX10_tour_11 : decode cX10_tour 11 = .ok (.ifCond .eq 8, 3) := by decide +kernel
theorem dX10_tour_14 : decode cX10_tour 14 = .ok (.iload 5, 2) := by decide +kernel
theorem dX10_tour_16 : decode cX10_tour 16 = .ok (.goto 18, 3) := by decide +kernel
theorem dX10_tour_19 : decode cX10_tour 19 = .ok (.aload_n 0, 1) := by decide +kernel
theorem dX10_tour_20 : decode cX10_tour 20 = .ok (.getfield 53, 3) := by decide +kernel
theorem dX10_tour_23 : decode cX10_tour 23 = .ok (.iload_n 1, 1) := by decide +kernel
theorem dX10_tour_24 : decode cX10_tour 24 = .ok (.iload_n 2, 1) := by decide +kernel
theorem dX10_tour_25 : decode cX10_tour 25 = .ok (.invokestatic 152, 3) := by decide +kernel
theorem dX10_tour_28 : decode cX10_tour 28 = .ok (.iload_n 3, 1) := by decide +kernel
theorem dX10_tour_29 : decode cX10_tour 29 = .ok (.iload 4, 2) := by decide +kernel
theorem dX10_tour_31 : decode cX10_tour 31 = .ok (.invokevirtual 187, 3) := by decide +kernel
theorem dX10_tour_34 : decode cX10_tour 34 = .ok (.ireturn, 1) := by decide +kernel
theorem dX10_row_0 : decode cX10_row 0 = .ok (.iload_n 1, 1) := by decide +kernel
theorem dX10_row_1 : decode cX10_row 1 = .ok (.invokestatic 123, 3) := by decide +kernel
theorem dX10_row_4 : decode cX10_row 4 = .ok (.ifCond .eq 13, 3) := by decide +kernel
theorem dX10_row_7 : decode cX10_row 7 = .ok (.iload_n 2, 1) := by decide +kernel
theorem dX10_row_8 : decode cX10_row 8 = .ok (.ifCond .lt 9, 3) := by decide +kernel
theorem dX10_row_11 : decode cX10_row 11 = .ok (.iload_n 2, 1) := by decide +kernel
theorem dX10_row_12 : decode cX10_row 12 = .ok (.bipush 6, 2) := by decide +kernel
theorem dX10_row_14 : decode cX10_row 14 = .ok (.if_icmp .le 6, 3) := by decide +kernel
theorem dX10_row_17 : decode cX10_row 17 = .ok (.bipush (-2), 2) := by decide +kernel
theorem dX10_row_19 : decode cX10_row 19 = .ok (.ireturn, 1) := by decide +kernel
theorem dX10_row_20 : decode cX10_row 20 = .ok (.aload_n 0, 1) := by decide +kernel
theorem dX10_row_21 : decode cX10_row 21 = .ok (.getfield 60, 3) := by decide +kernel
theorem dX10_row_24 : decode cX10_row 24 = .ok (.invokevirtual 189, 3) := by decide +kernel
theorem dX10_row_27 : decode cX10_row 27 = .ok (.bipush 20, 2) := by decide +kernel
theorem dX10_row_29 : decode cX10_row 29 = .ok (.if_icmp .lt 8, 3) := by decide +kernel
theorem dX10_row_32 : decode cX10_row 32 = .ok (.bipush (-4), 2) := by decide +kernel
theorem dX10_row_34 : decode cX10_row 34 = .ok (.goto 12, 3) := by decide +kernel
theorem dX10_row_37 : decode cX10_row 37 = .ok (.aload_n 0, 1) := by decide +kernel
theorem dX10_row_38 : decode cX10_row 38 = .ok (.getfield 60, 3) := by decide +kernel
theorem dX10_row_41 : decode cX10_row 41 = .ok (.iload_n 1, 1) := by decide +kernel
theorem dX10_row_42 : decode cX10_row 42 = .ok (.iload_n 2, 1) := by decide +kernel
theorem dX10_row_43 : decode cX10_row 43 = .ok (.invokevirtual 191, 3) := by decide +kernel
theorem dX10_row_46 : decode cX10_row 46 = .ok (.ireturn, 1) := by decide +kernel
theorem dX10_clear_0 : decode cX10_clear 0 = .ok (.aload_n 0, 1) := by decide +kernel
theorem dX10_clear_1 : decode cX10_clear 1 = .ok (.getfield 60, 3) := by decide +kernel
theorem dX10_clear_4 : decode cX10_clear 4 = .ok (.invokevirtual 194, 3) := by decide +kernel
theorem dX10_clear_7 : decode cX10_clear 7 = .ok (.ireturn, 1) := by decide +kernel
theorem dX10_starts_0 : decode cX10_starts 0 = .ok (.aload_n 0, 1) := by decide +kernel
theorem dX10_starts_1 : decode cX10_starts 1 = .ok (.getfield 60, 3) := by decide +kernel
theorem dX10_starts_4 : decode cX10_starts 4 = .ok (.invokevirtual 197, 3) := by decide +kernel
theorem dX10_starts_7 : decode cX10_starts 7 = .ok (.ireturn, 1) := by decide +kernel
theorem dX10_start_0 : decode cX10_start 0 = .ok (.aload_n 0, 1) := by decide +kernel
theorem dX10_start_1 : decode cX10_start 1 = .ok (.getfield 60, 3) := by decide +kernel
theorem dX10_start_4 : decode cX10_start 4 = .ok (.iload_n 1, 1) := by decide +kernel
theorem dX10_start_5 : decode cX10_start 5 = .ok (.invokevirtual 200, 3) := by decide +kernel
theorem dX10_start_8 : decode cX10_start 8 = .ok (.invokestatic 146, 3) := by decide +kernel
theorem dX10_start_11 : decode cX10_start 11 = .ok (.ireturn, 1) := by decide +kernel
theorem dX10_sure_0 : decode cX10_sure 0 = .ok (.iload_n 1, 1) := by decide +kernel
theorem dX10_sure_1 : decode cX10_sure 1 = .ok (.ifCond .lt 8, 3) := by decide +kernel
theorem dX10_sure_4 : decode cX10_sure 4 = .ok (.iload_n 1, 1) := by decide +kernel
theorem dX10_sure_5 : decode cX10_sure 5 = .ok (.iconst 2, 1) := by decide +kernel
theorem dX10_sure_6 : decode cX10_sure 6 = .ok (.if_icmp .le 8, 3) := by decide +kernel
theorem dX10_sure_9 : decode cX10_sure 9 = .ok (.bipush (-2), 2) := by decide +kernel
theorem dX10_sure_11 : decode cX10_sure 11 = .ok (.goto 11, 3) := by decide +kernel
theorem dX10_sure_14 : decode cX10_sure 14 = .ok (.aload_n 0, 1) := by decide +kernel
theorem dX10_sure_15 : decode cX10_sure 15 = .ok (.getfield 60, 3) := by decide +kernel
theorem dX10_sure_18 : decode cX10_sure 18 = .ok (.iload_n 1, 1) := by decide +kernel
theorem dX10_sure_19 : decode cX10_sure 19 = .ok (.invokevirtual 203, 3) := by decide +kernel
theorem dX10_sure_22 : decode cX10_sure 22 = .ok (.ireturn, 1) := by decide +kernel
theorem dX10_next_0 : decode cX10_next 0 = .ok (.aload_n 0, 1) := by decide +kernel
theorem dX10_next_1 : decode cX10_next 1 = .ok (.getfield 60, 3) := by decide +kernel
theorem dX10_next_4 : decode cX10_next 4 = .ok (.invokevirtual 206, 3) := by decide +kernel
theorem dX10_next_7 : decode cX10_next 7 = .ok (.ireturn, 1) := by decide +kernel
theorem dX10_sound_0 : decode cX10_sound 0 = .ok (.aload_n 0, 1) := by decide +kernel
theorem dX10_sound_1 : decode cX10_sound 1 = .ok (.iload_n 1, 1) := by decide +kernel
theorem dX10_sound_2 : decode cX10_sound 2 = .ok (.invokevirtual 209, 3) := by decide +kernel
theorem dX10_sound_5 : decode cX10_sound 5 = .ok (.ifCond .eq 17, 3) := by decide +kernel
theorem dX10_sound_8 : decode cX10_sound 8 = .ok (.aload_n 0, 1) := by decide +kernel
theorem dX10_sound_9 : decode cX10_sound 9 = .ok (.getfield 69, 3) := by decide +kernel
theorem dX10_sound_12 : decode cX10_sound 12 = .ok (.iload_n 1, 1) := by decide +kernel
theorem dX10_sound_13 : decode cX10_sound 13 = .ok (.invokevirtual 212, 3) := by decide +kernel
theorem dX10_sound_16 : decode cX10_sound 16 = .ok (.invokestatic 106, 3) := by decide +kernel
theorem dX10_sound_19 : decode cX10_sound 19 = .ok (.goto 4, 3) := by decide +kernel
theorem dX10_sound_22 : decode cX10_sound 22 = .ok (.iconst (-1), 1) := by decide +kernel
theorem dX10_sound_23 : decode cX10_sound 23 = .ok (.ireturn, 1) := by decide +kernel
theorem dX10_rolls_0 : decode cX10_rolls 0 = .ok (.aload_n 0, 1) := by decide +kernel
theorem dX10_rolls_1 : decode cX10_rolls 1 = .ok (.iload_n 1, 1) := by decide +kernel
theorem dX10_rolls_2 : decode cX10_rolls 2 = .ok (.invokevirtual 209, 3) := by decide +kernel
theorem dX10_rolls_5 : decode cX10_rolls 5 = .ok (.ifCond .ne 5, 3) := by decide +kernel
theorem dX10_rolls_8 : decode cX10_rolls 8 = .ok (.iconst (-1), 1) := by decide +kernel
theorem dX10_rolls_9 : decode cX10_rolls 9 = .ok (.ireturn, 1) := by decide +kernel
theorem dX10_rolls_10 : decode cX10_rolls 10 = .ok (.iload_n 2, 1) := by decide +kernel
theorem dX10_rolls_11 : decode cX10_rolls 11 = .ok (.invokestatic 123, 3) := by decide +kernel
theorem dX10_rolls_14 : decode cX10_rolls 14 = .ok (.ifCond .eq 15, 3) := by decide +kernel
theorem dX10_rolls_17 : decode cX10_rolls 17 = .ok (.aload_n 0, 1) := by decide +kernel
theorem dX10_rolls_18 : decode cX10_rolls 18 = .ok (.getfield 69, 3) := by decide +kernel
theorem dX10_rolls_21 : decode cX10_rolls 21 = .ok (.iload_n 1, 1) := by decide +kernel
theorem dX10_rolls_22 : decode cX10_rolls 22 = .ok (.iload_n 2, 1) := by decide +kernel
theorem dX10_rolls_23 : decode cX10_rolls 23 = .ok (.invokevirtual 215, 3) := by decide +kernel
theorem dX10_rolls_26 : decode cX10_rolls 26 = .ok (.goto 5, 3) := by decide +kernel
theorem dX10_rolls_29 : decode cX10_rolls 29 = .ok (.bipush (-2), 2) := by decide +kernel
theorem dX10_rolls_31 : decode cX10_rolls 31 = .ok (.ireturn, 1) := by decide +kernel
theorem dX10_home_0 : decode cX10_home 0 = .ok (.aload_n 0, 1) := by decide +kernel
theorem dX10_home_1 : decode cX10_home 1 = .ok (.iload_n 1, 1) := by decide +kernel
theorem dX10_home_2 : decode cX10_home 2 = .ok (.invokevirtual 209, 3) := by decide +kernel
theorem dX10_home_5 : decode cX10_home 5 = .ok (.ifCond .eq 26, 3) := by decide +kernel
theorem dX10_home_8 : decode cX10_home 8 = .ok (.aload_n 0, 1) := by decide +kernel
theorem dX10_home_9 : decode cX10_home 9 = .ok (.getfield 12, 3) := by decide +kernel
theorem dX10_home_12 : decode cX10_home 12 = .ok (.iload_n 2, 1) := by decide +kernel
theorem dX10_home_13 : decode cX10_home 13 = .ok (.invokevirtual 85, 3) := by decide +kernel
theorem dX10_home_16 : decode cX10_home 16 = .ok (.ifCond .eq 15, 3) := by decide +kernel
theorem dX10_home_19 : decode cX10_home 19 = .ok (.aload_n 0, 1) := by decide +kernel
theorem dX10_home_20 : decode cX10_home 20 = .ok (.getfield 69, 3) := by decide +kernel
theorem dX10_home_23 : decode cX10_home 23 = .ok (.iload_n 1, 1) := by decide +kernel
theorem dX10_home_24 : decode cX10_home 24 = .ok (.iload_n 2, 1) := by decide +kernel
theorem dX10_home_25 : decode cX10_home 25 = .ok (.invokevirtual 218, 3) := by decide +kernel
theorem dX10_home_28 : decode cX10_home 28 = .ok (.goto 4, 3) := by decide +kernel
theorem dX10_home_31 : decode cX10_home 31 = .ok (.iconst (-1), 1) := by decide +kernel
theorem dX10_home_32 : decode cX10_home 32 = .ok (.ireturn, 1) := by decide +kernel
theorem dX10_homeWay_0 : decode cX10_homeWay 0 = .ok (.aload_n 0, 1) := by decide +kernel
theorem dX10_homeWay_1 : decode cX10_homeWay 1 = .ok (.iload_n 1, 1) := by decide +kernel
theorem dX10_homeWay_2 : decode cX10_homeWay 2 = .ok (.invokevirtual 209, 3) := by decide +kernel
theorem dX10_homeWay_5 : decode cX10_homeWay 5 = .ok (.ifCond .eq 27, 3) := by decide +kernel
theorem dX10_homeWay_8 : decode cX10_homeWay 8 = .ok (.aload_n 0, 1) := by decide +kernel
theorem dX10_homeWay_9 : decode cX10_homeWay 9 = .ok (.getfield 12, 3) := by decide +kernel
theorem dX10_homeWay_12 : decode cX10_homeWay 12 = .ok (.iload_n 2, 1) := by decide +kernel
theorem dX10_homeWay_13 : decode cX10_homeWay 13 = .ok (.invokevirtual 85, 3) := by decide +kernel
theorem dX10_homeWay_16 : decode cX10_homeWay 16 = .ok (.ifCond .eq 16, 3) := by decide +kernel
theorem dX10_homeWay_19 : decode cX10_homeWay 19 = .ok (.aload_n 0, 1) := by decide +kernel
theorem dX10_homeWay_20 : decode cX10_homeWay 20 = .ok (.getfield 69, 3) := by decide +kernel
theorem dX10_homeWay_23 : decode cX10_homeWay 23 = .ok (.iload_n 1, 1) := by decide +kernel
theorem dX10_homeWay_24 : decode cX10_homeWay 24 = .ok (.iload_n 2, 1) := by decide +kernel
theorem dX10_homeWay_25 : decode cX10_homeWay 25 = .ok (.iload_n 3, 1) := by decide +kernel
theorem dX10_homeWay_26 : decode cX10_homeWay 26 = .ok (.invokevirtual 220, 3) := by decide +kernel
theorem dX10_homeWay_29 : decode cX10_homeWay 29 = .ok (.goto 4, 3) := by decide +kernel
theorem dX10_homeWay_32 : decode cX10_homeWay 32 = .ok (.iconst (-1), 1) := by decide +kernel
theorem dX10_homeWay_33 : decode cX10_homeWay 33 = .ok (.ireturn, 1) := by decide +kernel
theorem dX10_homeGroups_0 : decode cX10_homeGroups 0 = .ok (.aload_n 0, 1) := by decide +kernel
theorem dX10_homeGroups_1 : decode cX10_homeGroups 1 = .ok (.iload_n 1, 1) := by decide +kernel
theorem dX10_homeGroups_2 : decode cX10_homeGroups 2 = .ok (.invokevirtual 209, 3) := by decide +kernel
theorem dX10_homeGroups_5 : decode cX10_homeGroups 5 = .ok (.ifCond .eq 26, 3) := by decide +kernel
theorem dX10_homeGroups_8 : decode cX10_homeGroups 8 = .ok (.aload_n 0, 1) := by decide +kernel
theorem dX10_homeGroups_9 : decode cX10_homeGroups 9 = .ok (.getfield 12, 3) := by decide +kernel
theorem dX10_homeGroups_12 : decode cX10_homeGroups 12 = .ok (.iload_n 2, 1) := by decide +kernel
theorem dX10_homeGroups_13 : decode cX10_homeGroups 13 = .ok (.invokevirtual 85, 3) := by decide +kernel
theorem dX10_homeGroups_16 : decode cX10_homeGroups 16 = .ok (.ifCond .eq 15, 3) := by decide +kernel
theorem dX10_homeGroups_19 : decode cX10_homeGroups 19 = .ok (.aload_n 0, 1) := by decide +kernel
theorem dX10_homeGroups_20 : decode cX10_homeGroups 20 = .ok (.getfield 69, 3) := by decide +kernel
theorem dX10_homeGroups_23 : decode cX10_homeGroups 23 = .ok (.iload_n 1, 1) := by decide +kernel
theorem dX10_homeGroups_24 : decode cX10_homeGroups 24 = .ok (.iload_n 2, 1) := by decide +kernel
theorem dX10_homeGroups_25 : decode cX10_homeGroups 25 = .ok (.invokevirtual 221, 3) := by decide +kernel
theorem dX10_homeGroups_28 : decode cX10_homeGroups 28 = .ok (.goto 4, 3) := by decide +kernel
theorem dX10_homeGroups_31 : decode cX10_homeGroups 31 = .ok (.iconst (-1), 1) := by decide +kernel
theorem dX10_homeGroups_32 : decode cX10_homeGroups 32 = .ok (.ireturn, 1) := by decide +kernel
theorem dX10_whence_0 : decode cX10_whence 0 = .ok (.aload_n 0, 1) := by decide +kernel
theorem dX10_whence_1 : decode cX10_whence 1 = .ok (.getfield 12, 3) := by decide +kernel
theorem dX10_whence_4 : decode cX10_whence 4 = .ok (.iload_n 1, 1) := by decide +kernel
theorem dX10_whence_5 : decode cX10_whence 5 = .ok (.invokevirtual 85, 3) := by decide +kernel
theorem dX10_whence_8 : decode cX10_whence 8 = .ok (.ifCond .ne 5, 3) := by decide +kernel
theorem dX10_whence_11 : decode cX10_whence 11 = .ok (.iconst (-1), 1) := by decide +kernel
theorem dX10_whence_12 : decode cX10_whence 12 = .ok (.ireturn, 1) := by decide +kernel
theorem dX10_whence_13 : decode cX10_whence 13 = .ok (.iload_n 2, 1) := by decide +kernel
theorem dX10_whence_14 : decode cX10_whence 14 = .ok (.ifCond .eq 14, 3) := by decide +kernel
theorem dX10_whence_17 : decode cX10_whence 17 = .ok (.aload_n 0, 1) := by decide +kernel
theorem dX10_whence_18 : decode cX10_whence 18 = .ok (.getfield 69, 3) := by decide +kernel
theorem dX10_whence_21 : decode cX10_whence 21 = .ok (.iload_n 1, 1) := by decide +kernel
theorem dX10_whence_22 : decode cX10_whence 22 = .ok (.invokevirtual 224, 3) := by decide +kernel
theorem dX10_whence_25 : decode cX10_whence 25 = .ok (.goto 11, 3) := by decide +kernel
theorem dX10_whence_28 : decode cX10_whence 28 = .ok (.aload_n 0, 1) := by decide +kernel
theorem dX10_whence_29 : decode cX10_whence 29 = .ok (.getfield 69, 3) := by decide +kernel
theorem dX10_whence_32 : decode cX10_whence 32 = .ok (.iload_n 1, 1) := by decide +kernel
theorem dX10_whence_33 : decode cX10_whence 33 = .ok (.invokevirtual 227, 3) := by decide +kernel
theorem dX10_whence_36 : decode cX10_whence 36 = .ok (.ireturn, 1) := by decide +kernel
theorem dX10_must_0 : decode cX10_must 0 = .ok (.aload_n 0, 1) := by decide +kernel
theorem dX10_must_1 : decode cX10_must 1 = .ok (.iload_n 1, 1) := by decide +kernel
theorem dX10_must_2 : decode cX10_must 2 = .ok (.invokevirtual 209, 3) := by decide +kernel
theorem dX10_must_5 : decode cX10_must 5 = .ok (.ifCond .eq 25, 3) := by decide +kernel
theorem dX10_must_8 : decode cX10_must 8 = .ok (.aload_n 0, 1) := by decide +kernel
theorem dX10_must_9 : decode cX10_must 9 = .ok (.getfield 12, 3) := by decide +kernel
theorem dX10_must_12 : decode cX10_must 12 = .ok (.iload_n 2, 1) := by decide +kernel
theorem dX10_must_13 : decode cX10_must 13 = .ok (.invokevirtual 85, 3) := by decide +kernel
theorem dX10_must_16 : decode cX10_must 16 = .ok (.ifCond .eq 14, 3) := by decide +kernel
theorem dX10_must_19 : decode cX10_must 19 = .ok (.aload_n 0, 1) := by decide +kernel
theorem dX10_must_20 : decode cX10_must 20 = .ok (.getfield 12, 3) := by decide +kernel
theorem dX10_must_23 : decode cX10_must 23 = .ok (.iload_n 3, 1) := by decide +kernel
theorem dX10_must_24 : decode cX10_must 24 = .ok (.invokevirtual 85, 3) := by decide +kernel
theorem dX10_must_27 : decode cX10_must 27 = .ok (.ifCond .ne 5, 3) := by decide +kernel
theorem dX10_must_30 : decode cX10_must 30 = .ok (.iconst (-1), 1) := by decide +kernel
theorem dX10_must_31 : decode cX10_must 31 = .ok (.ireturn, 1) := by decide +kernel
theorem dX10_must_32 : decode cX10_must 32 = .ok (.aload_n 0, 1) := by decide +kernel
theorem dX10_must_33 : decode cX10_must 33 = .ok (.getfield 69, 3) := by decide +kernel
theorem dX10_must_36 : decode cX10_must 36 = .ok (.iload_n 1, 1) := by decide +kernel
theorem dX10_must_37 : decode cX10_must 37 = .ok (.iload_n 2, 1) := by decide +kernel
theorem dX10_must_38 : decode cX10_must 38 = .ok (.iload_n 3, 1) := by decide +kernel
theorem dX10_must_39 : decode cX10_must 39 = .ok (.invokevirtual 230, 3) := by decide +kernel
theorem dX10_must_42 : decode cX10_must 42 = .ok (.invokestatic 106, 3) := by decide +kernel
theorem dX10_must_45 : decode cX10_must 45 = .ok (.ireturn, 1) := by decide +kernel
theorem dX10_count_0 : decode cX10_count 0 = .ok (.iload_n 1, 1) := by decide +kernel
theorem dX10_count_1 : decode cX10_count 1 = .ok (.tableswitch 90 0 5 #[39, 47, 55, 66, 74, 82], 39) := by decide +kernel
theorem dX10_count_40 : decode cX10_count 40 = .ok (.aload_n 0, 1) := by decide +kernel
theorem dX10_count_41 : decode cX10_count 41 = .ok (.getfield 12, 3) := by decide +kernel
theorem dX10_count_44 : decode cX10_count 44 = .ok (.invokevirtual 81, 3) := by decide +kernel
theorem dX10_count_47 : decode cX10_count 47 = .ok (.ireturn, 1) := by decide +kernel
theorem dX10_count_48 : decode cX10_count 48 = .ok (.aload_n 0, 1) := by decide +kernel
theorem dX10_count_49 : decode cX10_count 49 = .ok (.getfield 12, 3) := by decide +kernel
theorem dX10_count_52 : decode cX10_count 52 = .ok (.invokevirtual 234, 3) := by decide +kernel
theorem dX10_count_55 : decode cX10_count 55 = .ok (.ireturn, 1) := by decide +kernel
theorem dX10_count_56 : decode cX10_count 56 = .ok (.aload_n 0, 1) := by decide +kernel
theorem dX10_count_57 : decode cX10_count 57 = .ok (.getfield 12, 3) := by decide +kernel
theorem dX10_count_60 : decode cX10_count 60 = .ok (.invokevirtual 99, 3) := by decide +kernel
theorem dX10_count_63 : decode cX10_count 63 = .ok (.invokestatic 237, 3) := by decide +kernel
theorem dX10_count_66 : decode cX10_count 66 = .ok (.ireturn, 1) := by decide +kernel
theorem dX10_count_67 : decode cX10_count 67 = .ok (.aload_n 0, 1) := by decide +kernel
theorem dX10_count_68 : decode cX10_count 68 = .ok (.getfield 60, 3) := by decide +kernel
theorem dX10_count_71 : decode cX10_count 71 = .ok (.invokevirtual 189, 3) := by decide +kernel
theorem dX10_count_74 : decode cX10_count 74 = .ok (.ireturn, 1) := by decide +kernel
theorem dX10_count_75 : decode cX10_count 75 = .ok (.aload_n 0, 1) := by decide +kernel
theorem dX10_count_76 : decode cX10_count 76 = .ok (.getfield 12, 3) := by decide +kernel
theorem dX10_count_79 : decode cX10_count 79 = .ok (.invokevirtual 242, 3) := by decide +kernel
theorem dX10_count_82 : decode cX10_count 82 = .ok (.ireturn, 1) := by decide +kernel
theorem dX10_count_83 : decode cX10_count 83 = .ok (.aload_n 0, 1) := by decide +kernel
theorem dX10_count_84 : decode cX10_count 84 = .ok (.getfield 69, 3) := by decide +kernel
theorem dX10_count_87 : decode cX10_count 87 = .ok (.invokevirtual 245, 3) := by decide +kernel
theorem dX10_count_90 : decode cX10_count 90 = .ok (.ireturn, 1) := by decide +kernel
theorem dX10_count_91 : decode cX10_count 91 = .ok (.bipush (-2), 2) := by decide +kernel
theorem dX10_count_93 : decode cX10_count 93 = .ok (.ireturn, 1) := by decide +kernel
theorem dX10_refusalOfGoal_0 : decode cX10_refusalOfGoal 0 = .ok (.aload_n 0, 1) := by decide +kernel
theorem dX10_refusalOfGoal_1 : decode cX10_refusalOfGoal 1 = .ok (.iload_n 1, 1) := by decide +kernel
theorem dX10_refusalOfGoal_2 : decode cX10_refusalOfGoal 2 = .ok (.iload_n 2, 1) := by decide +kernel
theorem dX10_refusalOfGoal_3 : decode cX10_refusalOfGoal 3 = .ok (.invokevirtual 149, 3) := by decide +kernel
theorem dX10_refusalOfGoal_6 : decode cX10_refusalOfGoal 6 = .ok (.ifCond .eq 14, 3) := by decide +kernel
theorem dX10_refusalOfGoal_9 : decode cX10_refusalOfGoal 9 = .ok (.aload_n 0, 1) := by decide +kernel
theorem dX10_refusalOfGoal_10 : decode cX10_refusalOfGoal 10 = .ok (.getfield 12, 3) := by decide +kernel
theorem dX10_refusalOfGoal_13 : decode cX10_refusalOfGoal 13 = .ok (.iload_n 3, 1) := by decide +kernel
theorem dX10_refusalOfGoal_14 : decode cX10_refusalOfGoal 14 = .ok (.invokevirtual 85, 3) := by decide +kernel
theorem dX10_refusalOfGoal_17 : decode cX10_refusalOfGoal 17 = .ok (.ifCond .ne 5, 3) := by decide +kernel
theorem dX10_refusalOfGoal_20 : decode cX10_refusalOfGoal 20 = .ok (.iconst (-1), 1) := by decide +kernel
theorem dX10_refusalOfGoal_21 : decode cX10_refusalOfGoal 21 = .ok (.ireturn, 1) := by decide +kernel
theorem dX10_refusalOfGoal_22 : decode cX10_refusalOfGoal 22 = .ok (.iload 4, 2) := by decide +kernel
theorem dX10_refusalOfGoal_24 : decode cX10_refusalOfGoal 24 = .ok (.bipush 10, 2) := by decide +kernel
theorem dX10_refusalOfGoal_26 : decode cX10_refusalOfGoal 26 = .ok (.if_icmp .lt 14, 3) := by decide +kernel
theorem dX10_refusalOfGoal_29 : decode cX10_refusalOfGoal 29 = .ok (.iload 4, 2) := by decide +kernel
theorem dX10_refusalOfGoal_31 : decode cX10_refusalOfGoal 31 = .ok (.bipush 34, 2) := by decide +kernel
theorem dX10_refusalOfGoal_33 : decode cX10_refusalOfGoal 33 = .ok (.if_icmp .ge 7, 3) := by decide +kernel
theorem dX10_refusalOfGoal_36 : decode cX10_refusalOfGoal 36 = .ok (.iconst 1, 1) := by decide +kernel
theorem dX10_refusalOfGoal_37 : decode cX10_refusalOfGoal 37 = .ok (.goto 4, 3) := by decide +kernel
theorem dX10_refusalOfGoal_40 : decode cX10_refusalOfGoal 40 = .ok (.iconst 0, 1) := by decide +kernel
theorem dX10_refusalOfGoal_41 : decode cX10_refusalOfGoal 41 = .ok (.istore 5, 2) := by decide +kernel
theorem dX10_refusalOfGoal_43 : decode cX10_refusalOfGoal 43 = .ok (.iload 4, 2) := by decide +kernel
theorem dX10_refusalOfGoal_45 : decode cX10_refusalOfGoal 45 = .ok (.ifCond .eq 16, 3) := by decide +kernel
theorem dX10_refusalOfGoal_48 : decode cX10_refusalOfGoal 48 = .ok (.iload 4, 2) := by decide +kernel
theorem dX10_refusalOfGoal_50 : decode cX10_refusalOfGoal 50 = .ok (.invokestatic 129, 3) := by decide +kernel
theorem dX10_refusalOfGoal_53 : decode cX10_refusalOfGoal 53 = .ok (.ifCond .ne 8, 3) := by decide +kernel
theorem dX10_refusalOfGoal_56 : decode cX10_refusalOfGoal 56 = .ok (.iload 5, 2) := by decide +kernel
theorem dX10_refusalOfGoal_58 : decode cX10_refusalOfGoal 58 = .ok (.ifCond .eq 7, 3) := by decide +kernel
theorem dX10_refusalOfGoal_61 : decode cX10_refusalOfGoal 61 = .ok (.iconst 0, 1) := by decide +kernel
theorem dX10_refusalOfGoal_62 : decode cX10_refusalOfGoal 62 = .ok (.goto 5, 3) := by decide +kernel
theorem dX10_refusalOfGoal_65 : decode cX10_refusalOfGoal 65 = .ok (.bipush (-2), 2) := by decide +kernel
theorem dX10_refusalOfGoal_67 : decode cX10_refusalOfGoal 67 = .ok (.ireturn, 1) := by decide +kernel
theorem dX10_refusalOfTour_0 : decode cX10_refusalOfTour 0 = .ok (.aload_n 0, 1) := by decide +kernel
theorem dX10_refusalOfTour_1 : decode cX10_refusalOfTour 1 = .ok (.iload_n 1, 1) := by decide +kernel
theorem dX10_refusalOfTour_2 : decode cX10_refusalOfTour 2 = .ok (.iload_n 2, 1) := by decide +kernel
theorem dX10_refusalOfTour_3 : decode cX10_refusalOfTour 3 = .ok (.invokevirtual 149, 3) := by decide +kernel
theorem dX10_refusalOfTour_6 : decode cX10_refusalOfTour 6 = .ok (.ifCond .ne 5, 3) := by decide +kernel
theorem dX10_refusalOfTour_9 : decode cX10_refusalOfTour 9 = .ok (.iconst (-1), 1) := by decide +kernel
theorem dX10_refusalOfTour_10 : decode cX10_refusalOfTour 10 = .ok (.ireturn, 1) := by decide +kernel
theorem dX10_refusalOfTour_11 : decode cX10_refusalOfTour 11 = .ok (.iload_n 3, 1) := by decide +kernel
theorem dX10_refusalOfTour_12 : decode cX10_refusalOfTour 12 = .ok (.ifCond .eq 13, 3) := by decide +kernel
theorem dX10_refusalOfTour_15 : decode cX10_refusalOfTour 15 = .ok (.iload_n 3, 1) := by decide +kernel
theorem dX10_refusalOfTour_16 : decode cX10_refusalOfTour 16 = .ok (.invokestatic 129, 3) := by decide +kernel
theorem dX10_refusalOfTour_19 : decode cX10_refusalOfTour 19 = .ok (.ifCond .ne 6, 3) := by decide +kernel
theorem dX10_refusalOfTour_22 : decode cX10_refusalOfTour 22 = .ok (.bipush (-2), 2) := by decide +kernel
theorem dX10_refusalOfTour_24 : decode cX10_refusalOfTour 24 = .ok (.ireturn, 1) := by decide +kernel
theorem dX10_refusalOfTour_25 : decode cX10_refusalOfTour 25 = .ok (.aload_n 0, 1) := by decide +kernel
theorem dX10_refusalOfTour_26 : decode cX10_refusalOfTour 26 = .ok (.getfield 12, 3) := by decide +kernel
theorem dX10_refusalOfTour_29 : decode cX10_refusalOfTour 29 = .ok (.iload_n 1, 1) := by decide +kernel
theorem dX10_refusalOfTour_30 : decode cX10_refusalOfTour 30 = .ok (.aload_n 0, 1) := by decide +kernel
theorem dX10_refusalOfTour_31 : decode cX10_refusalOfTour 31 = .ok (.getfield 12, 3) := by decide +kernel
theorem dX10_refusalOfTour_34 : decode cX10_refusalOfTour 34 = .ok (.invokevirtual 99, 3) := by decide +kernel
theorem dX10_refusalOfTour_37 : decode cX10_refusalOfTour 37 = .ok (.invokevirtual 102, 3) := by decide +kernel
theorem dX10_refusalOfTour_40 : decode cX10_refusalOfTour 40 = .ok (.istore 4, 2) := by decide +kernel
theorem dX10_refusalOfTour_42 : decode cX10_refusalOfTour 42 = .ok (.iload 4, 2) := by decide +kernel
theorem dX10_refusalOfTour_44 : decode cX10_refusalOfTour 44 = .ok (.ifCond .eq 19, 3) := by decide +kernel
theorem dX10_refusalOfTour_47 : decode cX10_refusalOfTour 47 = .ok (.aload_n 0, 1) := by decide +kernel
theorem dX10_refusalOfTour_48 : decode cX10_refusalOfTour 48 = .ok (.getfield 12, 3) := by decide +kernel
theorem dX10_refusalOfTour_51 : decode cX10_refusalOfTour 51 = .ok (.invokevirtual 234, 3) := by decide +kernel
theorem dX10_refusalOfTour_54 : decode cX10_refusalOfTour 54 = .ok (.bipush 16, 2) := by decide +kernel
theorem dX10_refusalOfTour_56 : decode cX10_refusalOfTour 56 = .ok (.if_icmp .gt 7, 3) := by decide +kernel
theorem dX10_refusalOfTour_59 : decode cX10_refusalOfTour 59 = .ok (.iconst 0, 1) := by decide +kernel
theorem dX10_refusalOfTour_60 : decode cX10_refusalOfTour 60 = .ok (.goto 5, 3) := by decide +kernel
theorem dX10_refusalOfTour_63 : decode cX10_refusalOfTour 63 = .ok (.bipush (-3), 2) := by decide +kernel
theorem dX10_refusalOfTour_65 : decode cX10_refusalOfTour 65 = .ok (.ireturn, 1) := by decide +kernel
theorem dX10_isStart_0 : decode cX10_isStart 0 = .ok (.aload_n 0, 1) := by decide +kernel
theorem dX10_isStart_1 : decode cX10_isStart 1 = .ok (.getfield 12, 3) := by decide +kernel
theorem dX10_isStart_4 : decode cX10_isStart 4 = .ok (.iload_n 1, 1) := by decide +kernel
theorem dX10_isStart_5 : decode cX10_isStart 5 = .ok (.invokevirtual 85, 3) := by decide +kernel
theorem dX10_isStart_8 : decode cX10_isStart 8 = .ok (.ifCond .eq 14, 3) := by decide +kernel
theorem dX10_isStart_11 : decode cX10_isStart 11 = .ok (.iload_n 2, 1) := by decide +kernel
theorem dX10_isStart_12 : decode cX10_isStart 12 = .ok (.invokestatic 110, 3) := by decide +kernel
theorem dX10_isStart_15 : decode cX10_isStart 15 = .ok (.ifCond .eq 7, 3) := by decide +kernel
theorem dX10_isStart_18 : decode cX10_isStart 18 = .ok (.iconst 1, 1) := by decide +kernel
theorem dX10_isStart_19 : decode cX10_isStart 19 = .ok (.goto 4, 3) := by decide +kernel
theorem dX10_isStart_22 : decode cX10_isStart 22 = .ok (.iconst 0, 1) := by decide +kernel
theorem dX10_isStart_23 : decode cX10_isStart 23 = .ok (.ireturn, 1) := by decide +kernel
theorem dX10_isPlace_0 : decode cX10_isPlace 0 = .ok (.iload_n 1, 1) := by decide +kernel
theorem dX10_isPlace_1 : decode cX10_isPlace 1 = .ok (.ifCond .lt 20, 3) := by decide +kernel
theorem dX10_isPlace_4 : decode cX10_isPlace 4 = .ok (.iload_n 1, 1) := by decide +kernel
theorem dX10_isPlace_5 : decode cX10_isPlace 5 = .ok (.iconst 3, 1) := by decide +kernel
theorem dX10_isPlace_6 : decode cX10_isPlace 6 = .ok (.aload_n 0, 1) := by decide +kernel
theorem dX10_isPlace_7 : decode cX10_isPlace 7 = .ok (.getfield 12, 3) := by decide +kernel
theorem dX10_isPlace_10 : decode cX10_isPlace 10 = .ok (.invokevirtual 81, 3) := by decide +kernel
theorem dX10_isPlace_13 : decode cX10_isPlace 13 = .ok (.imul, 1) := by decide +kernel
theorem dX10_isPlace_14 : decode cX10_isPlace 14 = .ok (.if_icmp .ge 7, 3) := by decide +kernel
theorem dX10_isPlace_17 : decode cX10_isPlace 17 = .ok (.iconst 1, 1) := by decide +kernel
theorem dX10_isPlace_18 : decode cX10_isPlace 18 = .ok (.goto 4, 3) := by decide +kernel
theorem dX10_isPlace_21 : decode cX10_isPlace 21 = .ok (.iconst 0, 1) := by decide +kernel
theorem dX10_isPlace_22 : decode cX10_isPlace 22 = .ok (.ireturn, 1) := by decide +kernel
theorem dX10_isSide_0 : decode cX10_isSide 0 = .ok (.iload_n 0, 1) := by decide +kernel
theorem dX10_isSide_1 : decode cX10_isSide 1 = .ok (.iconst 2, 1) := by decide +kernel
theorem dX10_isSide_2 : decode cX10_isSide 2 = .ok (.if_icmp .lt 12, 3) := by decide +kernel
theorem dX10_isSide_5 : decode cX10_isSide 5 = .ok (.iload_n 0, 1) := by decide +kernel
theorem dX10_isSide_6 : decode cX10_isSide 6 = .ok (.iconst 5, 1) := by decide +kernel
theorem dX10_isSide_7 : decode cX10_isSide 7 = .ok (.if_icmp .gt 7, 3) := by decide +kernel
theorem dX10_isSide_10 : decode cX10_isSide 10 = .ok (.iconst 1, 1) := by decide +kernel
theorem dX10_isSide_11 : decode cX10_isSide 11 = .ok (.goto 4, 3) := by decide +kernel
theorem dX10_isSide_14 : decode cX10_isSide 14 = .ok (.iconst 0, 1) := by decide +kernel
theorem dX10_isSide_15 : decode cX10_isSide 15 = .ok (.ireturn, 1) := by decide +kernel
theorem dX10_isStance_0 : decode cX10_isStance 0 = .ok (.iload_n 0, 1) := by decide +kernel
theorem dX10_isStance_1 : decode cX10_isStance 1 = .ok (.ifCond .lt 13, 3) := by decide +kernel
theorem dX10_isStance_4 : decode cX10_isStance 4 = .ok (.iload_n 0, 1) := by decide +kernel
theorem dX10_isStance_5 : decode cX10_isStance 5 = .ok (.bipush 24, 2) := by decide +kernel
theorem dX10_isStance_7 : decode cX10_isStance 7 = .ok (.if_icmp .ge 7, 3) := by decide +kernel
theorem dX10_isStance_10 : decode cX10_isStance 10 = .ok (.iconst 1, 1) := by decide +kernel
theorem dX10_isStance_11 : decode cX10_isStance 11 = .ok (.goto 4, 3) := by decide +kernel
theorem dX10_isStance_14 : decode cX10_isStance 14 = .ok (.iconst 0, 1) := by decide +kernel
theorem dX10_isStance_15 : decode cX10_isStance 15 = .ok (.ireturn, 1) := by decide +kernel
theorem dX10_isFace_0 : decode cX10_isFace 0 = .ok (.iload_n 0, 1) := by decide +kernel
theorem dX10_isFace_1 : decode cX10_isFace 1 = .ok (.iconst 1, 1) := by decide +kernel
theorem dX10_isFace_2 : decode cX10_isFace 2 = .ok (.if_icmp .lt 13, 3) := by decide +kernel
theorem dX10_isFace_5 : decode cX10_isFace 5 = .ok (.iload_n 0, 1) := by decide +kernel
theorem dX10_isFace_6 : decode cX10_isFace 6 = .ok (.bipush 6, 2) := by decide +kernel
theorem dX10_isFace_8 : decode cX10_isFace 8 = .ok (.if_icmp .gt 7, 3) := by decide +kernel
theorem dX10_isFace_11 : decode cX10_isFace 11 = .ok (.iconst 1, 1) := by decide +kernel
theorem dX10_isFace_12 : decode cX10_isFace 12 = .ok (.goto 4, 3) := by decide +kernel
theorem dX10_isFace_15 : decode cX10_isFace 15 = .ok (.iconst 0, 1) := by decide +kernel
theorem dX10_isFace_16 : decode cX10_isFace 16 = .ok (.ireturn, 1) := by decide +kernel
theorem dX10_isWay_0 : decode cX10_isWay 0 = .ok (.iload_n 0, 1) := by decide +kernel
theorem dX10_isWay_1 : decode cX10_isWay 1 = .ok (.ifCond .lt 12, 3) := by decide +kernel
theorem dX10_isWay_4 : decode cX10_isWay 4 = .ok (.iload_n 0, 1) := by decide +kernel
theorem dX10_isWay_5 : decode cX10_isWay 5 = .ok (.iconst 4, 1) := by decide +kernel
theorem dX10_isWay_6 : decode cX10_isWay 6 = .ok (.if_icmp .ge 7, 3) := by decide +kernel
theorem dX10_isWay_9 : decode cX10_isWay 9 = .ok (.iconst 1, 1) := by decide +kernel
theorem dX10_isWay_10 : decode cX10_isWay 10 = .ok (.goto 4, 3) := by decide +kernel
theorem dX10_isWay_13 : decode cX10_isWay 13 = .ok (.iconst 0, 1) := by decide +kernel
theorem dX10_isWay_14 : decode cX10_isWay 14 = .ok (.ireturn, 1) := by decide +kernel
theorem dX10_oneIf_0 : decode cX10_oneIf 0 = .ok (.iload_n 0, 1) := by decide +kernel
theorem dX10_oneIf_1 : decode cX10_oneIf 1 = .ok (.ifCond .eq 7, 3) := by decide +kernel
theorem dX10_oneIf_4 : decode cX10_oneIf 4 = .ok (.iconst 1, 1) := by decide +kernel
theorem dX10_oneIf_5 : decode cX10_oneIf 5 = .ok (.goto 4, 3) := by decide +kernel
theorem dX10_oneIf_8 : decode cX10_oneIf 8 = .ok (.iconst 0, 1) := by decide +kernel
theorem dX10_oneIf_9 : decode cX10_oneIf 9 = .ok (.ireturn, 1) := by decide +kernel
theorem dX10_noneIfNowhere_0 : decode cX10_noneIfNowhere 0 = .ok (.iload_n 0, 1) := by decide +kernel
theorem dX10_noneIfNowhere_1 : decode cX10_noneIfNowhere 1 = .ok (.iconst (-1), 1) := by decide +kernel
theorem dX10_noneIfNowhere_2 : decode cX10_noneIfNowhere 2 = .ok (.if_icmp .ne 8, 3) := by decide +kernel
theorem dX10_noneIfNowhere_5 : decode cX10_noneIfNowhere 5 = .ok (.bipush (-9), 2) := by decide +kernel
theorem dX10_noneIfNowhere_7 : decode cX10_noneIfNowhere 7 = .ok (.goto 4, 3) := by decide +kernel
theorem dX10_noneIfNowhere_10 : decode cX10_noneIfNowhere 10 = .ok (.iload_n 0, 1) := by decide +kernel
theorem dX10_noneIfNowhere_11 : decode cX10_noneIfNowhere 11 = .ok (.ireturn, 1) := by decide +kernel
theorem dX11_init_0 : decode cX11_init 0 = .ok (.aload_n 0, 1) := by decide +kernel
theorem dX11_init_1 : decode cX11_init 1 = .ok (.invokespecial 1, 3) := by decide +kernel
theorem dX11_init_4 : decode cX11_init 4 = .ok (.aload_n 0, 1) := by decide +kernel
theorem dX11_init_5 : decode cX11_init 5 = .ok (.bipush 24, 2) := by decide +kernel
theorem dX11_init_7 : decode cX11_init 7 = .ok (.newarray .int, 2) := by decide +kernel
theorem dX11_init_9 : decode cX11_init 9 = .ok (.putfield 7, 3) := by decide +kernel
theorem dX11_init_12 : decode cX11_init 12 = .ok (.aload_n 0, 1) := by decide +kernel
theorem dX11_init_13 : decode cX11_init 13 = .ok (.bipush 24, 2) := by decide +kernel
theorem dX11_init_15 : decode cX11_init 15 = .ok (.newarray .int, 2) := by decide +kernel
theorem dX11_init_17 : decode cX11_init 17 = .ok (.putfield 13, 3) := by decide +kernel
theorem dX11_init_20 : decode cX11_init 20 = .ok (.aload_n 0, 1) := by decide +kernel
theorem dX11_init_21 : decode cX11_init 21 = .ok (.bipush 24, 2) := by decide +kernel
theorem dX11_init_23 : decode cX11_init 23 = .ok (.newarray .int, 2) := by decide +kernel
theorem dX11_init_25 : decode cX11_init 25 = .ok (.putfield 16, 3) := by decide +kernel
theorem dX11_init_28 : decode cX11_init 28 = .ok (.aload_n 0, 1) := by decide +kernel
theorem dX11_init_29 : decode cX11_init 29 = .ok (.bipush 96, 2) := by decide +kernel
theorem dX11_init_31 : decode cX11_init 31 = .ok (.newarray .int, 2) := by decide +kernel
theorem dX11_init_33 : decode cX11_init 33 = .ok (.putfield 19, 3) := by decide +kernel
theorem dX11_init_36 : decode cX11_init 36 = .ok (.aload_n 0, 1) := by decide +kernel
theorem dX11_init_37 : decode cX11_init 37 = .ok (.bipush 24, 2) := by decide +kernel
theorem dX11_init_39 : decode cX11_init 39 = .ok (.newarray .int, 2) := by decide +kernel
theorem dX11_init_41 : decode cX11_init 41 = .ok (.putfield 22, 3) := by decide +kernel
theorem dX11_init_44 : decode cX11_init 44 = .ok (.aload_n 0, 1) := by decide +kernel
theorem dX11_init_45 : decode cX11_init 45 = .ok (.iconst 4, 1) := by decide +kernel
theorem dX11_init_46 : decode cX11_init 46 = .ok (.putfield 25, 3) := by decide +kernel
theorem dX11_init_49 : decode cX11_init 49 = .ok (.aload_n 0, 1) := by decide +kernel
theorem dX11_init_50 : decode cX11_init 50 = .ok (.iconst 4, 1) := by decide +kernel
theorem dX11_init_51 : decode cX11_init 51 = .ok (.putfield 29, 3) := by decide +kernel
theorem dX11_init_54 : decode cX11_init 54 = .ok (.aload_n 0, 1) := by decide +kernel
theorem dX11_init_55 : decode cX11_init 55 = .ok (.bipush 25, 2) := by decide +kernel
theorem dX11_init_57 : decode cX11_init 57 = .ok (.newarray .int, 2) := by decide +kernel
theorem dX11_init_59 : decode cX11_init 59 = .ok (.putfield 32, 3) := by decide +kernel
theorem dX11_init_62 : decode cX11_init 62 = .ok (.aload_n 0, 1) := by decide +kernel
theorem dX11_init_63 : decode cX11_init 63 = .ok (.bipush 25, 2) := by decide +kernel
theorem dX11_init_65 : decode cX11_init 65 = .ok (.newarray .int, 2) := by decide +kernel
theorem dX11_init_67 : decode cX11_init 67 = .ok (.putfield 35, 3) := by decide +kernel
theorem dX11_init_70 : decode cX11_init 70 = .ok (.aload_n 0, 1) := by decide +kernel
theorem dX11_init_71 : decode cX11_init 71 = .ok (.sipush 600, 3) := by decide +kernel
theorem dX11_init_74 : decode cX11_init 74 = .ok (.newarray .int, 2) := by decide +kernel
theorem dX11_init_76 : decode cX11_init 76 = .ok (.putfield 38, 3) := by decide +kernel
theorem dX11_init_79 : decode cX11_init 79 = .ok (.aload_n 0, 1) := by decide +kernel
theorem dX11_init_80 : decode cX11_init 80 = .ok (.sipush 600, 3) := by decide +kernel
theorem dX11_init_83 : decode cX11_init 83 = .ok (.newarray .long, 2) := by decide +kernel
theorem dX11_init_85 : decode cX11_init 85 = .ok (.putfield 41, 3) := by decide +kernel
theorem dX11_init_88 : decode cX11_init 88 = .ok (.aload_n 0, 1) := by decide +kernel
theorem dX11_init_89 : decode cX11_init 89 = .ok (.sipush 600, 3) := by decide +kernel
theorem dX11_init_92 : decode cX11_init 92 = .ok (.newarray .int, 2) := by decide +kernel
theorem dX11_init_94 : decode cX11_init 94 = .ok (.putfield 45, 3) := by decide +kernel
theorem dX11_init_97 : decode cX11_init 97 = .ok (.aload_n 0, 1) := by decide +kernel
theorem dX11_init_98 : decode cX11_init 98 = .ok (.bipush 17, 2) := by decide +kernel
theorem dX11_init_100 : decode cX11_init 100 = .ok (.newarray .int, 2) := by decide +kernel
end
section
theorem dX11_init_102 : decode cX11_init 102 = .ok (.putfield 48, 3) := by decide +kernel
theorem dX11_init_105 : decode cX11_init 105 = .ok (.aload_n 0, 1) := by decide +kernel
theorem dX11_init_106 : decode cX11_init 106 = .ok (.bipush 17, 2) := by decide +kernel
theorem dX11_init_108 : decode cX11_init 108 = .ok (.newarray .int, 2) := by decide +kernel
theorem dX11_init_110 : decode cX11_init 110 = .ok (.putfield 51, 3) := by decide +kernel
theorem dX11_init_113 : decode cX11_init 113 = .ok (.aload_n 0, 1) := by decide +kernel
theorem dX11_init_114 : decode cX11_init 114 = .ok (.bipush 16, 2) := by decide +kernel
theorem dX11_init_116 : decode cX11_init 116 = .ok (.newarray .int, 2) := by decide +kernel
theorem dX11_init_118 : decode cX11_init 118 = .ok (.putfield 54, 3) := by decide +kernel
theorem dX11_init_121 : decode cX11_init 121 = .ok (.aload_n 0, 1) := by decide +kernel
theorem dX11_init_122 : decode cX11_init 122 = .ok (.bipush 20, 2) := by decide +kernel
theorem dX11_init_124 : decode cX11_init 124 = .ok (.newarray .int, 2) := by decide +kernel
theorem dX11_init_126 : decode cX11_init 126 = .ok (.putfield 57, 3) := by decide +kernel
theorem dX11_init_129 : decode cX11_init 129 = .ok (.aload_n 0, 1) := by decide +kernel
theorem dX11_init_130 : decode cX11_init 130 = .ok (.bipush 20, 2) := by decide +kernel
theorem dX11_init_132 : decode cX11_init 132 = .ok (.newarray .int, 2) := by decide +kernel
theorem dX11_init_134 : decode cX11_init 134 = .ok (.putfield 60, 3) := by decide +kernel
theorem dX11_init_137 : decode cX11_init 137 = .ok (.aload_n 0, 1) := by decide +kernel
theorem dX11_init_138 : decode cX11_init 138 = .ok (.bipush 7, 2) := by decide +kernel
theorem dX11_init_140 : decode cX11_init 140 = .ok (.newarray .int, 2) := by decide +kernel
theorem dX11_init_142 : decode cX11_init 142 = .ok (.putfield 63, 3) := by decide +kernel
theorem dX11_init_145 : decode cX11_init 145 = .ok (.aload_n 0, 1) := by decide +kernel
theorem dX11_init_146 : decode cX11_init 146 = .ok (.sipush 600, 3) := by decide +kernel
theorem dX11_init_149 : decode cX11_init 149 = .ok (.newarray .int, 2) := by decide +kernel
theorem dX11_init_151 : decode cX11_init 151 = .ok (.putfield 66, 3) := by decide +kernel
theorem dX11_init_154 : decode cX11_init 154 = .ok (.iconst 0, 1) := by decide +kernel
theorem dX11_init_155 : decode cX11_init 155 = .ok (.istore_n 1, 1) := by decide +kernel
theorem dX11_init_156 : decode cX11_init 156 = .ok (.iload_n 1, 1) := by decide +kernel
theorem dX11_init_157 : decode cX11_init 157 = .ok (.bipush 24, 2) := by decide +kernel
theorem dX11_init_159 : decode cX11_init 159 = .ok (.if_icmp .ge 28, 3) := by decide +kernel
theorem dX11_init_162 : decode cX11_init 162 = .ok (.aload_n 0, 1) := by decide +kernel
theorem dX11_init_163 : decode cX11_init 163 = .ok (.getfield 7, 3) := by decide +kernel
theorem dX11_init_166 : decode cX11_init 166 = .ok (.iload_n 1, 1) := by decide +kernel
theorem dX11_init_167 : decode cX11_init 167 = .ok (.iload_n 1, 1) := by decide +kernel
theorem dX11_init_168 : decode cX11_init 168 = .ok (.iconst 4, 1) := by decide +kernel
theorem dX11_init_169 : decode cX11_init 169 = .ok (.idiv, 1) := by decide +kernel
theorem dX11_init_170 : decode cX11_init 170 = .ok (.iconst 1, 1) := by decide +kernel
theorem dX11_init_171 : decode cX11_init 171 = .ok (.iadd, 1) := by decide +kernel
theorem dX11_init_172 : decode cX11_init 172 = .ok (.iastore, 1) := by decide +kernel
theorem dX11_init_173 : decode cX11_init 173 = .ok (.aload_n 0, 1) := by decide +kernel
theorem dX11_init_174 : decode cX11_init 174 = .ok (.getfield 13, 3) := by decide +kernel
theorem dX11_init_177 : decode cX11_init 177 = .ok (.iload_n 1, 1) := by decide +kernel
theorem dX11_init_178 : decode cX11_init 178 = .ok (.bipush (-9), 2) := by decide +kernel
theorem dX11_init_180 : decode cX11_init 180 = .ok (.iastore, 1) := by decide +kernel
theorem dX11_init_181 : decode cX11_init 181 = .ok (.iinc 1 1, 3) := by decide +kernel
theorem dX11_init_184 : decode cX11_init 184 = .ok (.goto (-28), 3) := by decide +kernel
theorem dX11_init_187 : decode cX11_init 187 = .ok (.iconst 1, 1) := by decide +kernel
theorem dX11_init_188 : decode cX11_init 188 = .ok (.istore_n 1, 1) := by decide +kernel
theorem dX11_init_189 : decode cX11_init 189 = .ok (.iload_n 1, 1) := by decide +kernel
theorem dX11_init_190 : decode cX11_init 190 = .ok (.bipush 7, 2) := by decide +kernel
theorem dX11_init_192 : decode cX11_init 192 = .ok (.if_icmp .ge 54, 3) := by decide +kernel
theorem dX11_init_195 : decode cX11_init 195 = .ok (.iconst 0, 1) := by decide +kernel
theorem dX11_init_196 : decode cX11_init 196 = .ok (.istore_n 2, 1) := by decide +kernel
theorem dX11_init_197 : decode cX11_init 197 = .ok (.iconst 1, 1) := by decide +kernel
theorem dX11_init_198 : decode cX11_init 198 = .ok (.istore_n 3, 1) := by decide +kernel
theorem dX11_init_199 : decode cX11_init 199 = .ok (.iload_n 3, 1) := by decide +kernel
theorem dX11_init_200 : decode cX11_init 200 = .ok (.bipush 7, 2) := by decide +kernel
theorem dX11_init_202 : decode cX11_init 202 = .ok (.if_icmp .ge 38, 3) := by decide +kernel
theorem dX11_init_205 : decode cX11_init 205 = .ok (.iload_n 3, 1) := by decide +kernel
theorem dX11_init_206 : decode cX11_init 206 = .ok (.iload_n 1, 1) := by decide +kernel
theorem dX11_init_207 : decode cX11_init 207 = .ok (.if_icmp .eq 27, 3) := by decide +kernel
theorem dX11_init_210 : decode cX11_init 210 = .ok (.iload_n 3, 1) := by decide +kernel
theorem dX11_init_211 : decode cX11_init 211 = .ok (.bipush 7, 2) := by decide +kernel
theorem dX11_init_213 : decode cX11_init 213 = .ok (.iload_n 1, 1) := by decide +kernel
theorem dX11_init_214 : decode cX11_init 214 = .ok (.isub, 1) := by decide +kernel
theorem dX11_init_215 : decode cX11_init 215 = .ok (.if_icmp .eq 19, 3) := by decide +kernel
theorem dX11_init_218 : decode cX11_init 218 = .ok (.aload_n 0, 1) := by decide +kernel
theorem dX11_init_219 : decode cX11_init 219 = .ok (.getfield 13, 3) := by decide +kernel
theorem dX11_init_222 : decode cX11_init 222 = .ok (.iconst 4, 1) := by decide +kernel
theorem dX11_init_223 : decode cX11_init 223 = .ok (.iload_n 1, 1) := by decide +kernel
theorem dX11_init_224 : decode cX11_init 224 = .ok (.imul, 1) := by decide +kernel
theorem dX11_init_225 : decode cX11_init 225 = .ok (.iconst 4, 1) := by decide +kernel
theorem dX11_init_226 : decode cX11_init 226 = .ok (.isub, 1) := by decide +kernel
theorem dX11_init_227 : decode cX11_init 227 = .ok (.iload_n 2, 1) := by decide +kernel
theorem dX11_init_228 : decode cX11_init 228 = .ok (.iadd, 1) := by decide +kernel
theorem dX11_init_229 : decode cX11_init 229 = .ok (.iload_n 3, 1) := by decide +kernel
theorem dX11_init_230 : decode cX11_init 230 = .ok (.iastore, 1) := by decide +kernel
theorem dX11_init_231 : decode cX11_init 231 = .ok (.iinc 2 1, 3) := by decide +kernel
theorem dX11_init_234 : decode cX11_init 234 = .ok (.iinc 3 1, 3) := by decide +kernel
theorem dX11_init_237 : decode cX11_init 237 = .ok (.goto (-38), 3) := by decide +kernel
theorem dX11_init_240 : decode cX11_init 240 = .ok (.iinc 1 1, 3) := by decide +kernel
theorem dX11_init_243 : decode cX11_init 243 = .ok (.goto (-54), 3) := by decide +kernel
theorem dX11_init_246 : decode cX11_init 246 = .ok (.aload_n 0, 1) := by decide +kernel
theorem dX11_init_247 : decode cX11_init 247 = .ok (.invokevirtual 69, 3) := by decide +kernel
theorem dX11_init_250 : decode cX11_init 250 = .ok (.return_, 1) := by decide +kernel
theorem dX11_in_0 : decode cX11_in 0 = .ok (.lload_n 0, 1) := by decide +kernel
theorem dX11_in_1 : decode cX11_in 1 = .ok (.lload_n 2, 1) := by decide +kernel
theorem dX11_in_2 : decode cX11_in 2 = .ok (.lcmp, 1) := by decide +kernel
theorem dX11_in_3 : decode cX11_in 3 = .ok (.ifCond .lt 14, 3) := by decide +kernel
theorem dX11_in_6 : decode cX11_in 6 = .ok (.lload_n 0, 1) := by decide +kernel
theorem dX11_in_7 : decode cX11_in 7 = .ok (.lload 4, 2) := by decide +kernel
theorem dX11_in_9 : decode cX11_in 9 = .ok (.lcmp, 1) := by decide +kernel
theorem dX11_in_10 : decode cX11_in 10 = .ok (.ifCond .gt 7, 3) := by decide +kernel
theorem dX11_in_13 : decode cX11_in 13 = .ok (.iconst 1, 1) := by decide +kernel
theorem dX11_in_14 : decode cX11_in 14 = .ok (.goto 4, 3) := by decide +kernel
theorem dX11_in_17 : decode cX11_in 17 = .ok (.iconst 0, 1) := by decide +kernel
theorem dX11_in_18 : decode cX11_in 18 = .ok (.ireturn, 1) := by decide +kernel
theorem dX11_stanceOf_0 : decode cX11_stanceOf 0 = .ok (.iconst 0, 1) := by decide +kernel
theorem dX11_stanceOf_1 : decode cX11_stanceOf 1 = .ok (.istore_n 3, 1) := by decide +kernel
theorem dX11_stanceOf_2 : decode cX11_stanceOf 2 = .ok (.iload_n 3, 1) := by decide +kernel
theorem dX11_stanceOf_3 : decode cX11_stanceOf 3 = .ok (.bipush 24, 2) := by decide +kernel
theorem dX11_stanceOf_5 : decode cX11_stanceOf 5 = .ok (.if_icmp .ge 31, 3) := by decide +kernel
theorem dX11_stanceOf_8 : decode cX11_stanceOf 8 = .ok (.aload_n 0, 1) := by decide +kernel
theorem dX11_stanceOf_9 : decode cX11_stanceOf 9 = .ok (.getfield 7, 3) := by decide +kernel
theorem dX11_stanceOf_12 : decode cX11_stanceOf 12 = .ok (.iload_n 3, 1) := by decide +kernel
theorem dX11_stanceOf_13 : decode cX11_stanceOf 13 = .ok (.iaload, 1) := by decide +kernel
theorem dX11_stanceOf_14 : decode cX11_stanceOf 14 = .ok (.iload_n 1, 1) := by decide +kernel
theorem dX11_stanceOf_15 : decode cX11_stanceOf 15 = .ok (.if_icmp .ne 15, 3) := by decide +kernel
theorem dX11_stanceOf_18 : decode cX11_stanceOf 18 = .ok (.aload_n 0, 1) := by decide +kernel
theorem dX11_stanceOf_19 : decode cX11_stanceOf 19 = .ok (.getfield 13, 3) := by decide +kernel
theorem dX11_stanceOf_22 : decode cX11_stanceOf 22 = .ok (.iload_n 3, 1) := by decide +kernel
theorem dX11_stanceOf_23 : decode cX11_stanceOf 23 = .ok (.iaload, 1) := by decide +kernel
theorem dX11_stanceOf_24 : decode cX11_stanceOf 24 = .ok (.iload_n 2, 1) := by decide +kernel
theorem dX11_stanceOf_25 : decode cX11_stanceOf 25 = .ok (.if_icmp .ne 5, 3) := by decide +kernel
theorem dX11_stanceOf_28 : decode cX11_stanceOf 28 = .ok (.iload_n 3, 1) := by decide +kernel
theorem dX11_stanceOf_29 : decode cX11_stanceOf 29 = .ok (.ireturn, 1) := by decide +kernel
theorem dX11_stanceOf_30 : decode cX11_stanceOf 30 = .ok (.iinc 3 1, 3) := by decide +kernel
theorem dX11_stanceOf_33 : decode cX11_stanceOf 33 = .ok (.goto (-31), 3) := by decide +kernel
theorem dX11_stanceOf_36 : decode cX11_stanceOf 36 = .ok (.bipush (-9), 2) := by decide +kernel
theorem dX11_stanceOf_38 : decode cX11_stanceOf 38 = .ok (.ireturn, 1) := by decide +kernel
theorem dX11_laySouths_0 : decode cX11_laySouths 0 = .ok (.aload_n 0, 1) := by decide +kernel
theorem dX11_laySouths_1 : decode cX11_laySouths 1 = .ok (.getfield 16, 3) := by decide +kernel
theorem dX11_laySouths_4 : decode cX11_laySouths 4 = .ok (.aload_n 0, 1) := by decide +kernel
theorem dX11_laySouths_5 : decode cX11_laySouths 5 = .ok (.iconst 1, 1) := by decide +kernel
theorem dX11_laySouths_6 : decode cX11_laySouths 6 = .ok (.iconst 3, 1) := by decide +kernel
theorem dX11_laySouths_7 : decode cX11_laySouths 7 = .ok (.invokevirtual 72, 3) := by decide +kernel
theorem dX11_laySouths_10 : decode cX11_laySouths 10 = .ok (.iconst 2, 1) := by decide +kernel
theorem dX11_laySouths_11 : decode cX11_laySouths 11 = .ok (.iastore, 1) := by decide +kernel
theorem dX11_laySouths_12 : decode cX11_laySouths 12 = .ok (.iconst 1, 1) := by decide +kernel
theorem dX11_laySouths_13 : decode cX11_laySouths 13 = .ok (.istore_n 1, 1) := by decide +kernel
theorem dX11_laySouths_14 : decode cX11_laySouths 14 = .ok (.iload_n 1, 1) := by decide +kernel
theorem dX11_laySouths_15 : decode cX11_laySouths 15 = .ok (.ifCond .eq 141, 3) := by decide +kernel
theorem dX11_laySouths_18 : decode cX11_laySouths 18 = .ok (.iconst 0, 1) := by decide +kernel
theorem dX11_laySouths_19 : decode cX11_laySouths 19 = .ok (.istore_n 1, 1) := by decide +kernel
theorem dX11_laySouths_20 : decode cX11_laySouths 20 = .ok (.iconst 0, 1) := by decide +kernel
theorem dX11_laySouths_21 : decode cX11_laySouths 21 = .ok (.istore_n 2, 1) := by decide +kernel
theorem dX11_laySouths_22 : decode cX11_laySouths 22 = .ok (.iload_n 2, 1) := by decide +kernel
theorem dX11_laySouths_23 : decode cX11_laySouths 23 = .ok (.bipush 96, 2) := by decide +kernel
theorem dX11_laySouths_25 : decode cX11_laySouths 25 = .ok (.if_icmp .ge 128, 3) := by decide +kernel
theorem dX11_laySouths_28 : decode cX11_laySouths 28 = .ok (.iload_n 2, 1) := by decide +kernel
theorem dX11_laySouths_29 : decode cX11_laySouths 29 = .ok (.iconst 4, 1) := by decide +kernel
theorem dX11_laySouths_30 : decode cX11_laySouths 30 = .ok (.idiv, 1) := by decide +kernel
theorem dX11_laySouths_31 : decode cX11_laySouths 31 = .ok (.istore_n 3, 1) := by decide +kernel
theorem dX11_laySouths_32 : decode cX11_laySouths 32 = .ok (.aload_n 0, 1) := by decide +kernel
theorem dX11_laySouths_33 : decode cX11_laySouths 33 = .ok (.getfield 16, 3) := by decide +kernel
theorem dX11_laySouths_36 : decode cX11_laySouths 36 = .ok (.iload_n 3, 1) := by decide +kernel
theorem dX11_laySouths_37 : decode cX11_laySouths 37 = .ok (.iaload, 1) := by decide +kernel
theorem dX11_laySouths_38 : decode cX11_laySouths 38 = .ok (.ifCond .le 109, 3) := by decide +kernel
theorem dX11_laySouths_41 : decode cX11_laySouths 41 = .ok (.aload_n 0, 1) := by decide +kernel
theorem dX11_laySouths_42 : decode cX11_laySouths 42 = .ok (.iload_n 3, 1) := by decide +kernel
theorem dX11_laySouths_43 : decode cX11_laySouths 43 = .ok (.iload_n 2, 1) := by decide +kernel
theorem dX11_laySouths_44 : decode cX11_laySouths 44 = .ok (.iconst 4, 1) := by decide +kernel
theorem dX11_laySouths_45 : decode cX11_laySouths 45 = .ok (.irem, 1) := by decide +kernel
theorem dX11_laySouths_46 : decode cX11_laySouths 46 = .ok (.invokevirtual 76, 3) := by decide +kernel
theorem dX11_laySouths_49 : decode cX11_laySouths 49 = .ok (.istore 4, 2) := by decide +kernel
theorem dX11_laySouths_51 : decode cX11_laySouths 51 = .ok (.aload_n 0, 1) := by decide +kernel
theorem dX11_laySouths_52 : decode cX11_laySouths 52 = .ok (.iload_n 3, 1) := by decide +kernel
theorem dX11_laySouths_53 : decode cX11_laySouths 53 = .ok (.iload_n 2, 1) := by decide +kernel
theorem dX11_laySouths_54 : decode cX11_laySouths 54 = .ok (.iconst 4, 1) := by decide +kernel
theorem dX11_laySouths_55 : decode cX11_laySouths 55 = .ok (.irem, 1) := by decide +kernel
theorem dX11_laySouths_56 : decode cX11_laySouths 56 = .ok (.invokevirtual 79, 3) := by decide +kernel
theorem dX11_laySouths_59 : decode cX11_laySouths 59 = .ok (.istore 5, 2) := by decide +kernel
theorem dX11_laySouths_61 : decode cX11_laySouths 61 = .ok (.aload_n 0, 1) := by decide +kernel
theorem dX11_laySouths_62 : decode cX11_laySouths 62 = .ok (.iload 4, 2) := by decide +kernel
theorem dX11_laySouths_64 : decode cX11_laySouths 64 = .ok (.iload 5, 2) := by decide +kernel
theorem dX11_laySouths_66 : decode cX11_laySouths 66 = .ok (.invokevirtual 72, 3) := by decide +kernel
theorem dX11_laySouths_69 : decode cX11_laySouths 69 = .ok (.istore 6, 2) := by decide +kernel
theorem dX11_laySouths_71 : decode cX11_laySouths 71 = .ok (.aload_n 0, 1) := by decide +kernel
theorem dX11_laySouths_72 : decode cX11_laySouths 72 = .ok (.getfield 19, 3) := by decide +kernel
theorem dX11_laySouths_75 : decode cX11_laySouths 75 = .ok (.iload_n 2, 1) := by decide +kernel
theorem dX11_laySouths_76 : decode cX11_laySouths 76 = .ok (.iload 6, 2) := by decide +kernel
theorem dX11_laySouths_78 : decode cX11_laySouths 78 = .ok (.iastore, 1) := by decide +kernel
theorem dX11_laySouths_79 : decode cX11_laySouths 79 = .ok (.iload_n 1, 1) := by decide +kernel
theorem dX11_laySouths_80 : decode cX11_laySouths 80 = .ok (.ifCond .ne 13, 3) := by decide +kernel
theorem dX11_laySouths_83 : decode cX11_laySouths 83 = .ok (.aload_n 0, 1) := by decide +kernel
theorem dX11_laySouths_84 : decode cX11_laySouths 84 = .ok (.getfield 16, 3) := by decide +kernel
theorem dX11_laySouths_87 : decode cX11_laySouths 87 = .ok (.iload 6, 2) := by decide +kernel
theorem dX11_laySouths_89 : decode cX11_laySouths 89 = .ok (.iaload, 1) := by decide +kernel
theorem dX11_laySouths_90 : decode cX11_laySouths 90 = .ok (.ifCond .ne 7, 3) := by decide +kernel
theorem dX11_laySouths_93 : decode cX11_laySouths 93 = .ok (.iconst 1, 1) := by decide +kernel
theorem dX11_laySouths_94 : decode cX11_laySouths 94 = .ok (.goto 4, 3) := by decide +kernel
theorem dX11_laySouths_97 : decode cX11_laySouths 97 = .ok (.iconst 0, 1) := by decide +kernel
theorem dX11_laySouths_98 : decode cX11_laySouths 98 = .ok (.istore_n 1, 1) := by decide +kernel
theorem dX11_laySouths_99 : decode cX11_laySouths 99 = .ok (.aload_n 0, 1) := by decide +kernel
theorem dX11_laySouths_100 : decode cX11_laySouths 100 = .ok (.getfield 16, 3) := by decide +kernel
theorem dX11_laySouths_103 : decode cX11_laySouths 103 = .ok (.iload 6, 2) := by decide +kernel
theorem dX11_laySouths_105 : decode cX11_laySouths 105 = .ok (.iload_n 2, 1) := by decide +kernel
theorem dX11_laySouths_106 : decode cX11_laySouths 106 = .ok (.iconst 4, 1) := by decide +kernel
theorem dX11_laySouths_107 : decode cX11_laySouths 107 = .ok (.irem, 1) := by decide +kernel
theorem dX11_laySouths_108 : decode cX11_laySouths 108 = .ok (.iconst 1, 1) := by decide +kernel
theorem dX11_laySouths_109 : decode cX11_laySouths 109 = .ok (.if_icmp .ne 12, 3) := by decide +kernel
theorem dX11_laySouths_112 : decode cX11_laySouths 112 = .ok (.aload_n 0, 1) := by decide +kernel
theorem dX11_laySouths_113 : decode cX11_laySouths 113 = .ok (.getfield 7, 3) := by decide +kernel
theorem dX11_laySouths_116 : decode cX11_laySouths 116 = .ok (.iload_n 3, 1) := by decide +kernel
theorem dX11_laySouths_117 : decode cX11_laySouths 117 = .ok (.iaload, 1) := by decide +kernel
theorem dX11_laySouths_118 : decode cX11_laySouths 118 = .ok (.goto 28, 3) := by decide +kernel
theorem dX11_laySouths_121 : decode cX11_laySouths 121 = .ok (.iload_n 2, 1) := by decide +kernel
theorem dX11_laySouths_122 : decode cX11_laySouths 122 = .ok (.iconst 4, 1) := by decide +kernel
theorem dX11_laySouths_123 : decode cX11_laySouths 123 = .ok (.irem, 1) := by decide +kernel
theorem dX11_laySouths_124 : decode cX11_laySouths 124 = .ok (.iconst 3, 1) := by decide +kernel
theorem dX11_laySouths_125 : decode cX11_laySouths 125 = .ok (.if_icmp .ne 15, 3) := by decide +kernel
theorem dX11_laySouths_128 : decode cX11_laySouths 128 = .ok (.bipush 7, 2) := by decide +kernel
theorem dX11_laySouths_130 : decode cX11_laySouths 130 = .ok (.aload_n 0, 1) := by decide +kernel
theorem dX11_laySouths_131 : decode cX11_laySouths 131 = .ok (.getfield 7, 3) := by decide +kernel
theorem dX11_laySouths_134 : decode cX11_laySouths 134 = .ok (.iload_n 3, 1) := by decide +kernel
theorem dX11_laySouths_135 : decode cX11_laySouths 135 = .ok (.iaload, 1) := by decide +kernel
theorem dX11_laySouths_136 : decode cX11_laySouths 136 = .ok (.isub, 1) := by decide +kernel
theorem dX11_laySouths_137 : decode cX11_laySouths 137 = .ok (.goto 9, 3) := by decide +kernel
theorem dX11_laySouths_140 : decode cX11_laySouths 140 = .ok (.aload_n 0, 1) := by decide +kernel
theorem dX11_laySouths_141 : decode cX11_laySouths 141 = .ok (.getfield 16, 3) := by decide +kernel
theorem dX11_laySouths_144 : decode cX11_laySouths 144 = .ok (.iload_n 3, 1) := by decide +kernel
theorem dX11_laySouths_145 : decode cX11_laySouths 145 = .ok (.iaload, 1) := by decide +kernel
theorem dX11_laySouths_146 : decode cX11_laySouths 146 = .ok (.iastore, 1) := by decide +kernel
theorem dX11_laySouths_147 : decode cX11_laySouths 147 = .ok (.iinc 2 1, 3) := by decide +kernel
theorem dX11_laySouths_150 : decode cX11_laySouths 150 = .ok (.goto (-128), 3) := by decide +kernel
theorem dX11_laySouths_153 : decode cX11_laySouths 153 = .ok (.goto (-139), 3) := by decide +kernel
theorem dX11_laySouths_156 : decode cX11_laySouths 156 = .ok (.return_, 1) := by decide +kernel
theorem dX11_topAfter_0 : decode cX11_topAfter 0 = .ok (.iload_n 2, 1) := by decide +kernel
theorem dX11_topAfter_1 : decode cX11_topAfter 1 = .ok (.ifCond .ne 15, 3) := by decide +kernel
theorem dX11_topAfter_4 : decode cX11_topAfter 4 = .ok (.bipush 7, 2) := by decide +kernel
theorem dX11_topAfter_6 : decode cX11_topAfter 6 = .ok (.aload_n 0, 1) := by decide +kernel
theorem dX11_topAfter_7 : decode cX11_topAfter 7 = .ok (.getfield 13, 3) := by decide +kernel
theorem dX11_topAfter_10 : decode cX11_topAfter 10 = .ok (.iload_n 1, 1) := by decide +kernel
theorem dX11_topAfter_11 : decode cX11_topAfter 11 = .ok (.iaload, 1) := by decide +kernel
theorem dX11_topAfter_12 : decode cX11_topAfter 12 = .ok (.isub, 1) := by decide +kernel
theorem dX11_topAfter_13 : decode cX11_topAfter 13 = .ok (.goto 40, 3) := by decide +kernel
theorem dX11_topAfter_16 : decode cX11_topAfter 16 = .ok (.iload_n 2, 1) := by decide +kernel
theorem dX11_topAfter_17 : decode cX11_topAfter 17 = .ok (.iconst 1, 1) := by decide +kernel
theorem dX11_topAfter_18 : decode cX11_topAfter 18 = .ok (.if_icmp .ne 15, 3) := by decide +kernel
theorem dX11_topAfter_21 : decode cX11_topAfter 21 = .ok (.bipush 7, 2) := by decide +kernel
theorem dX11_topAfter_23 : decode cX11_topAfter 23 = .ok (.aload_n 0, 1) := by decide +kernel
theorem dX11_topAfter_24 : decode cX11_topAfter 24 = .ok (.getfield 16, 3) := by decide +kernel
theorem dX11_topAfter_27 : decode cX11_topAfter 27 = .ok (.iload_n 1, 1) := by decide +kernel
theorem dX11_topAfter_28 : decode cX11_topAfter 28 = .ok (.iaload, 1) := by decide +kernel
theorem dX11_topAfter_29 : decode cX11_topAfter 29 = .ok (.isub, 1) := by decide +kernel
theorem dX11_topAfter_30 : decode cX11_topAfter 30 = .ok (.goto 23, 3) := by decide +kernel
theorem dX11_topAfter_33 : decode cX11_topAfter 33 = .ok (.iload_n 2, 1) := by decide +kernel
theorem dX11_topAfter_34 : decode cX11_topAfter 34 = .ok (.iconst 2, 1) := by decide +kernel
theorem dX11_topAfter_35 : decode cX11_topAfter 35 = .ok (.if_icmp .ne 12, 3) := by decide +kernel
theorem dX11_topAfter_38 : decode cX11_topAfter 38 = .ok (.aload_n 0, 1) := by decide +kernel
theorem dX11_topAfter_39 : decode cX11_topAfter 39 = .ok (.getfield 13, 3) := by decide +kernel
theorem dX11_topAfter_42 : decode cX11_topAfter 42 = .ok (.iload_n 1, 1) := by decide +kernel
theorem dX11_topAfter_43 : decode cX11_topAfter 43 = .ok (.iaload, 1) := by decide +kernel
theorem dX11_topAfter_44 : decode cX11_topAfter 44 = .ok (.goto 9, 3) := by decide +kernel
theorem dX11_topAfter_47 : decode cX11_topAfter 47 = .ok (.aload_n 0, 1) := by decide +kernel
theorem dX11_topAfter_48 : decode cX11_topAfter 48 = .ok (.getfield 16, 3) := by decide +kernel
theorem dX11_topAfter_51 : decode cX11_topAfter 51 = .ok (.iload_n 1, 1) := by decide +kernel
theorem dX11_topAfter_52 : decode cX11_topAfter 52 = .ok (.iaload, 1) := by decide +kernel
theorem dX11_topAfter_53 : decode cX11_topAfter 53 = .ok (.ireturn, 1) := by decide +kernel
theorem dX11_eastAfter_0 : decode cX11_eastAfter 0 = .ok (.iload_n 2, 1) := by decide +kernel
theorem dX11_eastAfter_1 : decode cX11_eastAfter 1 = .ok (.ifCond .ne 12, 3) := by decide +kernel
theorem dX11_eastAfter_4 : decode cX11_eastAfter 4 = .ok (.aload_n 0, 1) := by decide +kernel
theorem dX11_eastAfter_5 : decode cX11_eastAfter 5 = .ok (.getfield 7, 3) := by decide +kernel
theorem dX11_eastAfter_8 : decode cX11_eastAfter 8 = .ok (.iload_n 1, 1) := by decide +kernel
theorem dX11_eastAfter_9 : decode cX11_eastAfter 9 = .ok (.iaload, 1) := by decide +kernel
theorem dX11_eastAfter_10 : decode cX11_eastAfter 10 = .ok (.goto 26, 3) := by decide +kernel
theorem dX11_eastAfter_13 : decode cX11_eastAfter 13 = .ok (.iload_n 2, 1) := by decide +kernel
theorem dX11_eastAfter_14 : decode cX11_eastAfter 14 = .ok (.iconst 2, 1) := by decide +kernel
theorem dX11_eastAfter_15 : decode cX11_eastAfter 15 = .ok (.if_icmp .ne 15, 3) := by decide +kernel
theorem dX11_eastAfter_18 : decode cX11_eastAfter 18 = .ok (.bipush 7, 2) := by decide +kernel
theorem dX11_eastAfter_20 : decode cX11_eastAfter 20 = .ok (.aload_n 0, 1) := by decide +kernel
theorem dX11_eastAfter_21 : decode cX11_eastAfter 21 = .ok (.getfield 7, 3) := by decide +kernel
theorem dX11_eastAfter_24 : decode cX11_eastAfter 24 = .ok (.iload_n 1, 1) := by decide +kernel
theorem dX11_eastAfter_25 : decode cX11_eastAfter 25 = .ok (.iaload, 1) := by decide +kernel
theorem dX11_eastAfter_26 : decode cX11_eastAfter 26 = .ok (.isub, 1) := by decide +kernel
theorem dX11_eastAfter_27 : decode cX11_eastAfter 27 = .ok (.goto 9, 3) := by decide +kernel
theorem dX11_eastAfter_30 : decode cX11_eastAfter 30 = .ok (.aload_n 0, 1) := by decide +kernel
theorem dX11_eastAfter_31 : decode cX11_eastAfter 31 = .ok (.getfield 13, 3) := by decide +kernel
theorem dX11_eastAfter_34 : decode cX11_eastAfter 34 = .ok (.iload_n 1, 1) := by decide +kernel
theorem dX11_eastAfter_35 : decode cX11_eastAfter 35 = .ok (.iaload, 1) := by decide +kernel
theorem dX11_eastAfter_36 : decode cX11_eastAfter 36 = .ok (.ireturn, 1) := by decide +kernel
theorem dX11_isStance_0 : decode cX11_isStance 0 = .ok (.iload_n 0, 1) := by decide +kernel
theorem dX11_isStance_1 : decode cX11_isStance 1 = .ok (.i2l, 1) := by decide +kernel
theorem dX11_isStance_2 : decode cX11_isStance 2 = .ok (.lconst 0, 1) := by decide +kernel
theorem dX11_isStance_3 : decode cX11_isStance 3 = .ok (.ldc2_w 82, 3) := by decide +kernel
theorem dX11_isStance_6 : decode cX11_isStance 6 = .ok (.invokestatic 84, 3) := by decide +kernel
theorem dX11_isStance_9 : decode cX11_isStance 9 = .ok (.ireturn, 1) := by decide +kernel
theorem dX11_isWay_0 : decode cX11_isWay 0 = .ok (.iload_n 0, 1) := by decide +kernel
theorem dX11_isWay_1 : decode cX11_isWay 1 = .ok (.i2l, 1) := by decide +kernel
theorem dX11_isWay_2 : decode cX11_isWay 2 = .ok (.lconst 0, 1) := by decide +kernel
theorem dX11_isWay_3 : decode cX11_isWay 3 = .ok (.ldc2_w 88, 3) := by decide +kernel
theorem dX11_isWay_6 : decode cX11_isWay 6 = .ok (.invokestatic 84, 3) := by decide +kernel
theorem dX11_isWay_9 : decode cX11_isWay 9 = .ok (.ireturn, 1) := by decide +kernel
theorem dX11_face_0 : decode cX11_face 0 = .ok (.iload_n 1, 1) := by decide +kernel
theorem dX11_face_1 : decode cX11_face 1 = .ok (.invokestatic 90, 3) := by decide +kernel
theorem dX11_face_4 : decode cX11_face 4 = .ok (.ifCond .ne 5, 3) := by decide +kernel
theorem dX11_face_7 : decode cX11_face 7 = .ok (.iconst (-1), 1) := by decide +kernel
theorem dX11_face_8 : decode cX11_face 8 = .ok (.ireturn, 1) := by decide +kernel
theorem dX11_face_9 : decode cX11_face 9 = .ok (.iload_n 2, 1) := by decide +kernel
theorem dX11_face_10 : decode cX11_face 10 = .ok (.ifCond .ne 12, 3) := by decide +kernel
theorem dX11_face_13 : decode cX11_face 13 = .ok (.aload_n 0, 1) := by decide +kernel
theorem dX11_face_14 : decode cX11_face 14 = .ok (.getfield 7, 3) := by decide +kernel
theorem dX11_face_17 : decode cX11_face 17 = .ok (.iload_n 1, 1) := by decide +kernel
theorem dX11_face_18 : decode cX11_face 18 = .ok (.iaload, 1) := by decide +kernel
theorem dX11_face_19 : decode cX11_face 19 = .ok (.goto 33, 3) := by decide +kernel
theorem dX11_face_22 : decode cX11_face 22 = .ok (.iload_n 2, 1) := by decide +kernel
theorem dX11_face_23 : decode cX11_face 23 = .ok (.iconst 1, 1) := by decide +kernel
theorem dX11_face_24 : decode cX11_face 24 = .ok (.if_icmp .ne 12, 3) := by decide +kernel
theorem dX11_face_27 : decode cX11_face 27 = .ok (.aload_n 0, 1) := by decide +kernel
theorem dX11_face_28 : decode cX11_face 28 = .ok (.getfield 13, 3) := by decide +kernel
theorem dX11_face_31 : decode cX11_face 31 = .ok (.iload_n 1, 1) := by decide +kernel
theorem dX11_face_32 : decode cX11_face 32 = .ok (.iaload, 1) := by decide +kernel
theorem dX11_face_33 : decode cX11_face 33 = .ok (.goto 19, 3) := by decide +kernel
theorem dX11_face_36 : decode cX11_face 36 = .ok (.iload_n 2, 1) := by decide +kernel
theorem dX11_face_37 : decode cX11_face 37 = .ok (.iconst 2, 1) := by decide +kernel
theorem dX11_face_38 : decode cX11_face 38 = .ok (.if_icmp .ne 12, 3) := by decide +kernel
theorem dX11_face_41 : decode cX11_face 41 = .ok (.aload_n 0, 1) := by decide +kernel
theorem dX11_face_42 : decode cX11_face 42 = .ok (.getfield 16, 3) := by decide +kernel
theorem dX11_face_45 : decode cX11_face 45 = .ok (.iload_n 1, 1) := by decide +kernel
theorem dX11_face_46 : decode cX11_face 46 = .ok (.iaload, 1) := by decide +kernel
theorem dX11_face_47 : decode cX11_face 47 = .ok (.goto 5, 3) := by decide +kernel
theorem dX11_face_50 : decode cX11_face 50 = .ok (.bipush (-2), 2) := by decide +kernel
theorem dX11_face_52 : decode cX11_face 52 = .ok (.ireturn, 1) := by decide +kernel
theorem dX11_turn_0 : decode cX11_turn 0 = .ok (.iload_n 1, 1) := by decide +kernel
theorem dX11_turn_1 : decode cX11_turn 1 = .ok (.invokestatic 90, 3) := by decide +kernel
theorem dX11_turn_4 : decode cX11_turn 4 = .ok (.ifCond .ne 5, 3) := by decide +kernel
theorem dX11_turn_7 : decode cX11_turn 7 = .ok (.iconst (-1), 1) := by decide +kernel
theorem dX11_turn_8 : decode cX11_turn 8 = .ok (.ireturn, 1) := by decide +kernel
theorem dX11_turn_9 : decode cX11_turn 9 = .ok (.iload_n 2, 1) := by decide +kernel
theorem dX11_turn_10 : decode cX11_turn 10 = .ok (.invokestatic 94, 3) := by decide +kernel
theorem dX11_turn_13 : decode cX11_turn 13 = .ok (.ifCond .eq 16, 3) := by decide +kernel
theorem dX11_turn_16 : decode cX11_turn 16 = .ok (.aload_n 0, 1) := by decide +kernel
theorem dX11_turn_17 : decode cX11_turn 17 = .ok (.getfield 19, 3) := by decide +kernel
theorem dX11_turn_20 : decode cX11_turn 20 = .ok (.iconst 4, 1) := by decide +kernel
theorem dX11_turn_21 : decode cX11_turn 21 = .ok (.iload_n 1, 1) := by decide +kernel
theorem dX11_turn_22 : decode cX11_turn 22 = .ok (.imul, 1) := by decide +kernel
theorem dX11_turn_23 : decode cX11_turn 23 = .ok (.iload_n 2, 1) := by decide +kernel
theorem dX11_turn_24 : decode cX11_turn 24 = .ok (.iadd, 1) := by decide +kernel
theorem dX11_turn_25 : decode cX11_turn 25 = .ok (.iaload, 1) := by decide +kernel
theorem dX11_turn_26 : decode cX11_turn 26 = .ok (.goto 5, 3) := by decide +kernel
theorem dX11_turn_29 : decode cX11_turn 29 = .ok (.bipush (-2), 2) := by decide +kernel
theorem dX11_turn_31 : decode cX11_turn 31 = .ok (.ireturn, 1) := by decide +kernel
theorem dX11_stance_0 : decode cX11_stance 0 = .ok (.iload_n 1, 1) := by decide +kernel
theorem dX11_stance_1 : decode cX11_stance 1 = .ok (.i2l, 1) := by decide +kernel
theorem dX11_stance_2 : decode cX11_stance 2 = .ok (.lconst 1, 1) := by decide +kernel
theorem dX11_stance_3 : decode cX11_stance 3 = .ok (.ldc2_w 97, 3) := by decide +kernel
theorem dX11_stance_6 : decode cX11_stance 6 = .ok (.invokestatic 84, 3) := by decide +kernel
theorem dX11_stance_9 : decode cX11_stance 9 = .ok (.ifCond .eq 24, 3) := by decide +kernel
theorem dX11_stance_12 : decode cX11_stance 12 = .ok (.iload_n 2, 1) := by decide +kernel
theorem dX11_stance_13 : decode cX11_stance 13 = .ok (.i2l, 1) := by decide +kernel
theorem dX11_stance_14 : decode cX11_stance 14 = .ok (.lconst 1, 1) := by decide +kernel
theorem dX11_stance_15 : decode cX11_stance 15 = .ok (.ldc2_w 97, 3) := by decide +kernel
theorem dX11_stance_18 : decode cX11_stance 18 = .ok (.invokestatic 84, 3) := by decide +kernel
theorem dX11_stance_21 : decode cX11_stance 21 = .ok (.ifCond .eq 12, 3) := by decide +kernel
theorem dX11_stance_24 : decode cX11_stance 24 = .ok (.aload_n 0, 1) := by decide +kernel
theorem dX11_stance_25 : decode cX11_stance 25 = .ok (.iload_n 1, 1) := by decide +kernel
theorem dX11_stance_26 : decode cX11_stance 26 = .ok (.iload_n 2, 1) := by decide +kernel
theorem dX11_stance_27 : decode cX11_stance 27 = .ok (.invokevirtual 72, 3) := by decide +kernel
theorem dX11_stance_30 : decode cX11_stance 30 = .ok (.goto 5, 3) := by decide +kernel
theorem dX11_stance_33 : decode cX11_stance 33 = .ok (.bipush (-2), 2) := by decide +kernel
theorem dX11_stance_35 : decode cX11_stance 35 = .ok (.ireturn, 1) := by decide +kernel
theorem dX11_apart_0 : decode cX11_apart 0 = .ok (.iload_n 1, 1) := by decide +kernel
theorem dX11_apart_1 : decode cX11_apart 1 = .ok (.invokestatic 90, 3) := by decide +kernel
theorem dX11_apart_4 : decode cX11_apart 4 = .ok (.ifCond .eq 10, 3) := by decide +kernel
theorem dX11_apart_7 : decode cX11_apart 7 = .ok (.iload_n 2, 1) := by decide +kernel
theorem dX11_apart_8 : decode cX11_apart 8 = .ok (.invokestatic 90, 3) := by decide +kernel
theorem dX11_apart_11 : decode cX11_apart 11 = .ok (.ifCond .ne 5, 3) := by decide +kernel
theorem dX11_apart_14 : decode cX11_apart 14 = .ok (.iconst (-1), 1) := by decide +kernel
theorem dX11_apart_15 : decode cX11_apart 15 = .ok (.ireturn, 1) := by decide +kernel
theorem dX11_apart_16 : decode cX11_apart 16 = .ok (.iconst 0, 1) := by decide +kernel
theorem dX11_apart_17 : decode cX11_apart 17 = .ok (.istore_n 3, 1) := by decide +kernel
theorem dX11_apart_18 : decode cX11_apart 18 = .ok (.iload_n 3, 1) := by decide +kernel
theorem dX11_apart_19 : decode cX11_apart 19 = .ok (.bipush 24, 2) := by decide +kernel
theorem dX11_apart_21 : decode cX11_apart 21 = .ok (.if_icmp .ge 26, 3) := by decide +kernel
theorem dX11_apart_24 : decode cX11_apart 24 = .ok (.aload_n 0, 1) := by decide +kernel
theorem dX11_apart_25 : decode cX11_apart 25 = .ok (.getfield 22, 3) := by decide +kernel
theorem dX11_apart_28 : decode cX11_apart 28 = .ok (.iload_n 3, 1) := by decide +kernel
theorem dX11_apart_29 : decode cX11_apart 29 = .ok (.iload_n 3, 1) := by decide +kernel
theorem dX11_apart_30 : decode cX11_apart 30 = .ok (.iload_n 1, 1) := by decide +kernel
theorem dX11_apart_31 : decode cX11_apart 31 = .ok (.if_icmp .ne 7, 3) := by decide +kernel
theorem dX11_apart_34 : decode cX11_apart 34 = .ok (.iconst 0, 1) := by decide +kernel
theorem dX11_apart_35 : decode cX11_apart 35 = .ok (.goto 5, 3) := by decide +kernel
theorem dX11_apart_38 : decode cX11_apart 38 = .ok (.ldc 99, 2) := by decide +kernel
theorem dX11_apart_40 : decode cX11_apart 40 = .ok (.iastore, 1) := by decide +kernel
theorem dX11_apart_41 : decode cX11_apart 41 = .ok (.iinc 3 1, 3) := by decide +kernel
theorem dX11_apart_44 : decode cX11_apart 44 = .ok (.goto (-26), 3) := by decide +kernel
theorem dX11_apart_47 : decode cX11_apart 47 = .ok (.iconst 0, 1) := by decide +kernel
theorem dX11_apart_48 : decode cX11_apart 48 = .ok (.istore_n 3, 1) := by decide +kernel
theorem dX11_apart_49 : decode cX11_apart 49 = .ok (.iload_n 3, 1) := by decide +kernel
theorem dX11_apart_50 : decode cX11_apart 50 = .ok (.bipush 24, 2) := by decide +kernel
theorem dX11_apart_52 : decode cX11_apart 52 = .ok (.if_icmp .ge 79, 3) := by decide +kernel
theorem dX11_apart_55 : decode cX11_apart 55 = .ok (.iconst 0, 1) := by decide +kernel
theorem dX11_apart_56 : decode cX11_apart 56 = .ok (.istore 4, 2) := by decide +kernel
theorem dX11_apart_58 : decode cX11_apart 58 = .ok (.iload 4, 2) := by decide +kernel
theorem dX11_apart_60 : decode cX11_apart 60 = .ok (.bipush 96, 2) := by decide +kernel
theorem dX11_apart_62 : decode cX11_apart 62 = .ok (.if_icmp .ge 63, 3) := by decide +kernel
theorem dX11_apart_65 : decode cX11_apart 65 = .ok (.aload_n 0, 1) := by decide +kernel
theorem dX11_apart_66 : decode cX11_apart 66 = .ok (.getfield 19, 3) := by decide +kernel
theorem dX11_apart_69 : decode cX11_apart 69 = .ok (.iload 4, 2) := by decide +kernel
theorem dX11_apart_71 : decode cX11_apart 71 = .ok (.iaload, 1) := by decide +kernel
theorem dX11_apart_72 : decode cX11_apart 72 = .ok (.istore 5, 2) := by decide +kernel
theorem dX11_apart_74 : decode cX11_apart 74 = .ok (.aload_n 0, 1) := by decide +kernel
theorem dX11_apart_75 : decode cX11_apart 75 = .ok (.getfield 22, 3) := by decide +kernel
theorem dX11_apart_78 : decode cX11_apart 78 = .ok (.iload 5, 2) := by decide +kernel
theorem dX11_apart_80 : decode cX11_apart 80 = .ok (.aload_n 0, 1) := by decide +kernel
theorem dX11_apart_81 : decode cX11_apart 81 = .ok (.getfield 22, 3) := by decide +kernel
theorem dX11_apart_84 : decode cX11_apart 84 = .ok (.iload 4, 2) := by decide +kernel
theorem dX11_apart_86 : decode cX11_apart 86 = .ok (.iconst 4, 1) := by decide +kernel
theorem dX11_apart_87 : decode cX11_apart 87 = .ok (.idiv, 1) := by decide +kernel
theorem dX11_apart_88 : decode cX11_apart 88 = .ok (.iaload, 1) := by decide +kernel
theorem dX11_apart_89 : decode cX11_apart 89 = .ok (.iload_n 3, 1) := by decide +kernel
theorem dX11_apart_90 : decode cX11_apart 90 = .ok (.if_icmp .ne 21, 3) := by decide +kernel
theorem dX11_apart_93 : decode cX11_apart 93 = .ok (.aload_n 0, 1) := by decide +kernel
theorem dX11_apart_94 : decode cX11_apart 94 = .ok (.getfield 22, 3) := by decide +kernel
theorem dX11_apart_97 : decode cX11_apart 97 = .ok (.iload 5, 2) := by decide +kernel
theorem dX11_apart_99 : decode cX11_apart 99 = .ok (.iaload, 1) := by decide +kernel
theorem dX11_apart_100 : decode cX11_apart 100 = .ok (.ldc 99, 2) := by decide +kernel
theorem dX11_apart_102 : decode cX11_apart 102 = .ok (.if_icmp .ne 9, 3) := by decide +kernel
theorem dX11_apart_105 : decode cX11_apart 105 = .ok (.iload_n 3, 1) := by decide +kernel
theorem dX11_apart_106 : decode cX11_apart 106 = .ok (.iconst 1, 1) := by decide +kernel
theorem dX11_apart_107 : decode cX11_apart 107 = .ok (.iadd, 1) := by decide +kernel
theorem dX11_apart_108 : decode cX11_apart 108 = .ok (.goto 10, 3) := by decide +kernel
theorem dX11_apart_111 : decode cX11_apart 111 = .ok (.aload_n 0, 1) := by decide +kernel
theorem dX11_apart_112 : decode cX11_apart 112 = .ok (.getfield 22, 3) := by decide +kernel
theorem dX11_apart_115 : decode cX11_apart 115 = .ok (.iload 5, 2) := by decide +kernel
theorem dX11_apart_117 : decode cX11_apart 117 = .ok (.iaload, 1) := by decide +kernel
theorem dX11_apart_118 : decode cX11_apart 118 = .ok (.iastore, 1) := by decide +kernel
theorem dX11_apart_119 : decode cX11_apart 119 = .ok (.iinc 4 1, 3) := by decide +kernel
theorem dX11_apart_122 : decode cX11_apart 122 = .ok (.goto (-64), 3) := by decide +kernel
theorem dX11_apart_125 : decode cX11_apart 125 = .ok (.iinc 3 1, 3) := by decide +kernel
theorem dX11_apart_128 : decode cX11_apart 128 = .ok (.goto (-79), 3) := by decide +kernel
theorem dX11_apart_131 : decode cX11_apart 131 = .ok (.aload_n 0, 1) := by decide +kernel
theorem dX11_apart_132 : decode cX11_apart 132 = .ok (.getfield 22, 3) := by decide +kernel
theorem dX11_apart_135 : decode cX11_apart 135 = .ok (.iload_n 2, 1) := by decide +kernel
theorem dX11_apart_136 : decode cX11_apart 136 = .ok (.iaload, 1) := by decide +kernel
theorem dX11_apart_137 : decode cX11_apart 137 = .ok (.ireturn, 1) := by decide +kernel
theorem dX11_cells_0 : decode cX11_cells 0 = .ok (.aload_n 0, 1) := by decide +kernel
theorem dX11_cells_1 : decode cX11_cells 1 = .ok (.getfield 25, 3) := by decide +kernel
theorem dX11_cells_4 : decode cX11_cells 4 = .ok (.aload_n 0, 1) := by decide +kernel
theorem dX11_cells_5 : decode cX11_cells 5 = .ok (.getfield 29, 3) := by decide +kernel
theorem dX11_cells_8 : decode cX11_cells 8 = .ok (.imul, 1) := by decide +kernel
theorem dX11_cells_9 : decode cX11_cells 9 = .ok (.ireturn, 1) := by decide +kernel
theorem dX11_isCell_0 : decode cX11_isCell 0 = .ok (.iload_n 1, 1) := by decide +kernel
theorem dX11_isCell_1 : decode cX11_isCell 1 = .ok (.i2l, 1) := by decide +kernel
theorem dX11_isCell_2 : decode cX11_isCell 2 = .ok (.lconst 0, 1) := by decide +kernel
theorem dX11_isCell_3 : decode cX11_isCell 3 = .ok (.aload_n 0, 1) := by decide +kernel
theorem dX11_isCell_4 : decode cX11_isCell 4 = .ok (.invokevirtual 100, 3) := by decide +kernel
theorem dX11_isCell_7 : decode cX11_isCell 7 = .ok (.iconst 1, 1) := by decide +kernel
theorem dX11_isCell_8 : decode cX11_isCell 8 = .ok (.isub, 1) := by decide +kernel
theorem dX11_isCell_9 : decode cX11_isCell 9 = .ok (.i2l, 1) := by decide +kernel
theorem dX11_isCell_10 : decode cX11_isCell 10 = .ok (.invokestatic 84, 3) := by decide +kernel
theorem dX11_isCell_13 : decode cX11_isCell 13 = .ok (.ireturn, 1) := by decide +kernel
theorem dX11_board_0 : decode cX11_board 0 = .ok (.iload_n 1, 1) := by decide +kernel
theorem dX11_board_1 : decode cX11_board 1 = .ok (.i2l, 1) := by decide +kernel
theorem dX11_board_2 : decode cX11_board 2 = .ok (.ldc2_w 104, 3) := by decide +kernel
theorem dX11_board_5 : decode cX11_board 5 = .ok (.ldc2_w 106, 3) := by decide +kernel
theorem dX11_board_8 : decode cX11_board 8 = .ok (.invokestatic 84, 3) := by decide +kernel
theorem dX11_board_11 : decode cX11_board 11 = .ok (.ifCond .eq 17, 3) := by decide +kernel
theorem dX11_board_14 : decode cX11_board 14 = .ok (.iload_n 2, 1) := by decide +kernel
theorem dX11_board_15 : decode cX11_board 15 = .ok (.i2l, 1) := by decide +kernel
theorem dX11_board_16 : decode cX11_board 16 = .ok (.ldc2_w 104, 3) := by decide +kernel
theorem dX11_board_19 : decode cX11_board 19 = .ok (.ldc2_w 106, 3) := by decide +kernel
theorem dX11_board_22 : decode cX11_board 22 = .ok (.invokestatic 84, 3) := by decide +kernel
theorem dX11_board_25 : decode cX11_board 25 = .ok (.ifCond .ne 6, 3) := by decide +kernel
theorem dX11_board_28 : decode cX11_board 28 = .ok (.bipush (-2), 2) := by decide +kernel
theorem dX11_board_30 : decode cX11_board 30 = .ok (.ireturn, 1) := by decide +kernel
theorem dX11_board_31 : decode cX11_board 31 = .ok (.aload_n 0, 1) := by decide +kernel
theorem dX11_board_32 : decode cX11_board 32 = .ok (.iload_n 1, 1) := by decide +kernel
theorem dX11_board_33 : decode cX11_board 33 = .ok (.putfield 25, 3) := by decide +kernel
theorem dX11_board_36 : decode cX11_board 36 = .ok (.aload_n 0, 1) := by decide +kernel
theorem dX11_board_37 : decode cX11_board 37 = .ok (.iload_n 2, 1) := by decide +kernel
theorem dX11_board_38 : decode cX11_board 38 = .ok (.putfield 29, 3) := by decide +kernel
theorem dX11_board_41 : decode cX11_board 41 = .ok (.aload_n 0, 1) := by decide +kernel
theorem dX11_board_42 : decode cX11_board 42 = .ok (.iconst 0, 1) := by decide +kernel
theorem dX11_board_43 : decode cX11_board 43 = .ok (.putfield 108, 3) := by decide +kernel
theorem dX11_board_46 : decode cX11_board 46 = .ok (.iconst 0, 1) := by decide +kernel
theorem dX11_board_47 : decode cX11_board 47 = .ok (.istore_n 3, 1) := by decide +kernel
theorem dX11_board_48 : decode cX11_board 48 = .ok (.iload_n 3, 1) := by decide +kernel
theorem dX11_board_49 : decode cX11_board 49 = .ok (.bipush 25, 2) := by decide +kernel
theorem dX11_board_51 : decode cX11_board 51 = .ok (.if_icmp .ge 23, 3) := by decide +kernel
theorem dX11_board_54 : decode cX11_board 54 = .ok (.aload_n 0, 1) := by decide +kernel
theorem dX11_board_55 : decode cX11_board 55 = .ok (.getfield 32, 3) := by decide +kernel
theorem dX11_board_58 : decode cX11_board 58 = .ok (.iload_n 3, 1) := by decide +kernel
theorem dX11_board_59 : decode cX11_board 59 = .ok (.iconst 0, 1) := by decide +kernel
theorem dX11_board_60 : decode cX11_board 60 = .ok (.iastore, 1) := by decide +kernel
theorem dX11_board_61 : decode cX11_board 61 = .ok (.aload_n 0, 1) := by decide +kernel
theorem dX11_board_62 : decode cX11_board 62 = .ok (.getfield 35, 3) := by decide +kernel
theorem dX11_board_65 : decode cX11_board 65 = .ok (.iload_n 3, 1) := by decide +kernel
theorem dX11_board_66 : decode cX11_board 66 = .ok (.iconst 0, 1) := by decide +kernel
theorem dX11_board_67 : decode cX11_board 67 = .ok (.iastore, 1) := by decide +kernel
theorem dX11_board_68 : decode cX11_board 68 = .ok (.iinc 3 1, 3) := by decide +kernel
theorem dX11_board_71 : decode cX11_board 71 = .ok (.goto (-23), 3) := by decide +kernel
theorem dX11_board_74 : decode cX11_board 74 = .ok (.iload_n 1, 1) := by decide +kernel
theorem dX11_board_75 : decode cX11_board 75 = .ok (.iload_n 2, 1) := by decide +kernel
theorem dX11_board_76 : decode cX11_board 76 = .ok (.imul, 1) := by decide +kernel
theorem dX11_board_77 : decode cX11_board 77 = .ok (.ireturn, 1) := by decide +kernel
theorem dX11_cell_0 : decode cX11_cell 0 = .ok (.aload_n 0, 1) := by decide +kernel
theorem dX11_cell_1 : decode cX11_cell 1 = .ok (.iload_n 1, 1) := by decide +kernel
theorem dX11_cell_2 : decode cX11_cell 2 = .ok (.invokevirtual 111, 3) := by decide +kernel
theorem dX11_cell_5 : decode cX11_cell 5 = .ok (.ifCond .ne 5, 3) := by decide +kernel
theorem dX11_cell_8 : decode cX11_cell 8 = .ok (.iconst (-1), 1) := by decide +kernel
theorem dX11_cell_9 : decode cX11_cell 9 = .ok (.ireturn, 1) := by decide +kernel
theorem dX11_cell_10 : decode cX11_cell 10 = .ok (.iload_n 2, 1) := by decide +kernel
theorem dX11_cell_11 : decode cX11_cell 11 = .ok (.ifCond .ne 15, 3) := by decide +kernel
theorem dX11_cell_14 : decode cX11_cell 14 = .ok (.iload_n 3, 1) := by decide +kernel
theorem dX11_cell_15 : decode cX11_cell 15 = .ok (.i2l, 1) := by decide +kernel
theorem dX11_cell_16 : decode cX11_cell 16 = .ok (.lconst 0, 1) := by decide +kernel
theorem dX11_cell_17 : decode cX11_cell 17 = .ok (.ldc2_w 114, 3) := by decide +kernel
theorem dX11_cell_20 : decode cX11_cell 20 = .ok (.invokestatic 84, 3) := by decide +kernel
theorem dX11_cell_23 : decode cX11_cell 23 = .ok (.ifCond .ne 23, 3) := by decide +kernel
theorem dX11_cell_26 : decode cX11_cell 26 = .ok (.iload_n 2, 1) := by decide +kernel
theorem dX11_cell_27 : decode cX11_cell 27 = .ok (.iconst 1, 1) := by decide +kernel
theorem dX11_cell_28 : decode cX11_cell 28 = .ok (.if_icmp .ne 15, 3) := by decide +kernel
theorem dX11_cell_31 : decode cX11_cell 31 = .ok (.iload_n 3, 1) := by decide +kernel
theorem dX11_cell_32 : decode cX11_cell 32 = .ok (.i2l, 1) := by decide +kernel
theorem dX11_cell_33 : decode cX11_cell 33 = .ok (.lconst 0, 1) := by decide +kernel
theorem dX11_cell_34 : decode cX11_cell 34 = .ok (.ldc2_w 97, 3) := by decide +kernel
theorem dX11_cell_37 : decode cX11_cell 37 = .ok (.invokestatic 84, 3) := by decide +kernel
theorem dX11_cell_40 : decode cX11_cell 40 = .ok (.ifCond .ne 6, 3) := by decide +kernel
theorem dX11_cell_43 : decode cX11_cell 43 = .ok (.bipush (-2), 2) := by decide +kernel
theorem dX11_cell_45 : decode cX11_cell 45 = .ok (.ireturn, 1) := by decide +kernel
theorem dX11_cell_46 : decode cX11_cell 46 = .ok (.iload_n 2, 1) := by decide +kernel
theorem dX11_cell_47 : decode cX11_cell 47 = .ok (.ifCond .ne 12, 3) := by decide +kernel
theorem dX11_cell_50 : decode cX11_cell 50 = .ok (.aload_n 0, 1) := by decide +kernel
theorem dX11_cell_51 : decode cX11_cell 51 = .ok (.getfield 32, 3) := by decide +kernel
theorem dX11_cell_54 : decode cX11_cell 54 = .ok (.iload_n 1, 1) := by decide +kernel
theorem dX11_cell_55 : decode cX11_cell 55 = .ok (.iaload, 1) := by decide +kernel
theorem dX11_cell_56 : decode cX11_cell 56 = .ok (.goto 9, 3) := by decide +kernel
theorem dX11_cell_59 : decode cX11_cell 59 = .ok (.aload_n 0, 1) := by decide +kernel
theorem dX11_cell_60 : decode cX11_cell 60 = .ok (.getfield 35, 3) := by decide +kernel
theorem dX11_cell_63 : decode cX11_cell 63 = .ok (.iload_n 1, 1) := by decide +kernel
theorem dX11_cell_64 : decode cX11_cell 64 = .ok (.iaload, 1) := by decide +kernel
theorem dX11_cell_65 : decode cX11_cell 65 = .ok (.istore 4, 2) := by decide +kernel
theorem dX11_cell_67 : decode cX11_cell 67 = .ok (.aload_n 0, 1) := by decide +kernel
theorem dX11_cell_68 : decode cX11_cell 68 = .ok (.getfield 32, 3) := by decide +kernel
theorem dX11_cell_71 : decode cX11_cell 71 = .ok (.iload_n 1, 1) := by decide +kernel
theorem dX11_cell_72 : decode cX11_cell 72 = .ok (.iload_n 2, 1) := by decide +kernel
theorem dX11_cell_73 : decode cX11_cell 73 = .ok (.ifCond .ne 7, 3) := by decide +kernel
theorem dX11_cell_76 : decode cX11_cell 76 = .ok (.iload_n 3, 1) := by decide +kernel
theorem dX11_cell_77 : decode cX11_cell 77 = .ok (.goto 9, 3) := by decide +kernel
theorem dX11_cell_80 : decode cX11_cell 80 = .ok (.aload_n 0, 1) := by decide +kernel
theorem dX11_cell_81 : decode cX11_cell 81 = .ok (.getfield 32, 3) := by decide +kernel
theorem dX11_cell_84 : decode cX11_cell 84 = .ok (.iload_n 1, 1) := by decide +kernel
theorem dX11_cell_85 : decode cX11_cell 85 = .ok (.iaload, 1) := by decide +kernel
theorem dX11_cell_86 : decode cX11_cell 86 = .ok (.iastore, 1) := by decide +kernel
theorem dX11_cell_87 : decode cX11_cell 87 = .ok (.aload_n 0, 1) := by decide +kernel
theorem dX11_cell_88 : decode cX11_cell 88 = .ok (.getfield 35, 3) := by decide +kernel
theorem dX11_cell_91 : decode cX11_cell 91 = .ok (.iload_n 1, 1) := by decide +kernel
theorem dX11_cell_92 : decode cX11_cell 92 = .ok (.iload_n 2, 1) := by decide +kernel
theorem dX11_cell_93 : decode cX11_cell 93 = .ok (.iconst 1, 1) := by decide +kernel
theorem dX11_cell_94 : decode cX11_cell 94 = .ok (.if_icmp .ne 7, 3) := by decide +kernel
theorem dX11_cell_97 : decode cX11_cell 97 = .ok (.iload_n 3, 1) := by decide +kernel
theorem dX11_cell_98 : decode cX11_cell 98 = .ok (.goto 9, 3) := by decide +kernel
theorem dX11_cell_101 : decode cX11_cell 101 = .ok (.aload_n 0, 1) := by decide +kernel
theorem dX11_cell_102 : decode cX11_cell 102 = .ok (.getfield 35, 3) := by decide +kernel
theorem dX11_cell_105 : decode cX11_cell 105 = .ok (.iload_n 1, 1) := by decide +kernel
theorem dX11_cell_106 : decode cX11_cell 106 = .ok (.iaload, 1) := by decide +kernel
theorem dX11_cell_107 : decode cX11_cell 107 = .ok (.iastore, 1) := by decide +kernel
theorem dX11_cell_108 : decode cX11_cell 108 = .ok (.iload 4, 2) := by decide +kernel
theorem dX11_cell_110 : decode cX11_cell 110 = .ok (.ireturn, 1) := by decide +kernel
theorem dX11_group_0 : decode cX11_group 0 = .ok (.iload_n 1, 1) := by decide +kernel
theorem dX11_group_1 : decode cX11_group 1 = .ok (.i2l, 1) := by decide +kernel
theorem dX11_group_2 : decode cX11_group 2 = .ok (.lconst 0, 1) := by decide +kernel
theorem dX11_group_3 : decode cX11_group 3 = .ok (.ldc2_w 104, 3) := by decide +kernel
theorem dX11_group_6 : decode cX11_group 6 = .ok (.invokestatic 84, 3) := by decide +kernel
theorem dX11_group_9 : decode cX11_group 9 = .ok (.ifCond .ne 5, 3) := by decide +kernel
theorem dX11_group_12 : decode cX11_group 12 = .ok (.iconst (-1), 1) := by decide +kernel
theorem dX11_group_13 : decode cX11_group 13 = .ok (.ireturn, 1) := by decide +kernel
theorem dX11_group_14 : decode cX11_group 14 = .ok (.aload_n 0, 1) := by decide +kernel
theorem dX11_group_15 : decode cX11_group 15 = .ok (.getfield 108, 3) := by decide +kernel
theorem dX11_group_18 : decode cX11_group 18 = .ok (.iload_n 1, 1) := by decide +kernel
theorem dX11_group_19 : decode cX11_group 19 = .ok (.ishr, 1) := by decide +kernel
theorem dX11_group_20 : decode cX11_group 20 = .ok (.iconst 1, 1) := by decide +kernel
theorem dX11_group_21 : decode cX11_group 21 = .ok (.iand, 1) := by decide +kernel
theorem dX11_group_22 : decode cX11_group 22 = .ok (.istore_n 3, 1) := by decide +kernel
theorem dX11_group_23 : decode cX11_group 23 = .ok (.aload_n 0, 1) := by decide +kernel
theorem dX11_group_24 : decode cX11_group 24 = .ok (.iload_n 2, 1) := by decide +kernel
theorem dX11_group_25 : decode cX11_group 25 = .ok (.ifCond .eq 14, 3) := by decide +kernel
theorem dX11_group_28 : decode cX11_group 28 = .ok (.aload_n 0, 1) := by decide +kernel
theorem dX11_group_29 : decode cX11_group 29 = .ok (.getfield 108, 3) := by decide +kernel
theorem dX11_group_32 : decode cX11_group 32 = .ok (.iconst 1, 1) := by decide +kernel
theorem dX11_group_33 : decode cX11_group 33 = .ok (.iload_n 1, 1) := by decide +kernel
theorem dX11_group_34 : decode cX11_group 34 = .ok (.ishl, 1) := by decide +kernel
theorem dX11_group_35 : decode cX11_group 35 = .ok (.ior, 1) := by decide +kernel
theorem dX11_group_36 : decode cX11_group 36 = .ok (.goto 13, 3) := by decide +kernel
theorem dX11_group_39 : decode cX11_group 39 = .ok (.aload_n 0, 1) := by decide +kernel
theorem dX11_group_40 : decode cX11_group 40 = .ok (.getfield 108, 3) := by decide +kernel
theorem dX11_group_43 : decode cX11_group 43 = .ok (.iconst 1, 1) := by decide +kernel
theorem dX11_group_44 : decode cX11_group 44 = .ok (.iload_n 1, 1) := by decide +kernel
theorem dX11_group_45 : decode cX11_group 45 = .ok (.ishl, 1) := by decide +kernel
theorem dX11_group_46 : decode cX11_group 46 = .ok (.iconst (-1), 1) := by decide +kernel
theorem dX11_group_47 : decode cX11_group 47 = .ok (.ixor, 1) := by decide +kernel
theorem dX11_group_48 : decode cX11_group 48 = .ok (.iand, 1) := by decide +kernel
theorem dX11_group_49 : decode cX11_group 49 = .ok (.putfield 108, 3) := by decide +kernel
theorem dX11_group_52 : decode cX11_group 52 = .ok (.iload_n 3, 1) := by decide +kernel
theorem dX11_group_53 : decode cX11_group 53 = .ok (.ireturn, 1) := by decide +kernel
theorem dX11_isOpen_0 : decode cX11_isOpen 0 = .ok (.aload_n 0, 1) := by decide +kernel
theorem dX11_isOpen_1 : decode cX11_isOpen 1 = .ok (.getfield 32, 3) := by decide +kernel
theorem dX11_isOpen_4 : decode cX11_isOpen 4 = .ok (.iload_n 1, 1) := by decide +kernel
theorem dX11_isOpen_5 : decode cX11_isOpen 5 = .ok (.iaload, 1) := by decide +kernel
theorem dX11_isOpen_6 : decode cX11_isOpen 6 = .ok (.iconst 1, 1) := by decide +kernel
theorem dX11_isOpen_7 : decode cX11_isOpen 7 = .ok (.if_icmp .eq 35, 3) := by decide +kernel
theorem dX11_isOpen_10 : decode cX11_isOpen 10 = .ok (.aload_n 0, 1) := by decide +kernel
theorem dX11_isOpen_11 : decode cX11_isOpen 11 = .ok (.getfield 32, 3) := by decide +kernel
theorem dX11_isOpen_14 : decode cX11_isOpen 14 = .ok (.iload_n 1, 1) := by decide +kernel
theorem dX11_isOpen_15 : decode cX11_isOpen 15 = .ok (.iaload, 1) := by decide +kernel
theorem dX11_isOpen_16 : decode cX11_isOpen 16 = .ok (.bipush 6, 2) := by decide +kernel
theorem dX11_isOpen_18 : decode cX11_isOpen 18 = .ok (.if_icmp .lt 20, 3) := by decide +kernel
theorem dX11_isOpen_21 : decode cX11_isOpen 21 = .ok (.iload_n 2, 1) := by decide +kernel
theorem dX11_isOpen_22 : decode cX11_isOpen 22 = .ok (.aload_n 0, 1) := by decide +kernel
theorem dX11_isOpen_23 : decode cX11_isOpen 23 = .ok (.getfield 32, 3) := by decide +kernel
theorem dX11_isOpen_26 : decode cX11_isOpen 26 = .ok (.iload_n 1, 1) := by decide +kernel
theorem dX11_isOpen_27 : decode cX11_isOpen 27 = .ok (.iaload, 1) := by decide +kernel
theorem dX11_isOpen_28 : decode cX11_isOpen 28 = .ok (.bipush 6, 2) := by decide +kernel
theorem dX11_isOpen_30 : decode cX11_isOpen 30 = .ok (.isub, 1) := by decide +kernel
theorem dX11_isOpen_31 : decode cX11_isOpen 31 = .ok (.ishr, 1) := by decide +kernel
theorem dX11_isOpen_32 : decode cX11_isOpen 32 = .ok (.iconst 1, 1) := by decide +kernel
theorem dX11_isOpen_33 : decode cX11_isOpen 33 = .ok (.iand, 1) := by decide +kernel
theorem dX11_isOpen_34 : decode cX11_isOpen 34 = .ok (.iconst 1, 1) := by decide +kernel
theorem dX11_isOpen_35 : decode cX11_isOpen 35 = .ok (.if_icmp .ne 7, 3) := by decide +kernel
theorem dX11_isOpen_38 : decode cX11_isOpen 38 = .ok (.iconst 1, 1) := by decide +kernel
theorem dX11_isOpen_39 : decode cX11_isOpen 39 = .ok (.goto 4, 3) := by decide +kernel
theorem dX11_isOpen_42 : decode cX11_isOpen 42 = .ok (.iconst 0, 1) := by decide +kernel
theorem dX11_isOpen_43 : decode cX11_isOpen 43 = .ok (.ireturn, 1) := by decide +kernel
theorem dX11_open_0 : decode cX11_open 0 = .ok (.aload_n 0, 1) := by decide +kernel
theorem dX11_open_1 : decode cX11_open 1 = .ok (.iload_n 1, 1) := by decide +kernel
theorem dX11_open_2 : decode cX11_open 2 = .ok (.invokevirtual 111, 3) := by decide +kernel
theorem dX11_open_5 : decode cX11_open 5 = .ok (.ifCond .ne 7, 3) := by decide +kernel
theorem dX11_open_8 : decode cX11_open 8 = .ok (.iconst (-1), 1) := by decide +kernel
theorem dX11_open_9 : decode cX11_open 9 = .ok (.goto 20, 3) := by decide +kernel
theorem dX11_open_12 : decode cX11_open 12 = .ok (.aload_n 0, 1) := by decide +kernel
theorem dX11_open_13 : decode cX11_open 13 = .ok (.iload_n 1, 1) := by decide +kernel
theorem dX11_open_14 : decode cX11_open 14 = .ok (.aload_n 0, 1) := by decide +kernel
theorem dX11_open_15 : decode cX11_open 15 = .ok (.getfield 108, 3) := by decide +kernel
theorem dX11_open_18 : decode cX11_open 18 = .ok (.invokevirtual 116, 3) := by decide +kernel
theorem dX11_open_21 : decode cX11_open 21 = .ok (.ifCond .eq 7, 3) := by decide +kernel
theorem dX11_open_24 : decode cX11_open 24 = .ok (.iconst 1, 1) := by decide +kernel
theorem dX11_open_25 : decode cX11_open 25 = .ok (.goto 4, 3) := by decide +kernel
theorem dX11_open_28 : decode cX11_open 28 = .ok (.iconst 0, 1) := by decide +kernel
theorem dX11_open_29 : decode cX11_open 29 = .ok (.ireturn, 1) := by decide +kernel
theorem dX11_beside_0 : decode cX11_beside 0 = .ok (.iload_n 1, 1) := by decide +kernel
theorem dX11_beside_1 : decode cX11_beside 1 = .ok (.aload_n 0, 1) := by decide +kernel
theorem dX11_beside_2 : decode cX11_beside 2 = .ok (.getfield 25, 3) := by decide +kernel
theorem dX11_beside_5 : decode cX11_beside 5 = .ok (.irem, 1) := by decide +kernel
theorem dX11_beside_6 : decode cX11_beside 6 = .ok (.iload_n 2, 1) := by decide +kernel
theorem dX11_beside_7 : decode cX11_beside 7 = .ok (.ifCond .ne 7, 3) := by decide +kernel
theorem dX11_beside_10 : decode cX11_beside 10 = .ok (.iconst 1, 1) := by decide +kernel
theorem dX11_beside_11 : decode cX11_beside 11 = .ok (.goto 13, 3) := by decide +kernel
theorem dX11_beside_14 : decode cX11_beside 14 = .ok (.iload_n 2, 1) := by decide +kernel
theorem dX11_beside_15 : decode cX11_beside 15 = .ok (.iconst 2, 1) := by decide +kernel
theorem dX11_beside_16 : decode cX11_beside 16 = .ok (.if_icmp .ne 7, 3) := by decide +kernel
theorem dX11_beside_19 : decode cX11_beside 19 = .ok (.iconst (-1), 1) := by decide +kernel
theorem dX11_beside_20 : decode cX11_beside 20 = .ok (.goto 4, 3) := by decide +kernel
theorem dX11_beside_23 : decode cX11_beside 23 = .ok (.iconst 0, 1) := by decide +kernel
theorem dX11_beside_24 : decode cX11_beside 24 = .ok (.iadd, 1) := by decide +kernel
theorem dX11_beside_25 : decode cX11_beside 25 = .ok (.istore_n 3, 1) := by decide +kernel
theorem dX11_beside_26 : decode cX11_beside 26 = .ok (.iload_n 1, 1) := by decide +kernel
theorem dX11_beside_27 : decode cX11_beside 27 = .ok (.aload_n 0, 1) := by decide +kernel
theorem dX11_beside_28 : decode cX11_beside 28 = .ok (.getfield 25, 3) := by decide +kernel
theorem dX11_beside_31 : decode cX11_beside 31 = .ok (.idiv, 1) := by decide +kernel
theorem dX11_beside_32 : decode cX11_beside 32 = .ok (.iload_n 2, 1) := by decide +kernel
theorem dX11_beside_33 : decode cX11_beside 33 = .ok (.iconst 1, 1) := by decide +kernel
theorem dX11_beside_34 : decode cX11_beside 34 = .ok (.if_icmp .ne 7, 3) := by decide +kernel
theorem dX11_beside_37 : decode cX11_beside 37 = .ok (.iconst 1, 1) := by decide +kernel
theorem dX11_beside_38 : decode cX11_beside 38 = .ok (.goto 13, 3) := by decide +kernel
theorem dX11_beside_41 : decode cX11_beside 41 = .ok (.iload_n 2, 1) := by decide +kernel
theorem dX11_beside_42 : decode cX11_beside 42 = .ok (.iconst 3, 1) := by decide +kernel
theorem dX11_beside_43 : decode cX11_beside 43 = .ok (.if_icmp .ne 7, 3) := by decide +kernel
theorem dX11_beside_46 : decode cX11_beside 46 = .ok (.iconst (-1), 1) := by decide +kernel
theorem dX11_beside_47 : decode cX11_beside 47 = .ok (.goto 4, 3) := by decide +kernel
theorem dX11_beside_50 : decode cX11_beside 50 = .ok (.iconst 0, 1) := by decide +kernel
theorem dX11_beside_51 : decode cX11_beside 51 = .ok (.iadd, 1) := by decide +kernel
theorem dX11_beside_52 : decode cX11_beside 52 = .ok (.istore 4, 2) := by decide +kernel
theorem dX11_beside_54 : decode cX11_beside 54 = .ok (.iload_n 3, 1) := by decide +kernel
theorem dX11_beside_55 : decode cX11_beside 55 = .ok (.i2l, 1) := by decide +kernel
theorem dX11_beside_56 : decode cX11_beside 56 = .ok (.lconst 0, 1) := by decide +kernel
theorem dX11_beside_57 : decode cX11_beside 57 = .ok (.aload_n 0, 1) := by decide +kernel
theorem dX11_beside_58 : decode cX11_beside 58 = .ok (.getfield 25, 3) := by decide +kernel
theorem dX11_beside_61 : decode cX11_beside 61 = .ok (.iconst 1, 1) := by decide +kernel
theorem dX11_beside_62 : decode cX11_beside 62 = .ok (.isub, 1) := by decide +kernel
theorem dX11_beside_63 : decode cX11_beside 63 = .ok (.i2l, 1) := by decide +kernel
theorem dX11_beside_64 : decode cX11_beside 64 = .ok (.invokestatic 84, 3) := by decide +kernel
theorem dX11_beside_67 : decode cX11_beside 67 = .ok (.ifCond .eq 32, 3) := by decide +kernel
theorem dX11_beside_70 : decode cX11_beside 70 = .ok (.iload 4, 2) := by decide +kernel
theorem dX11_beside_72 : decode cX11_beside 72 = .ok (.i2l, 1) := by decide +kernel
theorem dX11_beside_73 : decode cX11_beside 73 = .ok (.lconst 0, 1) := by decide +kernel
theorem dX11_beside_74 : decode cX11_beside 74 = .ok (.aload_n 0, 1) := by decide +kernel
theorem dX11_beside_75 : decode cX11_beside 75 = .ok (.getfield 29, 3) := by decide +kernel
theorem dX11_beside_78 : decode cX11_beside 78 = .ok (.iconst 1, 1) := by decide +kernel
theorem dX11_beside_79 : decode cX11_beside 79 = .ok (.isub, 1) := by decide +kernel
theorem dX11_beside_80 : decode cX11_beside 80 = .ok (.i2l, 1) := by decide +kernel
theorem dX11_beside_81 : decode cX11_beside 81 = .ok (.invokestatic 84, 3) := by decide +kernel
theorem dX11_beside_84 : decode cX11_beside 84 = .ok (.ifCond .eq 15, 3) := by decide +kernel
theorem dX11_beside_87 : decode cX11_beside 87 = .ok (.iload 4, 2) := by decide +kernel
theorem dX11_beside_89 : decode cX11_beside 89 = .ok (.aload_n 0, 1) := by decide +kernel
theorem dX11_beside_90 : decode cX11_beside 90 = .ok (.getfield 25, 3) := by decide +kernel
theorem dX11_beside_93 : decode cX11_beside 93 = .ok (.imul, 1) := by decide +kernel
theorem dX11_beside_94 : decode cX11_beside 94 = .ok (.iload_n 3, 1) := by decide +kernel
theorem dX11_beside_95 : decode cX11_beside 95 = .ok (.iadd, 1) := by decide +kernel
theorem dX11_beside_96 : decode cX11_beside 96 = .ok (.goto 5, 3) := by decide +kernel
theorem dX11_beside_99 : decode cX11_beside 99 = .ok (.bipush (-9), 2) := by decide +kernel
theorem dX11_beside_101 : decode cX11_beside 101 = .ok (.ireturn, 1) := by decide +kernel
theorem dX11_rollOf_0 : decode cX11_rollOf 0 = .ok (.aload_n 0, 1) := by decide +kernel
theorem dX11_rollOf_1 : decode cX11_rollOf 1 = .ok (.iload_n 1, 1) := by decide +kernel
theorem dX11_rollOf_2 : decode cX11_rollOf 2 = .ok (.bipush 24, 2) := by decide +kernel
theorem dX11_rollOf_4 : decode cX11_rollOf 4 = .ok (.idiv, 1) := by decide +kernel
theorem dX11_rollOf_5 : decode cX11_rollOf 5 = .ok (.iload_n 2, 1) := by decide +kernel
theorem dX11_rollOf_6 : decode cX11_rollOf 6 = .ok (.invokevirtual 120, 3) := by decide +kernel
theorem dX11_rollOf_9 : decode cX11_rollOf 9 = .ok (.istore_n 3, 1) := by decide +kernel
theorem dX11_rollOf_10 : decode cX11_rollOf 10 = .ok (.iload_n 3, 1) := by decide +kernel
theorem dX11_rollOf_11 : decode cX11_rollOf 11 = .ok (.bipush (-9), 2) := by decide +kernel
theorem dX11_rollOf_13 : decode cX11_rollOf 13 = .ok (.if_icmp .eq 15, 3) := by decide +kernel
theorem dX11_rollOf_16 : decode cX11_rollOf 16 = .ok (.aload_n 0, 1) := by decide +kernel
theorem dX11_rollOf_17 : decode cX11_rollOf 17 = .ok (.iload_n 3, 1) := by decide +kernel
theorem dX11_rollOf_18 : decode cX11_rollOf 18 = .ok (.aload_n 0, 1) := by decide +kernel
theorem dX11_rollOf_19 : decode cX11_rollOf 19 = .ok (.getfield 108, 3) := by decide +kernel
theorem dX11_rollOf_22 : decode cX11_rollOf 22 = .ok (.invokevirtual 116, 3) := by decide +kernel
theorem dX11_rollOf_25 : decode cX11_rollOf 25 = .ok (.ifCond .ne 6, 3) := by decide +kernel
theorem dX11_rollOf_28 : decode cX11_rollOf 28 = .ok (.bipush (-9), 2) := by decide +kernel
theorem dX11_rollOf_30 : decode cX11_rollOf 30 = .ok (.ireturn, 1) := by decide +kernel
theorem dX11_rollOf_31 : decode cX11_rollOf 31 = .ok (.aload_n 0, 1) := by decide +kernel
theorem dX11_rollOf_32 : decode cX11_rollOf 32 = .ok (.getfield 19, 3) := by decide +kernel
theorem dX11_rollOf_35 : decode cX11_rollOf 35 = .ok (.iconst 4, 1) := by decide +kernel
theorem dX11_rollOf_36 : decode cX11_rollOf 36 = .ok (.iload_n 1, 1) := by decide +kernel
theorem dX11_rollOf_37 : decode cX11_rollOf 37 = .ok (.bipush 24, 2) := by decide +kernel
theorem dX11_rollOf_39 : decode cX11_rollOf 39 = .ok (.irem, 1) := by decide +kernel
theorem dX11_rollOf_40 : decode cX11_rollOf 40 = .ok (.imul, 1) := by decide +kernel
theorem dX11_rollOf_41 : decode cX11_rollOf 41 = .ok (.iload_n 2, 1) := by decide +kernel
theorem dX11_rollOf_42 : decode cX11_rollOf 42 = .ok (.iadd, 1) := by decide +kernel
theorem dX11_rollOf_43 : decode cX11_rollOf 43 = .ok (.iaload, 1) := by decide +kernel
theorem dX11_rollOf_44 : decode cX11_rollOf 44 = .ok (.istore 4, 2) := by decide +kernel
theorem dX11_rollOf_46 : decode cX11_rollOf 46 = .ok (.aload_n 0, 1) := by decide +kernel
theorem dX11_rollOf_47 : decode cX11_rollOf 47 = .ok (.getfield 35, 3) := by decide +kernel
theorem dX11_rollOf_50 : decode cX11_rollOf 50 = .ok (.iload_n 3, 1) := by decide +kernel
theorem dX11_rollOf_51 : decode cX11_rollOf 51 = .ok (.iaload, 1) := by decide +kernel
theorem dX11_rollOf_52 : decode cX11_rollOf 52 = .ok (.ifCond .eq 19, 3) := by decide +kernel
theorem dX11_rollOf_55 : decode cX11_rollOf 55 = .ok (.aload_n 0, 1) := by decide +kernel
theorem dX11_rollOf_56 : decode cX11_rollOf 56 = .ok (.getfield 35, 3) := by decide +kernel
theorem dX11_rollOf_59 : decode cX11_rollOf 59 = .ok (.iload_n 3, 1) := by decide +kernel
theorem dX11_rollOf_60 : decode cX11_rollOf 60 = .ok (.iaload, 1) := by decide +kernel
theorem dX11_rollOf_61 : decode cX11_rollOf 61 = .ok (.aload_n 0, 1) := by decide +kernel
theorem dX11_rollOf_62 : decode cX11_rollOf 62 = .ok (.getfield 7, 3) := by decide +kernel
theorem dX11_rollOf_65 : decode cX11_rollOf 65 = .ok (.iload 4, 2) := by decide +kernel
theorem dX11_rollOf_67 : decode cX11_rollOf 67 = .ok (.iaload, 1) := by decide +kernel
theorem dX11_rollOf_68 : decode cX11_rollOf 68 = .ok (.if_icmp .ne 13, 3) := by decide +kernel
theorem dX11_rollOf_71 : decode cX11_rollOf 71 = .ok (.bipush 24, 2) := by decide +kernel
theorem dX11_rollOf_73 : decode cX11_rollOf 73 = .ok (.iload_n 3, 1) := by decide +kernel
theorem dX11_rollOf_74 : decode cX11_rollOf 74 = .ok (.imul, 1) := by decide +kernel
theorem dX11_rollOf_75 : decode cX11_rollOf 75 = .ok (.iload 4, 2) := by decide +kernel
theorem dX11_rollOf_77 : decode cX11_rollOf 77 = .ok (.iadd, 1) := by decide +kernel
theorem dX11_rollOf_78 : decode cX11_rollOf 78 = .ok (.goto 5, 3) := by decide +kernel
theorem dX11_rollOf_81 : decode cX11_rollOf 81 = .ok (.bipush (-9), 2) := by decide +kernel
theorem dX11_rollOf_83 : decode cX11_rollOf 83 = .ok (.ireturn, 1) := by decide +kernel
theorem dX11_roll_0 : decode cX11_roll 0 = .ok (.aload_n 0, 1) := by decide +kernel
theorem dX11_roll_1 : decode cX11_roll 1 = .ok (.iload_n 1, 1) := by decide +kernel
theorem dX11_roll_2 : decode cX11_roll 2 = .ok (.invokevirtual 111, 3) := by decide +kernel
theorem dX11_roll_5 : decode cX11_roll 5 = .ok (.ifCond .eq 10, 3) := by decide +kernel
theorem dX11_roll_8 : decode cX11_roll 8 = .ok (.iload_n 2, 1) := by decide +kernel
theorem dX11_roll_9 : decode cX11_roll 9 = .ok (.invokestatic 90, 3) := by decide +kernel
theorem dX11_roll_12 : decode cX11_roll 12 = .ok (.ifCond .ne 5, 3) := by decide +kernel
theorem dX11_roll_15 : decode cX11_roll 15 = .ok (.iconst (-1), 1) := by decide +kernel
theorem dX11_roll_16 : decode cX11_roll 16 = .ok (.ireturn, 1) := by decide +kernel
theorem dX11_roll_17 : decode cX11_roll 17 = .ok (.iload_n 3, 1) := by decide +kernel
theorem dX11_roll_18 : decode cX11_roll 18 = .ok (.invokestatic 94, 3) := by decide +kernel
theorem dX11_roll_21 : decode cX11_roll 21 = .ok (.ifCond .eq 17, 3) := by decide +kernel
theorem dX11_roll_24 : decode cX11_roll 24 = .ok (.aload_n 0, 1) := by decide +kernel
theorem dX11_roll_25 : decode cX11_roll 25 = .ok (.bipush 24, 2) := by decide +kernel
theorem dX11_roll_27 : decode cX11_roll 27 = .ok (.iload_n 1, 1) := by decide +kernel
theorem dX11_roll_28 : decode cX11_roll 28 = .ok (.imul, 1) := by decide +kernel
theorem dX11_roll_29 : decode cX11_roll 29 = .ok (.iload_n 2, 1) := by decide +kernel
theorem dX11_roll_30 : decode cX11_roll 30 = .ok (.iadd, 1) := by decide +kernel
theorem dX11_roll_31 : decode cX11_roll 31 = .ok (.iload_n 3, 1) := by decide +kernel
theorem dX11_roll_32 : decode cX11_roll 32 = .ok (.invokevirtual 123, 3) := by decide +kernel
theorem dX11_roll_35 : decode cX11_roll 35 = .ok (.goto 5, 3) := by decide +kernel
theorem dX11_roll_38 : decode cX11_roll 38 = .ok (.bipush (-2), 2) := by decide +kernel
theorem dX11_roll_40 : decode cX11_roll 40 = .ok (.ireturn, 1) := by decide +kernel
theorem dX11_isWant_0 : decode cX11_isWant 0 = .ok (.iload_n 0, 1) := by decide +kernel
theorem dX11_isWant_1 : decode cX11_isWant 1 = .ok (.i2l, 1) := by decide +kernel
theorem dX11_isWant_2 : decode cX11_isWant 2 = .ok (.lconst 0, 1) := by decide +kernel
theorem dX11_isWant_3 : decode cX11_isWant 3 = .ok (.ldc2_w 97, 3) := by decide +kernel
theorem dX11_isWant_6 : decode cX11_isWant 6 = .ok (.invokestatic 84, 3) := by decide +kernel
theorem dX11_isWant_9 : decode cX11_isWant 9 = .ok (.ifCond .ne 17, 3) := by decide +kernel
theorem dX11_isWant_12 : decode cX11_isWant 12 = .ok (.iload_n 0, 1) := by decide +kernel
theorem dX11_isWant_13 : decode cX11_isWant 13 = .ok (.i2l, 1) := by decide +kernel
theorem dX11_isWant_14 : decode cX11_isWant 14 = .ok (.ldc2_w 126, 3) := by decide +kernel
theorem dX11_isWant_17 : decode cX11_isWant 17 = .ok (.ldc2_w 128, 3) := by decide +kernel
theorem dX11_isWant_20 : decode cX11_isWant 20 = .ok (.invokestatic 84, 3) := by decide +kernel
theorem dX11_isWant_23 : decode cX11_isWant 23 = .ok (.ifCond .eq 7, 3) := by decide +kernel
theorem dX11_isWant_26 : decode cX11_isWant 26 = .ok (.iconst 1, 1) := by decide +kernel
theorem dX11_isWant_27 : decode cX11_isWant 27 = .ok (.goto 4, 3) := by decide +kernel
theorem dX11_isWant_30 : decode cX11_isWant 30 = .ok (.iconst 0, 1) := by decide +kernel
theorem dX11_isWant_31 : decode cX11_isWant 31 = .ok (.ireturn, 1) := by decide +kernel
theorem dX11_isGoal_0 : decode cX11_isGoal 0 = .ok (.iload_n 3, 1) := by decide +kernel
theorem dX11_isGoal_1 : decode cX11_isGoal 1 = .ok (.ifCond .eq 39, 3) := by decide +kernel
theorem dX11_isGoal_4 : decode cX11_isGoal 4 = .ok (.iload_n 3, 1) := by decide +kernel
theorem dX11_isGoal_5 : decode cX11_isGoal 5 = .ok (.bipush 7, 2) := by decide +kernel
theorem dX11_isGoal_7 : decode cX11_isGoal 7 = .ok (.if_icmp .ge 16, 3) := by decide +kernel
theorem dX11_isGoal_10 : decode cX11_isGoal 10 = .ok (.aload_n 0, 1) := by decide +kernel
theorem dX11_isGoal_11 : decode cX11_isGoal 11 = .ok (.getfield 7, 3) := by decide +kernel
theorem dX11_isGoal_14 : decode cX11_isGoal 14 = .ok (.iload_n 1, 1) := by decide +kernel
theorem dX11_isGoal_15 : decode cX11_isGoal 15 = .ok (.bipush 24, 2) := by decide +kernel
theorem dX11_isGoal_17 : decode cX11_isGoal 17 = .ok (.irem, 1) := by decide +kernel
theorem dX11_isGoal_18 : decode cX11_isGoal 18 = .ok (.iaload, 1) := by decide +kernel
theorem dX11_isGoal_19 : decode cX11_isGoal 19 = .ok (.iload_n 3, 1) := by decide +kernel
theorem dX11_isGoal_20 : decode cX11_isGoal 20 = .ok (.if_icmp .eq 20, 3) := by decide +kernel
theorem dX11_isGoal_23 : decode cX11_isGoal 23 = .ok (.iload_n 3, 1) := by decide +kernel
theorem dX11_isGoal_24 : decode cX11_isGoal 24 = .ok (.bipush 9, 2) := by decide +kernel
theorem dX11_isGoal_26 : decode cX11_isGoal 26 = .ok (.if_icmp .le 18, 3) := by decide +kernel
theorem dX11_isGoal_29 : decode cX11_isGoal 29 = .ok (.iload_n 1, 1) := by decide +kernel
theorem dX11_isGoal_30 : decode cX11_isGoal 30 = .ok (.bipush 24, 2) := by decide +kernel
theorem dX11_isGoal_32 : decode cX11_isGoal 32 = .ok (.irem, 1) := by decide +kernel
theorem dX11_isGoal_33 : decode cX11_isGoal 33 = .ok (.iload_n 3, 1) := by decide +kernel
theorem dX11_isGoal_34 : decode cX11_isGoal 34 = .ok (.bipush 10, 2) := by decide +kernel
theorem dX11_isGoal_36 : decode cX11_isGoal 36 = .ok (.isub, 1) := by decide +kernel
theorem dX11_isGoal_37 : decode cX11_isGoal 37 = .ok (.if_icmp .ne 7, 3) := by decide +kernel
theorem dX11_isGoal_40 : decode cX11_isGoal 40 = .ok (.iconst 1, 1) := by decide +kernel
theorem dX11_isGoal_41 : decode cX11_isGoal 41 = .ok (.goto 4, 3) := by decide +kernel
theorem dX11_isGoal_44 : decode cX11_isGoal 44 = .ok (.iconst 0, 1) := by decide +kernel
theorem dX11_isGoal_45 : decode cX11_isGoal 45 = .ok (.istore 4, 2) := by decide +kernel
theorem dX11_isGoal_47 : decode cX11_isGoal 47 = .ok (.iload_n 1, 1) := by decide +kernel
theorem dX11_isGoal_48 : decode cX11_isGoal 48 = .ok (.bipush 24, 2) := by decide +kernel
theorem dX11_isGoal_50 : decode cX11_isGoal 50 = .ok (.idiv, 1) := by decide +kernel
theorem dX11_isGoal_51 : decode cX11_isGoal 51 = .ok (.iload_n 2, 1) := by decide +kernel
theorem dX11_isGoal_52 : decode cX11_isGoal 52 = .ok (.if_icmp .ne 12, 3) := by decide +kernel
theorem dX11_isGoal_55 : decode cX11_isGoal 55 = .ok (.iload 4, 2) := by decide +kernel
theorem dX11_isGoal_57 : decode cX11_isGoal 57 = .ok (.ifCond .eq 7, 3) := by decide +kernel
theorem dX11_isGoal_60 : decode cX11_isGoal 60 = .ok (.iconst 1, 1) := by decide +kernel
theorem dX11_isGoal_61 : decode cX11_isGoal 61 = .ok (.goto 4, 3) := by decide +kernel
theorem dX11_isGoal_64 : decode cX11_isGoal 64 = .ok (.iconst 0, 1) := by decide +kernel
theorem dX11_isGoal_65 : decode cX11_isGoal 65 = .ok (.ireturn, 1) := by decide +kernel
theorem dX11_mayGo_0 : decode cX11_mayGo 0 = .ok (.aload_n 0, 1) := by decide +kernel
theorem dX11_mayGo_1 : decode cX11_mayGo 1 = .ok (.iload_n 1, 1) := by decide +kernel
theorem dX11_mayGo_2 : decode cX11_mayGo 2 = .ok (.invokevirtual 111, 3) := by decide +kernel
theorem dX11_mayGo_5 : decode cX11_mayGo 5 = .ok (.ifCond .eq 18, 3) := by decide +kernel
theorem dX11_mayGo_8 : decode cX11_mayGo 8 = .ok (.iload_n 2, 1) := by decide +kernel
theorem dX11_mayGo_9 : decode cX11_mayGo 9 = .ok (.invokestatic 90, 3) := by decide +kernel
theorem dX11_mayGo_12 : decode cX11_mayGo 12 = .ok (.ifCond .eq 11, 3) := by decide +kernel
theorem dX11_mayGo_15 : decode cX11_mayGo 15 = .ok (.aload_n 0, 1) := by decide +kernel
theorem dX11_mayGo_16 : decode cX11_mayGo 16 = .ok (.iload_n 3, 1) := by decide +kernel
theorem dX11_mayGo_17 : decode cX11_mayGo 17 = .ok (.invokevirtual 111, 3) := by decide +kernel
theorem dX11_mayGo_20 : decode cX11_mayGo 20 = .ok (.ifCond .ne 5, 3) := by decide +kernel
theorem dX11_mayGo_23 : decode cX11_mayGo 23 = .ok (.iconst (-1), 1) := by decide +kernel
theorem dX11_mayGo_24 : decode cX11_mayGo 24 = .ok (.ireturn, 1) := by decide +kernel
theorem dX11_mayGo_25 : decode cX11_mayGo 25 = .ok (.iload 4, 2) := by decide +kernel
theorem dX11_mayGo_27 : decode cX11_mayGo 27 = .ok (.invokestatic 130, 3) := by decide +kernel
theorem dX11_mayGo_30 : decode cX11_mayGo 30 = .ok (.ifCond .eq 7, 3) := by decide +kernel
theorem dX11_mayGo_33 : decode cX11_mayGo 33 = .ok (.iconst 0, 1) := by decide +kernel
theorem dX11_mayGo_34 : decode cX11_mayGo 34 = .ok (.goto 5, 3) := by decide +kernel
theorem dX11_mayGo_37 : decode cX11_mayGo 37 = .ok (.bipush (-2), 2) := by decide +kernel
theorem dX11_mayGo_39 : decode cX11_mayGo 39 = .ok (.ireturn, 1) := by decide +kernel
theorem dX11_layFrom_0 : decode cX11_layFrom 0 = .ok (.bipush 24, 2) := by decide +kernel
theorem dX11_layFrom_2 : decode cX11_layFrom 2 = .ok (.aload_n 0, 1) := by decide +kernel
theorem dX11_layFrom_3 : decode cX11_layFrom 3 = .ok (.invokevirtual 100, 3) := by decide +kernel
theorem dX11_layFrom_6 : decode cX11_layFrom 6 = .ok (.imul, 1) := by decide +kernel
theorem dX11_layFrom_7 : decode cX11_layFrom 7 = .ok (.istore_n 2, 1) := by decide +kernel
theorem dX11_layFrom_8 : decode cX11_layFrom 8 = .ok (.iconst 0, 1) := by decide +kernel
theorem dX11_layFrom_9 : decode cX11_layFrom 9 = .ok (.istore_n 3, 1) := by decide +kernel
theorem dX11_layFrom_10 : decode cX11_layFrom 10 = .ok (.iload_n 3, 1) := by decide +kernel
theorem dX11_layFrom_11 : decode cX11_layFrom 11 = .ok (.iload_n 2, 1) := by decide +kernel
theorem dX11_layFrom_12 : decode cX11_layFrom 12 = .ok (.if_icmp .ge 24, 3) := by decide +kernel
theorem dX11_layFrom_15 : decode cX11_layFrom 15 = .ok (.aload_n 0, 1) := by decide +kernel
theorem dX11_layFrom_16 : decode cX11_layFrom 16 = .ok (.getfield 38, 3) := by decide +kernel
theorem dX11_layFrom_19 : decode cX11_layFrom 19 = .ok (.iload_n 3, 1) := by decide +kernel
theorem dX11_layFrom_20 : decode cX11_layFrom 20 = .ok (.ldc 99, 2) := by decide +kernel
theorem dX11_layFrom_22 : decode cX11_layFrom 22 = .ok (.iastore, 1) := by decide +kernel
theorem dX11_layFrom_23 : decode cX11_layFrom 23 = .ok (.aload_n 0, 1) := by decide +kernel
theorem dX11_layFrom_24 : decode cX11_layFrom 24 = .ok (.getfield 41, 3) := by decide +kernel
theorem dX11_layFrom_27 : decode cX11_layFrom 27 = .ok (.iload_n 3, 1) := by decide +kernel
theorem dX11_layFrom_28 : decode cX11_layFrom 28 = .ok (.lconst 0, 1) := by decide +kernel
theorem dX11_layFrom_29 : decode cX11_layFrom 29 = .ok (.lastore, 1) := by decide +kernel
theorem dX11_layFrom_30 : decode cX11_layFrom 30 = .ok (.iinc 3 1, 3) := by decide +kernel
theorem dX11_layFrom_33 : decode cX11_layFrom 33 = .ok (.goto (-23), 3) := by decide +kernel
theorem dX11_layFrom_36 : decode cX11_layFrom 36 = .ok (.aload_n 0, 1) := by decide +kernel
theorem dX11_layFrom_37 : decode cX11_layFrom 37 = .ok (.getfield 38, 3) := by decide +kernel
theorem dX11_layFrom_40 : decode cX11_layFrom 40 = .ok (.iload_n 1, 1) := by decide +kernel
theorem dX11_layFrom_41 : decode cX11_layFrom 41 = .ok (.iconst 0, 1) := by decide +kernel
theorem dX11_layFrom_42 : decode cX11_layFrom 42 = .ok (.iastore, 1) := by decide +kernel
theorem dX11_layFrom_43 : decode cX11_layFrom 43 = .ok (.aload_n 0, 1) := by decide +kernel
theorem dX11_layFrom_44 : decode cX11_layFrom 44 = .ok (.getfield 41, 3) := by decide +kernel
theorem dX11_layFrom_47 : decode cX11_layFrom 47 = .ok (.iload_n 1, 1) := by decide +kernel
theorem dX11_layFrom_48 : decode cX11_layFrom 48 = .ok (.lconst 1, 1) := by decide +kernel
theorem dX11_layFrom_49 : decode cX11_layFrom 49 = .ok (.lastore, 1) := by decide +kernel
theorem dX11_layFrom_50 : decode cX11_layFrom 50 = .ok (.iconst 1, 1) := by decide +kernel
theorem dX11_layFrom_51 : decode cX11_layFrom 51 = .ok (.istore_n 3, 1) := by decide +kernel
theorem dX11_layFrom_52 : decode cX11_layFrom 52 = .ok (.iconst 0, 1) := by decide +kernel
theorem dX11_layFrom_53 : decode cX11_layFrom 53 = .ok (.istore 4, 2) := by decide +kernel
theorem dX11_layFrom_55 : decode cX11_layFrom 55 = .ok (.iload_n 3, 1) := by decide +kernel
theorem dX11_layFrom_56 : decode cX11_layFrom 56 = .ok (.ifCond .eq 112, 3) := by decide +kernel
theorem dX11_layFrom_59 : decode cX11_layFrom 59 = .ok (.iconst 0, 1) := by decide +kernel
theorem dX11_layFrom_60 : decode cX11_layFrom 60 = .ok (.istore_n 3, 1) := by decide +kernel
theorem dX11_layFrom_61 : decode cX11_layFrom 61 = .ok (.iconst 0, 1) := by decide +kernel
theorem dX11_layFrom_62 : decode cX11_layFrom 62 = .ok (.istore 5, 2) := by decide +kernel
theorem dX11_layFrom_64 : decode cX11_layFrom 64 = .ok (.iload 5, 2) := by decide +kernel
theorem dX11_layFrom_66 : decode cX11_layFrom 66 = .ok (.iconst 4, 1) := by decide +kernel
theorem dX11_layFrom_67 : decode cX11_layFrom 67 = .ok (.iload_n 2, 1) := by decide +kernel
theorem dX11_layFrom_68 : decode cX11_layFrom 68 = .ok (.imul, 1) := by decide +kernel
theorem dX11_layFrom_69 : decode cX11_layFrom 69 = .ok (.if_icmp .ge 93, 3) := by decide +kernel
theorem dX11_layFrom_72 : decode cX11_layFrom 72 = .ok (.aload_n 0, 1) := by decide +kernel
theorem dX11_layFrom_73 : decode cX11_layFrom 73 = .ok (.getfield 38, 3) := by decide +kernel
theorem dX11_layFrom_76 : decode cX11_layFrom 76 = .ok (.iload 5, 2) := by decide +kernel
theorem dX11_layFrom_78 : decode cX11_layFrom 78 = .ok (.iconst 4, 1) := by decide +kernel
theorem dX11_layFrom_79 : decode cX11_layFrom 79 = .ok (.idiv, 1) := by decide +kernel
theorem dX11_layFrom_80 : decode cX11_layFrom 80 = .ok (.iaload, 1) := by decide +kernel
theorem dX11_layFrom_81 : decode cX11_layFrom 81 = .ok (.iload 4, 2) := by decide +kernel
theorem dX11_layFrom_83 : decode cX11_layFrom 83 = .ok (.if_icmp .ne 18, 3) := by decide +kernel
theorem dX11_layFrom_86 : decode cX11_layFrom 86 = .ok (.aload_n 0, 1) := by decide +kernel
theorem dX11_layFrom_87 : decode cX11_layFrom 87 = .ok (.iload 5, 2) := by decide +kernel
theorem dX11_layFrom_89 : decode cX11_layFrom 89 = .ok (.iconst 4, 1) := by decide +kernel
theorem dX11_layFrom_90 : decode cX11_layFrom 90 = .ok (.idiv, 1) := by decide +kernel
theorem dX11_layFrom_91 : decode cX11_layFrom 91 = .ok (.iload 5, 2) := by decide +kernel
theorem dX11_layFrom_93 : decode cX11_layFrom 93 = .ok (.iconst 4, 1) := by decide +kernel
theorem dX11_layFrom_94 : decode cX11_layFrom 94 = .ok (.irem, 1) := by decide +kernel
theorem dX11_layFrom_95 : decode cX11_layFrom 95 = .ok (.invokevirtual 123, 3) := by decide +kernel
theorem dX11_layFrom_98 : decode cX11_layFrom 98 = .ok (.goto 5, 3) := by decide +kernel
theorem dX11_layFrom_101 : decode cX11_layFrom 101 = .ok (.bipush (-9), 2) := by decide +kernel
theorem dX11_layFrom_103 : decode cX11_layFrom 103 = .ok (.istore 6, 2) := by decide +kernel
theorem dX11_layFrom_105 : decode cX11_layFrom 105 = .ok (.iload 6, 2) := by decide +kernel
theorem dX11_layFrom_107 : decode cX11_layFrom 107 = .ok (.bipush (-9), 2) := by decide +kernel
theorem dX11_layFrom_109 : decode cX11_layFrom 109 = .ok (.if_icmp .eq 47, 3) := by decide +kernel
theorem dX11_layFrom_112 : decode cX11_layFrom 112 = .ok (.aload_n 0, 1) := by decide +kernel
theorem dX11_layFrom_113 : decode cX11_layFrom 113 = .ok (.getfield 38, 3) := by decide +kernel
theorem dX11_layFrom_116 : decode cX11_layFrom 116 = .ok (.iload 6, 2) := by decide +kernel
theorem dX11_layFrom_118 : decode cX11_layFrom 118 = .ok (.iaload, 1) := by decide +kernel
theorem dX11_layFrom_119 : decode cX11_layFrom 119 = .ok (.iload 4, 2) := by decide +kernel
theorem dX11_layFrom_121 : decode cX11_layFrom 121 = .ok (.if_icmp .le 35, 3) := by decide +kernel
theorem dX11_layFrom_124 : decode cX11_layFrom 124 = .ok (.aload_n 0, 1) := by decide +kernel
theorem dX11_layFrom_125 : decode cX11_layFrom 125 = .ok (.getfield 38, 3) := by decide +kernel
theorem dX11_layFrom_128 : decode cX11_layFrom 128 = .ok (.iload 6, 2) := by decide +kernel
theorem dX11_layFrom_130 : decode cX11_layFrom 130 = .ok (.iload 4, 2) := by decide +kernel
theorem dX11_layFrom_132 : decode cX11_layFrom 132 = .ok (.iconst 1, 1) := by decide +kernel
theorem dX11_layFrom_133 : decode cX11_layFrom 133 = .ok (.iadd, 1) := by decide +kernel
theorem dX11_layFrom_134 : decode cX11_layFrom 134 = .ok (.iastore, 1) := by decide +kernel
theorem dX11_layFrom_135 : decode cX11_layFrom 135 = .ok (.aload_n 0, 1) := by decide +kernel
theorem dX11_layFrom_136 : decode cX11_layFrom 136 = .ok (.getfield 41, 3) := by decide +kernel
theorem dX11_layFrom_139 : decode cX11_layFrom 139 = .ok (.iload 6, 2) := by decide +kernel
theorem dX11_layFrom_141 : decode cX11_layFrom 141 = .ok (.dup2, 1) := by decide +kernel
theorem dX11_layFrom_142 : decode cX11_layFrom 142 = .ok (.laload, 1) := by decide +kernel
theorem dX11_layFrom_143 : decode cX11_layFrom 143 = .ok (.aload_n 0, 1) := by decide +kernel
theorem dX11_layFrom_144 : decode cX11_layFrom 144 = .ok (.getfield 41, 3) := by decide +kernel
theorem dX11_layFrom_147 : decode cX11_layFrom 147 = .ok (.iload 5, 2) := by decide +kernel
theorem dX11_layFrom_149 : decode cX11_layFrom 149 = .ok (.iconst 4, 1) := by decide +kernel
theorem dX11_layFrom_150 : decode cX11_layFrom 150 = .ok (.idiv, 1) := by decide +kernel
theorem dX11_layFrom_151 : decode cX11_layFrom 151 = .ok (.laload, 1) := by decide +kernel
theorem dX11_layFrom_152 : decode cX11_layFrom 152 = .ok (.ladd, 1) := by decide +kernel
theorem dX11_layFrom_153 : decode cX11_layFrom 153 = .ok (.lastore, 1) := by decide +kernel
theorem dX11_layFrom_154 : decode cX11_layFrom 154 = .ok (.iconst 1, 1) := by decide +kernel
theorem dX11_layFrom_155 : decode cX11_layFrom 155 = .ok (.istore_n 3, 1) := by decide +kernel
theorem dX11_layFrom_156 : decode cX11_layFrom 156 = .ok (.iinc 5 1, 3) := by decide +kernel
theorem dX11_layFrom_159 : decode cX11_layFrom 159 = .ok (.goto (-95), 3) := by decide +kernel
theorem dX11_layFrom_162 : decode cX11_layFrom 162 = .ok (.iinc 4 1, 3) := by decide +kernel
theorem dX11_layFrom_165 : decode cX11_layFrom 165 = .ok (.goto (-110), 3) := by decide +kernel
theorem dX11_layFrom_168 : decode cX11_layFrom 168 = .ok (.return_, 1) := by decide +kernel
theorem dX11_shortestOf_0 : decode cX11_shortestOf 0 = .ok (.ldc 99, 2) := by decide +kernel
theorem dX11_shortestOf_2 : decode cX11_shortestOf 2 = .ok (.istore_n 3, 1) := by decide +kernel
theorem dX11_shortestOf_3 : decode cX11_shortestOf 3 = .ok (.bipush 24, 2) := by decide +kernel
theorem dX11_shortestOf_5 : decode cX11_shortestOf 5 = .ok (.iload_n 1, 1) := by decide +kernel
theorem dX11_shortestOf_6 : decode cX11_shortestOf 6 = .ok (.imul, 1) := by decide +kernel
theorem dX11_shortestOf_7 : decode cX11_shortestOf 7 = .ok (.istore 4, 2) := by decide +kernel
theorem dX11_shortestOf_9 : decode cX11_shortestOf 9 = .ok (.iload 4, 2) := by decide +kernel
theorem dX11_shortestOf_11 : decode cX11_shortestOf 11 = .ok (.bipush 24, 2) := by decide +kernel
theorem dX11_shortestOf_13 : decode cX11_shortestOf 13 = .ok (.iload_n 1, 1) := by decide +kernel
theorem dX11_shortestOf_14 : decode cX11_shortestOf 14 = .ok (.imul, 1) := by decide +kernel
theorem dX11_shortestOf_15 : decode cX11_shortestOf 15 = .ok (.bipush 24, 2) := by decide +kernel
theorem dX11_shortestOf_17 : decode cX11_shortestOf 17 = .ok (.iadd, 1) := by decide +kernel
theorem dX11_shortestOf_18 : decode cX11_shortestOf 18 = .ok (.if_icmp .ge 43, 3) := by decide +kernel
theorem dX11_shortestOf_21 : decode cX11_shortestOf 21 = .ok (.aload_n 0, 1) := by decide +kernel
theorem dX11_shortestOf_22 : decode cX11_shortestOf 22 = .ok (.iload 4, 2) := by decide +kernel
theorem dX11_shortestOf_24 : decode cX11_shortestOf 24 = .ok (.iload_n 1, 1) := by decide +kernel
theorem dX11_shortestOf_25 : decode cX11_shortestOf 25 = .ok (.iload_n 2, 1) := by decide +kernel
theorem dX11_shortestOf_26 : decode cX11_shortestOf 26 = .ok (.invokevirtual 133, 3) := by decide +kernel
theorem dX11_shortestOf_29 : decode cX11_shortestOf 29 = .ok (.ifCond .eq 24, 3) := by decide +kernel
theorem dX11_shortestOf_32 : decode cX11_shortestOf 32 = .ok (.aload_n 0, 1) := by decide +kernel
theorem dX11_shortestOf_33 : decode cX11_shortestOf 33 = .ok (.getfield 38, 3) := by decide +kernel
theorem dX11_shortestOf_36 : decode cX11_shortestOf 36 = .ok (.iload 4, 2) := by decide +kernel
theorem dX11_shortestOf_38 : decode cX11_shortestOf 38 = .ok (.iaload, 1) := by decide +kernel
theorem dX11_shortestOf_39 : decode cX11_shortestOf 39 = .ok (.iload_n 3, 1) := by decide +kernel
theorem dX11_shortestOf_40 : decode cX11_shortestOf 40 = .ok (.if_icmp .ge 13, 3) := by decide +kernel
theorem dX11_shortestOf_43 : decode cX11_shortestOf 43 = .ok (.aload_n 0, 1) := by decide +kernel
theorem dX11_shortestOf_44 : decode cX11_shortestOf 44 = .ok (.getfield 38, 3) := by decide +kernel
theorem dX11_shortestOf_47 : decode cX11_shortestOf 47 = .ok (.iload 4, 2) := by decide +kernel
theorem dX11_shortestOf_49 : decode cX11_shortestOf 49 = .ok (.iaload, 1) := by decide +kernel
theorem dX11_shortestOf_50 : decode cX11_shortestOf 50 = .ok (.goto 4, 3) := by decide +kernel
theorem dX11_shortestOf_53 : decode cX11_shortestOf 53 = .ok (.iload_n 3, 1) := by decide +kernel
theorem dX11_shortestOf_54 : decode cX11_shortestOf 54 = .ok (.istore_n 3, 1) := by decide +kernel
theorem dX11_shortestOf_55 : decode cX11_shortestOf 55 = .ok (.iinc 4 1, 3) := by decide +kernel
theorem dX11_shortestOf_58 : decode cX11_shortestOf 58 = .ok (.goto (-49), 3) := by decide +kernel
theorem dX11_shortestOf_61 : decode cX11_shortestOf 61 = .ok (.iload_n 3, 1) := by decide +kernel
theorem dX11_shortestOf_62 : decode cX11_shortestOf 62 = .ok (.ireturn, 1) := by decide +kernel
theorem dX11_shortest_0 : decode cX11_shortest 0 = .ok (.aload_n 0, 1) := by decide +kernel
theorem dX11_shortest_1 : decode cX11_shortest 1 = .ok (.iload_n 1, 1) := by decide +kernel
theorem dX11_shortest_2 : decode cX11_shortest 2 = .ok (.iload_n 2, 1) := by decide +kernel
theorem dX11_shortest_3 : decode cX11_shortest 3 = .ok (.iload_n 3, 1) := by decide +kernel
theorem dX11_shortest_4 : decode cX11_shortest 4 = .ok (.iload 4, 2) := by decide +kernel
theorem dX11_shortest_6 : decode cX11_shortest 6 = .ok (.invokevirtual 137, 3) := by decide +kernel
theorem dX11_shortest_9 : decode cX11_shortest 9 = .ok (.istore 5, 2) := by decide +kernel
theorem dX11_shortest_11 : decode cX11_shortest 11 = .ok (.iload 5, 2) := by decide +kernel
theorem dX11_shortest_13 : decode cX11_shortest 13 = .ok (.ifCond .ge 6, 3) := by decide +kernel
theorem dX11_shortest_16 : decode cX11_shortest 16 = .ok (.iload 5, 2) := by decide +kernel
theorem dX11_shortest_18 : decode cX11_shortest 18 = .ok (.ireturn, 1) := by decide +kernel
theorem dX11_shortest_19 : decode cX11_shortest 19 = .ok (.aload_n 0, 1) := by decide +kernel
theorem dX11_shortest_20 : decode cX11_shortest 20 = .ok (.bipush 24, 2) := by decide +kernel
theorem dX11_shortest_22 : decode cX11_shortest 22 = .ok (.iload_n 1, 1) := by decide +kernel
theorem dX11_shortest_23 : decode cX11_shortest 23 = .ok (.imul, 1) := by decide +kernel
theorem dX11_shortest_24 : decode cX11_shortest 24 = .ok (.iload_n 2, 1) := by decide +kernel
theorem dX11_shortest_25 : decode cX11_shortest 25 = .ok (.iadd, 1) := by decide +kernel
theorem dX11_shortest_26 : decode cX11_shortest 26 = .ok (.invokevirtual 141, 3) := by decide +kernel
theorem dX11_shortest_29 : decode cX11_shortest 29 = .ok (.aload_n 0, 1) := by decide +kernel
theorem dX11_shortest_30 : decode cX11_shortest 30 = .ok (.iload_n 3, 1) := by decide +kernel
theorem dX11_shortest_31 : decode cX11_shortest 31 = .ok (.iload 4, 2) := by decide +kernel
theorem dX11_shortest_33 : decode cX11_shortest 33 = .ok (.invokevirtual 145, 3) := by decide +kernel
theorem dX11_shortest_36 : decode cX11_shortest 36 = .ok (.istore 6, 2) := by decide +kernel
theorem dX11_shortest_38 : decode cX11_shortest 38 = .ok (.iload 6, 2) := by decide +kernel
theorem dX11_shortest_40 : decode cX11_shortest 40 = .ok (.ldc 99, 2) := by decide +kernel
theorem dX11_shortest_42 : decode cX11_shortest 42 = .ok (.if_icmp .ne 8, 3) := by decide +kernel
theorem dX11_shortest_45 : decode cX11_shortest 45 = .ok (.bipush (-9), 2) := by decide +kernel
theorem dX11_shortest_47 : decode cX11_shortest 47 = .ok (.goto 5, 3) := by decide +kernel
theorem dX11_shortest_50 : decode cX11_shortest 50 = .ok (.iload 6, 2) := by decide +kernel
theorem dX11_shortest_52 : decode cX11_shortest 52 = .ok (.ireturn, 1) := by decide +kernel
theorem dX11_ways_0 : decode cX11_ways 0 = .ok (.aload_n 0, 1) := by decide +kernel
theorem dX11_ways_1 : decode cX11_ways 1 = .ok (.iload_n 1, 1) := by decide +kernel
theorem dX11_ways_2 : decode cX11_ways 2 = .ok (.iload_n 2, 1) := by decide +kernel
theorem dX11_ways_3 : decode cX11_ways 3 = .ok (.iload_n 3, 1) := by decide +kernel
theorem dX11_ways_4 : decode cX11_ways 4 = .ok (.iload 4, 2) := by decide +kernel
theorem dX11_ways_6 : decode cX11_ways 6 = .ok (.invokevirtual 137, 3) := by decide +kernel
theorem dX11_ways_9 : decode cX11_ways 9 = .ok (.istore 5, 2) := by decide +kernel
theorem dX11_ways_11 : decode cX11_ways 11 = .ok (.iload 5, 2) := by decide +kernel
theorem dX11_ways_13 : decode cX11_ways 13 = .ok (.ifCond .ge 7, 3) := by decide +kernel
theorem dX11_ways_16 : decode cX11_ways 16 = .ok (.iload 5, 2) := by decide +kernel
theorem dX11_ways_18 : decode cX11_ways 18 = .ok (.i2l, 1) := by decide +kernel
theorem dX11_ways_19 : decode cX11_ways 19 = .ok (.lreturn, 1) := by decide +kernel
theorem dX11_ways_20 : decode cX11_ways 20 = .ok (.aload_n 0, 1) := by decide +kernel
theorem dX11_ways_21 : decode cX11_ways 21 = .ok (.bipush 24, 2) := by decide +kernel
theorem dX11_ways_23 : decode cX11_ways 23 = .ok (.iload_n 1, 1) := by decide +kernel
theorem dX11_ways_24 : decode cX11_ways 24 = .ok (.imul, 1) := by decide +kernel
theorem dX11_ways_25 : decode cX11_ways 25 = .ok (.iload_n 2, 1) := by decide +kernel
theorem dX11_ways_26 : decode cX11_ways 26 = .ok (.iadd, 1) := by decide +kernel
theorem dX11_ways_27 : decode cX11_ways 27 = .ok (.invokevirtual 141, 3) := by decide +kernel
theorem dX11_ways_30 : decode cX11_ways 30 = .ok (.aload_n 0, 1) := by decide +kernel
theorem dX11_ways_31 : decode cX11_ways 31 = .ok (.iload_n 3, 1) := by decide +kernel
theorem dX11_ways_32 : decode cX11_ways 32 = .ok (.iload 4, 2) := by decide +kernel
theorem dX11_ways_34 : decode cX11_ways 34 = .ok (.invokevirtual 145, 3) := by decide +kernel
theorem dX11_ways_37 : decode cX11_ways 37 = .ok (.istore 6, 2) := by decide +kernel
theorem dX11_ways_39 : decode cX11_ways 39 = .ok (.lconst 0, 1) := by decide +kernel
theorem dX11_ways_40 : decode cX11_ways 40 = .ok (.lstore 7, 2) := by decide +kernel
theorem dX11_ways_42 : decode cX11_ways 42 = .ok (.bipush 24, 2) := by decide +kernel
theorem dX11_ways_44 : decode cX11_ways 44 = .ok (.iload_n 3, 1) := by decide +kernel
theorem dX11_ways_45 : decode cX11_ways 45 = .ok (.imul, 1) := by decide +kernel
theorem dX11_ways_46 : decode cX11_ways 46 = .ok (.istore 9, 2) := by decide +kernel
theorem dX11_ways_48 : decode cX11_ways 48 = .ok (.iload 9, 2) := by decide +kernel
theorem dX11_ways_50 : decode cX11_ways 50 = .ok (.bipush 24, 2) := by decide +kernel
theorem dX11_ways_52 : decode cX11_ways 52 = .ok (.iload_n 3, 1) := by decide +kernel
theorem dX11_ways_53 : decode cX11_ways 53 = .ok (.imul, 1) := by decide +kernel
theorem dX11_ways_54 : decode cX11_ways 54 = .ok (.bipush 24, 2) := by decide +kernel
theorem dX11_ways_56 : decode cX11_ways 56 = .ok (.iadd, 1) := by decide +kernel
theorem dX11_ways_57 : decode cX11_ways 57 = .ok (.if_icmp .ge 56, 3) := by decide +kernel
theorem dX11_ways_60 : decode cX11_ways 60 = .ok (.iload 6, 2) := by decide +kernel
theorem dX11_ways_62 : decode cX11_ways 62 = .ok (.ldc 99, 2) := by decide +kernel
theorem dX11_ways_64 : decode cX11_ways 64 = .ok (.if_icmp .ge 49, 3) := by decide +kernel
theorem dX11_ways_67 : decode cX11_ways 67 = .ok (.lload 7, 2) := by decide +kernel
theorem dX11_ways_69 : decode cX11_ways 69 = .ok (.aload_n 0, 1) := by decide +kernel
theorem dX11_ways_70 : decode cX11_ways 70 = .ok (.iload 9, 2) := by decide +kernel
theorem dX11_ways_72 : decode cX11_ways 72 = .ok (.iload_n 3, 1) := by decide +kernel
theorem dX11_ways_73 : decode cX11_ways 73 = .ok (.iload 4, 2) := by decide +kernel
theorem dX11_ways_75 : decode cX11_ways 75 = .ok (.invokevirtual 133, 3) := by decide +kernel
theorem dX11_ways_78 : decode cX11_ways 78 = .ok (.ifCond .eq 25, 3) := by decide +kernel
theorem dX11_ways_81 : decode cX11_ways 81 = .ok (.aload_n 0, 1) := by decide +kernel
theorem dX11_ways_82 : decode cX11_ways 82 = .ok (.getfield 38, 3) := by decide +kernel
theorem dX11_ways_85 : decode cX11_ways 85 = .ok (.iload 9, 2) := by decide +kernel
theorem dX11_ways_87 : decode cX11_ways 87 = .ok (.iaload, 1) := by decide +kernel
theorem dX11_ways_88 : decode cX11_ways 88 = .ok (.iload 6, 2) := by decide +kernel
theorem dX11_ways_90 : decode cX11_ways 90 = .ok (.if_icmp .ne 13, 3) := by decide +kernel
theorem dX11_ways_93 : decode cX11_ways 93 = .ok (.aload_n 0, 1) := by decide +kernel
theorem dX11_ways_94 : decode cX11_ways 94 = .ok (.getfield 41, 3) := by decide +kernel
theorem dX11_ways_97 : decode cX11_ways 97 = .ok (.iload 9, 2) := by decide +kernel
theorem dX11_ways_99 : decode cX11_ways 99 = .ok (.laload, 1) := by decide +kernel
theorem dX11_ways_100 : decode cX11_ways 100 = .ok (.goto 4, 3) := by decide +kernel
theorem dX11_ways_103 : decode cX11_ways 103 = .ok (.lconst 0, 1) := by decide +kernel
theorem dX11_ways_104 : decode cX11_ways 104 = .ok (.ladd, 1) := by decide +kernel
theorem dX11_ways_105 : decode cX11_ways 105 = .ok (.lstore 7, 2) := by decide +kernel
theorem dX11_ways_107 : decode cX11_ways 107 = .ok (.iinc 9 1, 3) := by decide +kernel
theorem dX11_ways_110 : decode cX11_ways 110 = .ok (.goto (-62), 3) := by decide +kernel
theorem dX11_ways_113 : decode cX11_ways 113 = .ok (.lload 7, 2) := by decide +kernel
theorem dX11_ways_115 : decode cX11_ways 115 = .ok (.lreturn, 1) := by decide +kernel
theorem dX11_layOnward_0 : decode cX11_layOnward 0 = .ok (.bipush 24, 2) := by decide +kernel
theorem dX11_layOnward_2 : decode cX11_layOnward 2 = .ok (.aload_n 0, 1) := by decide +kernel
theorem dX11_layOnward_3 : decode cX11_layOnward 3 = .ok (.invokevirtual 100, 3) := by decide +kernel
theorem dX11_layOnward_6 : decode cX11_layOnward 6 = .ok (.imul, 1) := by decide +kernel
theorem dX11_layOnward_7 : decode cX11_layOnward 7 = .ok (.istore_n 3, 1) := by decide +kernel
theorem dX11_layOnward_8 : decode cX11_layOnward 8 = .ok (.iconst 0, 1) := by decide +kernel
theorem dX11_layOnward_9 : decode cX11_layOnward 9 = .ok (.istore 4, 2) := by decide +kernel
theorem dX11_layOnward_11 : decode cX11_layOnward 11 = .ok (.iload 4, 2) := by decide +kernel
theorem dX11_layOnward_13 : decode cX11_layOnward 13 = .ok (.iload_n 3, 1) := by decide +kernel
theorem dX11_layOnward_14 : decode cX11_layOnward 14 = .ok (.if_icmp .ge 33, 3) := by decide +kernel
theorem dX11_layOnward_17 : decode cX11_layOnward 17 = .ok (.aload_n 0, 1) := by decide +kernel
theorem dX11_layOnward_18 : decode cX11_layOnward 18 = .ok (.getfield 45, 3) := by decide +kernel
theorem dX11_layOnward_21 : decode cX11_layOnward 21 = .ok (.iload 4, 2) := by decide +kernel
theorem dX11_layOnward_23 : decode cX11_layOnward 23 = .ok (.aload_n 0, 1) := by decide +kernel
theorem dX11_layOnward_24 : decode cX11_layOnward 24 = .ok (.iload 4, 2) := by decide +kernel
theorem dX11_layOnward_26 : decode cX11_layOnward 26 = .ok (.iload_n 1, 1) := by decide +kernel
theorem dX11_layOnward_27 : decode cX11_layOnward 27 = .ok (.iload_n 2, 1) := by decide +kernel
theorem dX11_layOnward_28 : decode cX11_layOnward 28 = .ok (.invokevirtual 133, 3) := by decide +kernel
theorem dX11_layOnward_31 : decode cX11_layOnward 31 = .ok (.ifCond .eq 7, 3) := by decide +kernel
theorem dX11_layOnward_34 : decode cX11_layOnward 34 = .ok (.iconst 0, 1) := by decide +kernel
theorem dX11_layOnward_35 : decode cX11_layOnward 35 = .ok (.goto 5, 3) := by decide +kernel
theorem dX11_layOnward_38 : decode cX11_layOnward 38 = .ok (.ldc 99, 2) := by decide +kernel
theorem dX11_layOnward_40 : decode cX11_layOnward 40 = .ok (.iastore, 1) := by decide +kernel
theorem dX11_layOnward_41 : decode cX11_layOnward 41 = .ok (.iinc 4 1, 3) := by decide +kernel
theorem dX11_layOnward_44 : decode cX11_layOnward 44 = .ok (.goto (-33), 3) := by decide +kernel
theorem dX11_layOnward_47 : decode cX11_layOnward 47 = .ok (.iconst 1, 1) := by decide +kernel
theorem dX11_layOnward_48 : decode cX11_layOnward 48 = .ok (.istore 4, 2) := by decide +kernel
theorem dX11_layOnward_50 : decode cX11_layOnward 50 = .ok (.iload 4, 2) := by decide +kernel
theorem dX11_layOnward_52 : decode cX11_layOnward 52 = .ok (.ifCond .eq 89, 3) := by decide +kernel
theorem dX11_layOnward_55 : decode cX11_layOnward 55 = .ok (.iconst 0, 1) := by decide +kernel
theorem dX11_layOnward_56 : decode cX11_layOnward 56 = .ok (.istore 4, 2) := by decide +kernel
theorem dX11_layOnward_58 : decode cX11_layOnward 58 = .ok (.iconst 0, 1) := by decide +kernel
theorem dX11_layOnward_59 : decode cX11_layOnward 59 = .ok (.istore 5, 2) := by decide +kernel
theorem dX11_layOnward_61 : decode cX11_layOnward 61 = .ok (.iload 5, 2) := by decide +kernel
theorem dX11_layOnward_63 : decode cX11_layOnward 63 = .ok (.iconst 4, 1) := by decide +kernel
theorem dX11_layOnward_64 : decode cX11_layOnward 64 = .ok (.iload_n 3, 1) := by decide +kernel
theorem dX11_layOnward_65 : decode cX11_layOnward 65 = .ok (.imul, 1) := by decide +kernel
theorem dX11_layOnward_66 : decode cX11_layOnward 66 = .ok (.if_icmp .ge 72, 3) := by decide +kernel
theorem dX11_layOnward_69 : decode cX11_layOnward 69 = .ok (.aload_n 0, 1) := by decide +kernel
theorem dX11_layOnward_70 : decode cX11_layOnward 70 = .ok (.iload 5, 2) := by decide +kernel
theorem dX11_layOnward_72 : decode cX11_layOnward 72 = .ok (.iconst 4, 1) := by decide +kernel
theorem dX11_layOnward_73 : decode cX11_layOnward 73 = .ok (.idiv, 1) := by decide +kernel
theorem dX11_layOnward_74 : decode cX11_layOnward 74 = .ok (.iload 5, 2) := by decide +kernel
theorem dX11_layOnward_76 : decode cX11_layOnward 76 = .ok (.iconst 4, 1) := by decide +kernel
theorem dX11_layOnward_77 : decode cX11_layOnward 77 = .ok (.irem, 1) := by decide +kernel
theorem dX11_layOnward_78 : decode cX11_layOnward 78 = .ok (.invokevirtual 123, 3) := by decide +kernel
theorem dX11_layOnward_81 : decode cX11_layOnward 81 = .ok (.istore 6, 2) := by decide +kernel
theorem dX11_layOnward_83 : decode cX11_layOnward 83 = .ok (.iload 6, 2) := by decide +kernel
theorem dX11_layOnward_85 : decode cX11_layOnward 85 = .ok (.bipush (-9), 2) := by decide +kernel
theorem dX11_layOnward_87 : decode cX11_layOnward 87 = .ok (.if_icmp .eq 45, 3) := by decide +kernel
theorem dX11_layOnward_90 : decode cX11_layOnward 90 = .ok (.aload_n 0, 1) := by decide +kernel
theorem dX11_layOnward_91 : decode cX11_layOnward 91 = .ok (.getfield 45, 3) := by decide +kernel
theorem dX11_layOnward_94 : decode cX11_layOnward 94 = .ok (.iload 6, 2) := by decide +kernel
theorem dX11_layOnward_96 : decode cX11_layOnward 96 = .ok (.iaload, 1) := by decide +kernel
theorem dX11_layOnward_97 : decode cX11_layOnward 97 = .ok (.iconst 1, 1) := by decide +kernel
theorem dX11_layOnward_98 : decode cX11_layOnward 98 = .ok (.iadd, 1) := by decide +kernel
theorem dX11_layOnward_99 : decode cX11_layOnward 99 = .ok (.aload_n 0, 1) := by decide +kernel
theorem dX11_layOnward_100 : decode cX11_layOnward 100 = .ok (.getfield 45, 3) := by decide +kernel
theorem dX11_layOnward_103 : decode cX11_layOnward 103 = .ok (.iload 5, 2) := by decide +kernel
theorem dX11_layOnward_105 : decode cX11_layOnward 105 = .ok (.iconst 4, 1) := by decide +kernel
theorem dX11_layOnward_106 : decode cX11_layOnward 106 = .ok (.idiv, 1) := by decide +kernel
theorem dX11_layOnward_107 : decode cX11_layOnward 107 = .ok (.iaload, 1) := by decide +kernel
theorem dX11_layOnward_108 : decode cX11_layOnward 108 = .ok (.if_icmp .ge 24, 3) := by decide +kernel
theorem dX11_layOnward_111 : decode cX11_layOnward 111 = .ok (.aload_n 0, 1) := by decide +kernel
theorem dX11_layOnward_112 : decode cX11_layOnward 112 = .ok (.getfield 45, 3) := by decide +kernel
theorem dX11_layOnward_115 : decode cX11_layOnward 115 = .ok (.iload 5, 2) := by decide +kernel
theorem dX11_layOnward_117 : decode cX11_layOnward 117 = .ok (.iconst 4, 1) := by decide +kernel
theorem dX11_layOnward_118 : decode cX11_layOnward 118 = .ok (.idiv, 1) := by decide +kernel
theorem dX11_layOnward_119 : decode cX11_layOnward 119 = .ok (.aload_n 0, 1) := by decide +kernel
theorem dX11_layOnward_120 : decode cX11_layOnward 120 = .ok (.getfield 45, 3) := by decide +kernel
theorem dX11_layOnward_123 : decode cX11_layOnward 123 = .ok (.iload 6, 2) := by decide +kernel
theorem dX11_layOnward_125 : decode cX11_layOnward 125 = .ok (.iaload, 1) := by decide +kernel
theorem dX11_layOnward_126 : decode cX11_layOnward 126 = .ok (.iconst 1, 1) := by decide +kernel
theorem dX11_layOnward_127 : decode cX11_layOnward 127 = .ok (.iadd, 1) := by decide +kernel
theorem dX11_layOnward_128 : decode cX11_layOnward 128 = .ok (.iastore, 1) := by decide +kernel
theorem dX11_layOnward_129 : decode cX11_layOnward 129 = .ok (.iconst 1, 1) := by decide +kernel
theorem dX11_layOnward_130 : decode cX11_layOnward 130 = .ok (.istore 4, 2) := by decide +kernel
theorem dX11_layOnward_132 : decode cX11_layOnward 132 = .ok (.iinc 5 1, 3) := by decide +kernel
theorem dX11_layOnward_135 : decode cX11_layOnward 135 = .ok (.goto (-74), 3) := by decide +kernel
theorem dX11_layOnward_138 : decode cX11_layOnward 138 = .ok (.goto (-88), 3) := by decide +kernel
theorem dX11_layOnward_141 : decode cX11_layOnward 141 = .ok (.return_, 1) := by decide +kernel
theorem dX11_way_0 : decode cX11_way 0 = .ok (.aload_n 0, 1) := by decide +kernel
theorem dX11_way_1 : decode cX11_way 1 = .ok (.iload_n 1, 1) := by decide +kernel
theorem dX11_way_2 : decode cX11_way 2 = .ok (.iload_n 2, 1) := by decide +kernel
theorem dX11_way_3 : decode cX11_way 3 = .ok (.iload_n 3, 1) := by decide +kernel
theorem dX11_way_4 : decode cX11_way 4 = .ok (.iload 4, 2) := by decide +kernel
theorem dX11_way_6 : decode cX11_way 6 = .ok (.invokevirtual 137, 3) := by decide +kernel
theorem dX11_way_9 : decode cX11_way 9 = .ok (.istore 6, 2) := by decide +kernel
theorem dX11_way_11 : decode cX11_way 11 = .ok (.iload 6, 2) := by decide +kernel
theorem dX11_way_13 : decode cX11_way 13 = .ok (.ifCond .ge 6, 3) := by decide +kernel
theorem dX11_way_16 : decode cX11_way 16 = .ok (.iload 6, 2) := by decide +kernel
theorem dX11_way_18 : decode cX11_way 18 = .ok (.ireturn, 1) := by decide +kernel
theorem dX11_way_19 : decode cX11_way 19 = .ok (.aload_n 0, 1) := by decide +kernel
theorem dX11_way_20 : decode cX11_way 20 = .ok (.iload_n 3, 1) := by decide +kernel
theorem dX11_way_21 : decode cX11_way 21 = .ok (.iload 4, 2) := by decide +kernel
theorem dX11_way_23 : decode cX11_way 23 = .ok (.invokevirtual 148, 3) := by decide +kernel
theorem dX11_way_26 : decode cX11_way 26 = .ok (.bipush 24, 2) := by decide +kernel
theorem dX11_way_28 : decode cX11_way 28 = .ok (.iload_n 1, 1) := by decide +kernel
theorem dX11_way_29 : decode cX11_way 29 = .ok (.imul, 1) := by decide +kernel
theorem dX11_way_30 : decode cX11_way 30 = .ok (.iload_n 2, 1) := by decide +kernel
theorem dX11_way_31 : decode cX11_way 31 = .ok (.iadd, 1) := by decide +kernel
theorem dX11_way_32 : decode cX11_way 32 = .ok (.istore 7, 2) := by decide +kernel
theorem dX11_way_34 : decode cX11_way 34 = .ok (.aload_n 0, 1) := by decide +kernel
theorem dX11_way_35 : decode cX11_way 35 = .ok (.getfield 45, 3) := by decide +kernel
theorem dX11_way_38 : decode cX11_way 38 = .ok (.iload 7, 2) := by decide +kernel
theorem dX11_way_40 : decode cX11_way 40 = .ok (.iaload, 1) := by decide +kernel
theorem dX11_way_41 : decode cX11_way 41 = .ok (.ldc 99, 2) := by decide +kernel
theorem dX11_way_43 : decode cX11_way 43 = .ok (.if_icmp .eq 23, 3) := by decide +kernel
theorem dX11_way_46 : decode cX11_way 46 = .ok (.iload 5, 2) := by decide +kernel
theorem dX11_way_48 : decode cX11_way 48 = .ok (.i2l, 1) := by decide +kernel
theorem dX11_way_49 : decode cX11_way 49 = .ok (.lconst 0, 1) := by decide +kernel
theorem dX11_way_50 : decode cX11_way 50 = .ok (.aload_n 0, 1) := by decide +kernel
theorem dX11_way_51 : decode cX11_way 51 = .ok (.getfield 45, 3) := by decide +kernel
theorem dX11_way_54 : decode cX11_way 54 = .ok (.iload 7, 2) := by decide +kernel
theorem dX11_way_56 : decode cX11_way 56 = .ok (.iaload, 1) := by decide +kernel
theorem dX11_way_57 : decode cX11_way 57 = .ok (.iconst 1, 1) := by decide +kernel
theorem dX11_way_58 : decode cX11_way 58 = .ok (.isub, 1) := by decide +kernel
theorem dX11_way_59 : decode cX11_way 59 = .ok (.i2l, 1) := by decide +kernel
theorem dX11_way_60 : decode cX11_way 60 = .ok (.invokestatic 84, 3) := by decide +kernel
theorem dX11_way_63 : decode cX11_way 63 = .ok (.ifCond .ne 6, 3) := by decide +kernel
theorem dX11_way_66 : decode cX11_way 66 = .ok (.bipush (-9), 2) := by decide +kernel
theorem dX11_way_68 : decode cX11_way 68 = .ok (.ireturn, 1) := by decide +kernel
theorem dX11_way_69 : decode cX11_way 69 = .ok (.iconst 0, 1) := by decide +kernel
theorem dX11_way_70 : decode cX11_way 70 = .ok (.istore 8, 2) := by decide +kernel
theorem dX11_way_72 : decode cX11_way 72 = .ok (.iconst 0, 1) := by decide +kernel
theorem dX11_way_73 : decode cX11_way 73 = .ok (.istore 9, 2) := by decide +kernel
theorem dX11_way_75 : decode cX11_way 75 = .ok (.iload 9, 2) := by decide +kernel
theorem dX11_way_77 : decode cX11_way 77 = .ok (.iload 5, 2) := by decide +kernel
theorem dX11_way_79 : decode cX11_way 79 = .ok (.if_icmp .gt 66, 3) := by decide +kernel
theorem dX11_way_82 : decode cX11_way 82 = .ok (.iconst 0, 1) := by decide +kernel
theorem dX11_way_83 : decode cX11_way 83 = .ok (.istore 8, 2) := by decide +kernel
theorem dX11_way_85 : decode cX11_way 85 = .ok (.aload_n 0, 1) := by decide +kernel
theorem dX11_way_86 : decode cX11_way 86 = .ok (.iload 7, 2) := by decide +kernel
theorem dX11_way_88 : decode cX11_way 88 = .ok (.iload 8, 2) := by decide +kernel
theorem dX11_way_90 : decode cX11_way 90 = .ok (.invokevirtual 123, 3) := by decide +kernel
theorem dX11_way_93 : decode cX11_way 93 = .ok (.bipush (-9), 2) := by decide +kernel
theorem dX11_way_95 : decode cX11_way 95 = .ok (.if_icmp .eq 28, 3) := by decide +kernel
theorem dX11_way_98 : decode cX11_way 98 = .ok (.aload_n 0, 1) := by decide +kernel
theorem dX11_way_99 : decode cX11_way 99 = .ok (.getfield 45, 3) := by decide +kernel
theorem dX11_way_102 : decode cX11_way 102 = .ok (.aload_n 0, 1) := by decide +kernel
theorem dX11_way_103 : decode cX11_way 103 = .ok (.iload 7, 2) := by decide +kernel
theorem dX11_way_105 : decode cX11_way 105 = .ok (.iload 8, 2) := by decide +kernel
theorem dX11_way_107 : decode cX11_way 107 = .ok (.invokevirtual 123, 3) := by decide +kernel
theorem dX11_way_110 : decode cX11_way 110 = .ok (.iaload, 1) := by decide +kernel
theorem dX11_way_111 : decode cX11_way 111 = .ok (.aload_n 0, 1) := by decide +kernel
theorem dX11_way_112 : decode cX11_way 112 = .ok (.getfield 45, 3) := by decide +kernel
theorem dX11_way_115 : decode cX11_way 115 = .ok (.iload 7, 2) := by decide +kernel
theorem dX11_way_117 : decode cX11_way 117 = .ok (.iaload, 1) := by decide +kernel
theorem dX11_way_118 : decode cX11_way 118 = .ok (.iconst 1, 1) := by decide +kernel
theorem dX11_way_119 : decode cX11_way 119 = .ok (.isub, 1) := by decide +kernel
theorem dX11_way_120 : decode cX11_way 120 = .ok (.if_icmp .eq 9, 3) := by decide +kernel
theorem dX11_way_123 : decode cX11_way 123 = .ok (.iinc 8 1, 3) := by decide +kernel
theorem dX11_way_126 : decode cX11_way 126 = .ok (.goto (-41), 3) := by decide +kernel
theorem dX11_way_129 : decode cX11_way 129 = .ok (.aload_n 0, 1) := by decide +kernel
theorem dX11_way_130 : decode cX11_way 130 = .ok (.iload 7, 2) := by decide +kernel
theorem dX11_way_132 : decode cX11_way 132 = .ok (.iload 8, 2) := by decide +kernel
theorem dX11_way_134 : decode cX11_way 134 = .ok (.invokevirtual 123, 3) := by decide +kernel
theorem dX11_way_137 : decode cX11_way 137 = .ok (.istore 7, 2) := by decide +kernel
theorem dX11_way_139 : decode cX11_way 139 = .ok (.iinc 9 1, 3) := by decide +kernel
theorem dX11_way_142 : decode cX11_way 142 = .ok (.goto (-67), 3) := by decide +kernel
theorem dX11_way_145 : decode cX11_way 145 = .ok (.iload 8, 2) := by decide +kernel
theorem dX11_way_147 : decode cX11_way 147 = .ok (.ireturn, 1) := by decide +kernel
theorem dX11_print_0 : decode cX11_print 0 = .ok (.bipush 7, 2) := by decide +kernel
theorem dX11_print_2 : decode cX11_print 2 = .ok (.aload_n 0, 1) := by decide +kernel
theorem dX11_print_3 : decode cX11_print 3 = .ok (.getfield 7, 3) := by decide +kernel
theorem dX11_print_6 : decode cX11_print 6 = .ok (.iload_n 1, 1) := by decide +kernel
theorem dX11_print_7 : decode cX11_print 7 = .ok (.bipush 24, 2) := by decide +kernel
theorem dX11_print_9 : decode cX11_print 9 = .ok (.irem, 1) := by decide +kernel
theorem dX11_print_10 : decode cX11_print 10 = .ok (.iaload, 1) := by decide +kernel
theorem dX11_print_11 : decode cX11_print 11 = .ok (.isub, 1) := by decide +kernel
theorem dX11_print_12 : decode cX11_print 12 = .ok (.ireturn, 1) := by decide +kernel
theorem dX11_cheapest_0 : decode cX11_cheapest 0 = .ok (.aload_n 0, 1) := by decide +kernel
theorem dX11_cheapest_1 : decode cX11_cheapest 1 = .ok (.iload_n 1, 1) := by decide +kernel
theorem dX11_cheapest_2 : decode cX11_cheapest 2 = .ok (.iload_n 2, 1) := by decide +kernel
theorem dX11_cheapest_3 : decode cX11_cheapest 3 = .ok (.iload_n 3, 1) := by decide +kernel
theorem dX11_cheapest_4 : decode cX11_cheapest 4 = .ok (.iload 4, 2) := by decide +kernel
theorem dX11_cheapest_6 : decode cX11_cheapest 6 = .ok (.invokevirtual 137, 3) := by decide +kernel
theorem dX11_cheapest_9 : decode cX11_cheapest 9 = .ok (.istore 5, 2) := by decide +kernel
theorem dX11_cheapest_11 : decode cX11_cheapest 11 = .ok (.iload 5, 2) := by decide +kernel
theorem dX11_cheapest_13 : decode cX11_cheapest 13 = .ok (.ifCond .ge 6, 3) := by decide +kernel
theorem dX11_cheapest_16 : decode cX11_cheapest 16 = .ok (.iload 5, 2) := by decide +kernel
theorem dX11_cheapest_18 : decode cX11_cheapest 18 = .ok (.ireturn, 1) := by decide +kernel
theorem dX11_cheapest_19 : decode cX11_cheapest 19 = .ok (.bipush 24, 2) := by decide +kernel
theorem dX11_cheapest_21 : decode cX11_cheapest 21 = .ok (.aload_n 0, 1) := by decide +kernel
theorem dX11_cheapest_22 : decode cX11_cheapest 22 = .ok (.invokevirtual 100, 3) := by decide +kernel
theorem dX11_cheapest_25 : decode cX11_cheapest 25 = .ok (.imul, 1) := by decide +kernel
theorem dX11_cheapest_26 : decode cX11_cheapest 26 = .ok (.istore 6, 2) := by decide +kernel
theorem dX11_cheapest_28 : decode cX11_cheapest 28 = .ok (.iconst 0, 1) := by decide +kernel
theorem dX11_cheapest_29 : decode cX11_cheapest 29 = .ok (.istore 7, 2) := by decide +kernel
theorem dX11_cheapest_31 : decode cX11_cheapest 31 = .ok (.iload 7, 2) := by decide +kernel
theorem dX11_cheapest_33 : decode cX11_cheapest 33 = .ok (.iload 6, 2) := by decide +kernel
theorem dX11_cheapest_35 : decode cX11_cheapest 35 = .ok (.if_icmp .ge 34, 3) := by decide +kernel
theorem dX11_cheapest_38 : decode cX11_cheapest 38 = .ok (.aload_n 0, 1) := by decide +kernel
theorem dX11_cheapest_39 : decode cX11_cheapest 39 = .ok (.getfield 45, 3) := by decide +kernel
theorem dX11_cheapest_42 : decode cX11_cheapest 42 = .ok (.iload 7, 2) := by decide +kernel
theorem dX11_cheapest_44 : decode cX11_cheapest 44 = .ok (.aload_n 0, 1) := by decide +kernel
theorem dX11_cheapest_45 : decode cX11_cheapest 45 = .ok (.iload 7, 2) := by decide +kernel
theorem dX11_cheapest_47 : decode cX11_cheapest 47 = .ok (.iload_n 3, 1) := by decide +kernel
theorem dX11_cheapest_48 : decode cX11_cheapest 48 = .ok (.iload 4, 2) := by decide +kernel
theorem dX11_cheapest_50 : decode cX11_cheapest 50 = .ok (.invokevirtual 133, 3) := by decide +kernel
theorem dX11_cheapest_53 : decode cX11_cheapest 53 = .ok (.ifCond .eq 7, 3) := by decide +kernel
theorem dX11_cheapest_56 : decode cX11_cheapest 56 = .ok (.iconst 0, 1) := by decide +kernel
theorem dX11_cheapest_57 : decode cX11_cheapest 57 = .ok (.goto 5, 3) := by decide +kernel
theorem dX11_cheapest_60 : decode cX11_cheapest 60 = .ok (.ldc 99, 2) := by decide +kernel
theorem dX11_cheapest_62 : decode cX11_cheapest 62 = .ok (.iastore, 1) := by decide +kernel
theorem dX11_cheapest_63 : decode cX11_cheapest 63 = .ok (.iinc 7 1, 3) := by decide +kernel
theorem dX11_cheapest_66 : decode cX11_cheapest 66 = .ok (.goto (-35), 3) := by decide +kernel
theorem dX11_cheapest_69 : decode cX11_cheapest 69 = .ok (.iconst 1, 1) := by decide +kernel
theorem dX11_cheapest_70 : decode cX11_cheapest 70 = .ok (.istore 7, 2) := by decide +kernel
theorem dX11_cheapest_72 : decode cX11_cheapest 72 = .ok (.iload 7, 2) := by decide +kernel
theorem dX11_cheapest_74 : decode cX11_cheapest 74 = .ok (.ifCond .eq 100, 3) := by decide +kernel
theorem dX11_cheapest_77 : decode cX11_cheapest 77 = .ok (.iconst 0, 1) := by decide +kernel
theorem dX11_cheapest_78 : decode cX11_cheapest 78 = .ok (.istore 7, 2) := by decide +kernel
theorem dX11_cheapest_80 : decode cX11_cheapest 80 = .ok (.iconst 0, 1) := by decide +kernel
theorem dX11_cheapest_81 : decode cX11_cheapest 81 = .ok (.istore 8, 2) := by decide +kernel
theorem dX11_cheapest_83 : decode cX11_cheapest 83 = .ok (.iload 8, 2) := by decide +kernel
theorem dX11_cheapest_85 : decode cX11_cheapest 85 = .ok (.iconst 4, 1) := by decide +kernel
theorem dX11_cheapest_86 : decode cX11_cheapest 86 = .ok (.iload 6, 2) := by decide +kernel
theorem dX11_cheapest_88 : decode cX11_cheapest 88 = .ok (.imul, 1) := by decide +kernel
theorem dX11_cheapest_89 : decode cX11_cheapest 89 = .ok (.if_icmp .ge 82, 3) := by decide +kernel
theorem dX11_cheapest_92 : decode cX11_cheapest 92 = .ok (.aload_n 0, 1) := by decide +kernel
theorem dX11_cheapest_93 : decode cX11_cheapest 93 = .ok (.iload 8, 2) := by decide +kernel
theorem dX11_cheapest_95 : decode cX11_cheapest 95 = .ok (.iconst 4, 1) := by decide +kernel
theorem dX11_cheapest_96 : decode cX11_cheapest 96 = .ok (.idiv, 1) := by decide +kernel
theorem dX11_cheapest_97 : decode cX11_cheapest 97 = .ok (.iload 8, 2) := by decide +kernel
theorem dX11_cheapest_99 : decode cX11_cheapest 99 = .ok (.iconst 4, 1) := by decide +kernel
theorem dX11_cheapest_100 : decode cX11_cheapest 100 = .ok (.irem, 1) := by decide +kernel
theorem dX11_cheapest_101 : decode cX11_cheapest 101 = .ok (.invokevirtual 123, 3) := by decide +kernel
theorem dX11_cheapest_104 : decode cX11_cheapest 104 = .ok (.istore 9, 2) := by decide +kernel
theorem dX11_cheapest_106 : decode cX11_cheapest 106 = .ok (.iload 9, 2) := by decide +kernel
theorem dX11_cheapest_108 : decode cX11_cheapest 108 = .ok (.bipush (-9), 2) := by decide +kernel
theorem dX11_cheapest_110 : decode cX11_cheapest 110 = .ok (.if_icmp .eq 55, 3) := by decide +kernel
theorem dX11_cheapest_113 : decode cX11_cheapest 113 = .ok (.aload_n 0, 1) := by decide +kernel
theorem dX11_cheapest_114 : decode cX11_cheapest 114 = .ok (.getfield 45, 3) := by decide +kernel
theorem dX11_cheapest_117 : decode cX11_cheapest 117 = .ok (.iload 9, 2) := by decide +kernel
theorem dX11_cheapest_119 : decode cX11_cheapest 119 = .ok (.iaload, 1) := by decide +kernel
theorem dX11_cheapest_120 : decode cX11_cheapest 120 = .ok (.aload_n 0, 1) := by decide +kernel
theorem dX11_cheapest_121 : decode cX11_cheapest 121 = .ok (.iload 9, 2) := by decide +kernel
theorem dX11_cheapest_123 : decode cX11_cheapest 123 = .ok (.invokevirtual 152, 3) := by decide +kernel
theorem dX11_cheapest_126 : decode cX11_cheapest 126 = .ok (.iadd, 1) := by decide +kernel
theorem dX11_cheapest_127 : decode cX11_cheapest 127 = .ok (.aload_n 0, 1) := by decide +kernel
theorem dX11_cheapest_128 : decode cX11_cheapest 128 = .ok (.getfield 45, 3) := by decide +kernel
theorem dX11_cheapest_131 : decode cX11_cheapest 131 = .ok (.iload 8, 2) := by decide +kernel
theorem dX11_cheapest_133 : decode cX11_cheapest 133 = .ok (.iconst 4, 1) := by decide +kernel
theorem dX11_cheapest_134 : decode cX11_cheapest 134 = .ok (.idiv, 1) := by decide +kernel
theorem dX11_cheapest_135 : decode cX11_cheapest 135 = .ok (.iaload, 1) := by decide +kernel
theorem dX11_cheapest_136 : decode cX11_cheapest 136 = .ok (.if_icmp .ge 29, 3) := by decide +kernel
theorem dX11_cheapest_139 : decode cX11_cheapest 139 = .ok (.aload_n 0, 1) := by decide +kernel
theorem dX11_cheapest_140 : decode cX11_cheapest 140 = .ok (.getfield 45, 3) := by decide +kernel
theorem dX11_cheapest_143 : decode cX11_cheapest 143 = .ok (.iload 8, 2) := by decide +kernel
theorem dX11_cheapest_145 : decode cX11_cheapest 145 = .ok (.iconst 4, 1) := by decide +kernel
theorem dX11_cheapest_146 : decode cX11_cheapest 146 = .ok (.idiv, 1) := by decide +kernel
theorem dX11_cheapest_147 : decode cX11_cheapest 147 = .ok (.aload_n 0, 1) := by decide +kernel
theorem dX11_cheapest_148 : decode cX11_cheapest 148 = .ok (.getfield 45, 3) := by decide +kernel
theorem dX11_cheapest_151 : decode cX11_cheapest 151 = .ok (.iload 9, 2) := by decide +kernel
theorem dX11_cheapest_153 : decode cX11_cheapest 153 = .ok (.iaload, 1) := by decide +kernel
theorem dX11_cheapest_154 : decode cX11_cheapest 154 = .ok (.aload_n 0, 1) := by decide +kernel
theorem dX11_cheapest_155 : decode cX11_cheapest 155 = .ok (.iload 9, 2) := by decide +kernel
theorem dX11_cheapest_157 : decode cX11_cheapest 157 = .ok (.invokevirtual 152, 3) := by decide +kernel
theorem dX11_cheapest_160 : decode cX11_cheapest 160 = .ok (.iadd, 1) := by decide +kernel
theorem dX11_cheapest_161 : decode cX11_cheapest 161 = .ok (.iastore, 1) := by decide +kernel
theorem dX11_cheapest_162 : decode cX11_cheapest 162 = .ok (.iconst 1, 1) := by decide +kernel
theorem dX11_cheapest_163 : decode cX11_cheapest 163 = .ok (.istore 7, 2) := by decide +kernel
theorem dX11_cheapest_165 : decode cX11_cheapest 165 = .ok (.iinc 8 1, 3) := by decide +kernel
theorem dX11_cheapest_168 : decode cX11_cheapest 168 = .ok (.goto (-85), 3) := by decide +kernel
theorem dX11_cheapest_171 : decode cX11_cheapest 171 = .ok (.goto (-99), 3) := by decide +kernel
theorem dX11_cheapest_174 : decode cX11_cheapest 174 = .ok (.aload_n 0, 1) := by decide +kernel
theorem dX11_cheapest_175 : decode cX11_cheapest 175 = .ok (.getfield 45, 3) := by decide +kernel
theorem dX11_cheapest_178 : decode cX11_cheapest 178 = .ok (.bipush 24, 2) := by decide +kernel
theorem dX11_cheapest_180 : decode cX11_cheapest 180 = .ok (.iload_n 1, 1) := by decide +kernel
theorem dX11_cheapest_181 : decode cX11_cheapest 181 = .ok (.imul, 1) := by decide +kernel
theorem dX11_cheapest_182 : decode cX11_cheapest 182 = .ok (.iload_n 2, 1) := by decide +kernel
theorem dX11_cheapest_183 : decode cX11_cheapest 183 = .ok (.iadd, 1) := by decide +kernel
theorem dX11_cheapest_184 : decode cX11_cheapest 184 = .ok (.iaload, 1) := by decide +kernel
theorem dX11_cheapest_185 : decode cX11_cheapest 185 = .ok (.ldc 99, 2) := by decide +kernel
theorem dX11_cheapest_187 : decode cX11_cheapest 187 = .ok (.if_icmp .ne 8, 3) := by decide +kernel
theorem dX11_cheapest_190 : decode cX11_cheapest 190 = .ok (.bipush (-9), 2) := by decide +kernel
theorem dX11_cheapest_192 : decode cX11_cheapest 192 = .ok (.goto 14, 3) := by decide +kernel
theorem dX11_cheapest_195 : decode cX11_cheapest 195 = .ok (.aload_n 0, 1) := by decide +kernel
theorem dX11_cheapest_196 : decode cX11_cheapest 196 = .ok (.getfield 45, 3) := by decide +kernel
theorem dX11_cheapest_199 : decode cX11_cheapest 199 = .ok (.bipush 24, 2) := by decide +kernel
theorem dX11_cheapest_201 : decode cX11_cheapest 201 = .ok (.iload_n 1, 1) := by decide +kernel
theorem dX11_cheapest_202 : decode cX11_cheapest 202 = .ok (.imul, 1) := by decide +kernel
theorem dX11_cheapest_203 : decode cX11_cheapest 203 = .ok (.iload_n 2, 1) := by decide +kernel
theorem dX11_cheapest_204 : decode cX11_cheapest 204 = .ok (.iadd, 1) := by decide +kernel
theorem dX11_cheapest_205 : decode cX11_cheapest 205 = .ok (.iaload, 1) := by decide +kernel
theorem dX11_cheapest_206 : decode cX11_cheapest 206 = .ok (.ireturn, 1) := by decide +kernel
theorem dX11_stances_0 : decode cX11_stances 0 = .ok (.aload_n 0, 1) := by decide +kernel
theorem dX11_stances_1 : decode cX11_stances 1 = .ok (.iload_n 1, 1) := by decide +kernel
theorem dX11_stances_2 : decode cX11_stances 2 = .ok (.invokevirtual 111, 3) := by decide +kernel
theorem dX11_stances_5 : decode cX11_stances 5 = .ok (.ifCond .eq 18, 3) := by decide +kernel
theorem dX11_stances_8 : decode cX11_stances 8 = .ok (.iload_n 2, 1) := by decide +kernel
theorem dX11_stances_9 : decode cX11_stances 9 = .ok (.invokestatic 90, 3) := by decide +kernel
theorem dX11_stances_12 : decode cX11_stances 12 = .ok (.ifCond .eq 11, 3) := by decide +kernel
theorem dX11_stances_15 : decode cX11_stances 15 = .ok (.aload_n 0, 1) := by decide +kernel
theorem dX11_stances_16 : decode cX11_stances 16 = .ok (.iload_n 3, 1) := by decide +kernel
theorem dX11_stances_17 : decode cX11_stances 17 = .ok (.invokevirtual 111, 3) := by decide +kernel
theorem dX11_stances_20 : decode cX11_stances 20 = .ok (.ifCond .ne 5, 3) := by decide +kernel
theorem dX11_stances_23 : decode cX11_stances 23 = .ok (.iconst (-1), 1) := by decide +kernel
theorem dX11_stances_24 : decode cX11_stances 24 = .ok (.ireturn, 1) := by decide +kernel
theorem dX11_stances_25 : decode cX11_stances 25 = .ok (.aload_n 0, 1) := by decide +kernel
theorem dX11_stances_26 : decode cX11_stances 26 = .ok (.bipush 24, 2) := by decide +kernel
theorem dX11_stances_28 : decode cX11_stances 28 = .ok (.iload_n 1, 1) := by decide +kernel
theorem dX11_stances_29 : decode cX11_stances 29 = .ok (.imul, 1) := by decide +kernel
theorem dX11_stances_30 : decode cX11_stances 30 = .ok (.iload_n 2, 1) := by decide +kernel
theorem dX11_stances_31 : decode cX11_stances 31 = .ok (.iadd, 1) := by decide +kernel
theorem dX11_stances_32 : decode cX11_stances 32 = .ok (.invokevirtual 141, 3) := by decide +kernel
theorem dX11_stances_35 : decode cX11_stances 35 = .ok (.iconst 0, 1) := by decide +kernel
theorem dX11_stances_36 : decode cX11_stances 36 = .ok (.istore 4, 2) := by decide +kernel
theorem dX11_stances_38 : decode cX11_stances 38 = .ok (.bipush 24, 2) := by decide +kernel
theorem dX11_stances_40 : decode cX11_stances 40 = .ok (.iload_n 3, 1) := by decide +kernel
theorem dX11_stances_41 : decode cX11_stances 41 = .ok (.imul, 1) := by decide +kernel
theorem dX11_stances_42 : decode cX11_stances 42 = .ok (.istore 5, 2) := by decide +kernel
theorem dX11_stances_44 : decode cX11_stances 44 = .ok (.iload 5, 2) := by decide +kernel
theorem dX11_stances_46 : decode cX11_stances 46 = .ok (.bipush 24, 2) := by decide +kernel
theorem dX11_stances_48 : decode cX11_stances 48 = .ok (.iload_n 3, 1) := by decide +kernel
theorem dX11_stances_49 : decode cX11_stances 49 = .ok (.imul, 1) := by decide +kernel
theorem dX11_stances_50 : decode cX11_stances 50 = .ok (.bipush 24, 2) := by decide +kernel
theorem dX11_stances_52 : decode cX11_stances 52 = .ok (.iadd, 1) := by decide +kernel
theorem dX11_stances_53 : decode cX11_stances 53 = .ok (.if_icmp .ge 31, 3) := by decide +kernel
theorem dX11_stances_56 : decode cX11_stances 56 = .ok (.iload 4, 2) := by decide +kernel
theorem dX11_stances_58 : decode cX11_stances 58 = .ok (.aload_n 0, 1) := by decide +kernel
theorem dX11_stances_59 : decode cX11_stances 59 = .ok (.getfield 38, 3) := by decide +kernel
theorem dX11_stances_62 : decode cX11_stances 62 = .ok (.iload 5, 2) := by decide +kernel
theorem dX11_stances_64 : decode cX11_stances 64 = .ok (.iaload, 1) := by decide +kernel
theorem dX11_stances_65 : decode cX11_stances 65 = .ok (.ldc 99, 2) := by decide +kernel
theorem dX11_stances_67 : decode cX11_stances 67 = .ok (.if_icmp .ge 7, 3) := by decide +kernel
theorem dX11_stances_70 : decode cX11_stances 70 = .ok (.iconst 1, 1) := by decide +kernel
theorem dX11_stances_71 : decode cX11_stances 71 = .ok (.goto 4, 3) := by decide +kernel
theorem dX11_stances_74 : decode cX11_stances 74 = .ok (.iconst 0, 1) := by decide +kernel
theorem dX11_stances_75 : decode cX11_stances 75 = .ok (.iadd, 1) := by decide +kernel
theorem dX11_stances_76 : decode cX11_stances 76 = .ok (.istore 4, 2) := by decide +kernel
theorem dX11_stances_78 : decode cX11_stances 78 = .ok (.iinc 5 1, 3) := by decide +kernel
theorem dX11_stances_81 : decode cX11_stances 81 = .ok (.goto (-37), 3) := by decide +kernel
theorem dX11_stances_84 : decode cX11_stances 84 = .ok (.iload 4, 2) := by decide +kernel
theorem dX11_stances_86 : decode cX11_stances 86 = .ok (.ireturn, 1) := by decide +kernel
theorem dX11_reach_0 : decode cX11_reach 0 = .ok (.aload_n 0, 1) := by decide +kernel
theorem dX11_reach_1 : decode cX11_reach 1 = .ok (.iload_n 1, 1) := by decide +kernel
theorem dX11_reach_2 : decode cX11_reach 2 = .ok (.invokevirtual 111, 3) := by decide +kernel
theorem dX11_reach_5 : decode cX11_reach 5 = .ok (.ifCond .eq 10, 3) := by decide +kernel
theorem dX11_reach_8 : decode cX11_reach 8 = .ok (.iload_n 2, 1) := by decide +kernel
theorem dX11_reach_9 : decode cX11_reach 9 = .ok (.invokestatic 90, 3) := by decide +kernel
theorem dX11_reach_12 : decode cX11_reach 12 = .ok (.ifCond .ne 5, 3) := by decide +kernel
theorem dX11_reach_15 : decode cX11_reach 15 = .ok (.iconst (-1), 1) := by decide +kernel
theorem dX11_reach_16 : decode cX11_reach 16 = .ok (.ireturn, 1) := by decide +kernel
theorem dX11_reach_17 : decode cX11_reach 17 = .ok (.aload_n 0, 1) := by decide +kernel
theorem dX11_reach_18 : decode cX11_reach 18 = .ok (.bipush 24, 2) := by decide +kernel
theorem dX11_reach_20 : decode cX11_reach 20 = .ok (.iload_n 1, 1) := by decide +kernel
theorem dX11_reach_21 : decode cX11_reach 21 = .ok (.imul, 1) := by decide +kernel
theorem dX11_reach_22 : decode cX11_reach 22 = .ok (.iload_n 2, 1) := by decide +kernel
theorem dX11_reach_23 : decode cX11_reach 23 = .ok (.iadd, 1) := by decide +kernel
theorem dX11_reach_24 : decode cX11_reach 24 = .ok (.invokevirtual 141, 3) := by decide +kernel
theorem dX11_reach_27 : decode cX11_reach 27 = .ok (.iconst 0, 1) := by decide +kernel
theorem dX11_reach_28 : decode cX11_reach 28 = .ok (.istore_n 3, 1) := by decide +kernel
theorem dX11_reach_29 : decode cX11_reach 29 = .ok (.iconst 0, 1) := by decide +kernel
theorem dX11_reach_30 : decode cX11_reach 30 = .ok (.istore 4, 2) := by decide +kernel
theorem dX11_reach_32 : decode cX11_reach 32 = .ok (.iload 4, 2) := by decide +kernel
theorem dX11_reach_34 : decode cX11_reach 34 = .ok (.aload_n 0, 1) := by decide +kernel
theorem dX11_reach_35 : decode cX11_reach 35 = .ok (.invokevirtual 100, 3) := by decide +kernel
theorem dX11_reach_38 : decode cX11_reach 38 = .ok (.if_icmp .ge 75, 3) := by decide +kernel
theorem dX11_reach_41 : decode cX11_reach 41 = .ok (.iconst 0, 1) := by decide +kernel
theorem dX11_reach_42 : decode cX11_reach 42 = .ok (.istore 5, 2) := by decide +kernel
theorem dX11_reach_44 : decode cX11_reach 44 = .ok (.bipush 24, 2) := by decide +kernel
theorem dX11_reach_46 : decode cX11_reach 46 = .ok (.iload 4, 2) := by decide +kernel
theorem dX11_reach_48 : decode cX11_reach 48 = .ok (.imul, 1) := by decide +kernel
theorem dX11_reach_49 : decode cX11_reach 49 = .ok (.istore 6, 2) := by decide +kernel
theorem dX11_reach_51 : decode cX11_reach 51 = .ok (.iload 6, 2) := by decide +kernel
theorem dX11_reach_53 : decode cX11_reach 53 = .ok (.bipush 24, 2) := by decide +kernel
theorem dX11_reach_55 : decode cX11_reach 55 = .ok (.iload 4, 2) := by decide +kernel
theorem dX11_reach_57 : decode cX11_reach 57 = .ok (.imul, 1) := by decide +kernel
theorem dX11_reach_58 : decode cX11_reach 58 = .ok (.bipush 24, 2) := by decide +kernel
theorem dX11_reach_60 : decode cX11_reach 60 = .ok (.iadd, 1) := by decide +kernel
theorem dX11_reach_61 : decode cX11_reach 61 = .ok (.if_icmp .ge 33, 3) := by decide +kernel
theorem dX11_reach_64 : decode cX11_reach 64 = .ok (.iload 5, 2) := by decide +kernel
theorem dX11_reach_66 : decode cX11_reach 66 = .ok (.ifCond .ne 15, 3) := by decide +kernel
theorem dX11_reach_69 : decode cX11_reach 69 = .ok (.aload_n 0, 1) := by decide +kernel
theorem dX11_reach_70 : decode cX11_reach 70 = .ok (.getfield 38, 3) := by decide +kernel
theorem dX11_reach_73 : decode cX11_reach 73 = .ok (.iload 6, 2) := by decide +kernel
theorem dX11_reach_75 : decode cX11_reach 75 = .ok (.iaload, 1) := by decide +kernel
theorem dX11_reach_76 : decode cX11_reach 76 = .ok (.ldc 99, 2) := by decide +kernel
theorem dX11_reach_78 : decode cX11_reach 78 = .ok (.if_icmp .ge 7, 3) := by decide +kernel
theorem dX11_reach_81 : decode cX11_reach 81 = .ok (.iconst 1, 1) := by decide +kernel
theorem dX11_reach_82 : decode cX11_reach 82 = .ok (.goto 4, 3) := by decide +kernel
theorem dX11_reach_85 : decode cX11_reach 85 = .ok (.iconst 0, 1) := by decide +kernel
theorem dX11_reach_86 : decode cX11_reach 86 = .ok (.istore 5, 2) := by decide +kernel
theorem dX11_reach_88 : decode cX11_reach 88 = .ok (.iinc 6 1, 3) := by decide +kernel
theorem dX11_reach_91 : decode cX11_reach 91 = .ok (.goto (-40), 3) := by decide +kernel
theorem dX11_reach_94 : decode cX11_reach 94 = .ok (.iload_n 3, 1) := by decide +kernel
theorem dX11_reach_95 : decode cX11_reach 95 = .ok (.iload 5, 2) := by decide +kernel
theorem dX11_reach_97 : decode cX11_reach 97 = .ok (.ifCond .eq 7, 3) := by decide +kernel
theorem dX11_reach_100 : decode cX11_reach 100 = .ok (.iconst 1, 1) := by decide +kernel
theorem dX11_reach_101 : decode cX11_reach 101 = .ok (.goto 4, 3) := by decide +kernel
theorem dX11_reach_104 : decode cX11_reach 104 = .ok (.iconst 0, 1) := by decide +kernel
theorem dX11_reach_105 : decode cX11_reach 105 = .ok (.iadd, 1) := by decide +kernel
theorem dX11_reach_106 : decode cX11_reach 106 = .ok (.istore_n 3, 1) := by decide +kernel
theorem dX11_reach_107 : decode cX11_reach 107 = .ok (.iinc 4 1, 3) := by decide +kernel
theorem dX11_reach_110 : decode cX11_reach 110 = .ok (.goto (-78), 3) := by decide +kernel
theorem dX11_reach_113 : decode cX11_reach 113 = .ok (.iload_n 3, 1) := by decide +kernel
theorem dX11_reach_114 : decode cX11_reach 114 = .ok (.ireturn, 1) := by decide +kernel
theorem dX11_openCells_0 : decode cX11_openCells 0 = .ok (.iconst 0, 1) := by decide +kernel
theorem dX11_openCells_1 : decode cX11_openCells 1 = .ok (.istore_n 2, 1) := by decide +kernel
theorem dX11_openCells_2 : decode cX11_openCells 2 = .ok (.iconst 0, 1) := by decide +kernel
theorem dX11_openCells_3 : decode cX11_openCells 3 = .ok (.istore_n 3, 1) := by decide +kernel
theorem dX11_openCells_4 : decode cX11_openCells 4 = .ok (.iload_n 3, 1) := by decide +kernel
theorem dX11_openCells_5 : decode cX11_openCells 5 = .ok (.aload_n 0, 1) := by decide +kernel
theorem dX11_openCells_6 : decode cX11_openCells 6 = .ok (.invokevirtual 100, 3) := by decide +kernel
theorem dX11_openCells_9 : decode cX11_openCells 9 = .ok (.if_icmp .ge 26, 3) := by decide +kernel
theorem dX11_openCells_12 : decode cX11_openCells 12 = .ok (.iload_n 2, 1) := by decide +kernel
theorem dX11_openCells_13 : decode cX11_openCells 13 = .ok (.aload_n 0, 1) := by decide +kernel
theorem dX11_openCells_14 : decode cX11_openCells 14 = .ok (.iload_n 3, 1) := by decide +kernel
theorem dX11_openCells_15 : decode cX11_openCells 15 = .ok (.iload_n 1, 1) := by decide +kernel
theorem dX11_openCells_16 : decode cX11_openCells 16 = .ok (.invokevirtual 116, 3) := by decide +kernel
theorem dX11_openCells_19 : decode cX11_openCells 19 = .ok (.ifCond .eq 7, 3) := by decide +kernel
theorem dX11_openCells_22 : decode cX11_openCells 22 = .ok (.iconst 1, 1) := by decide +kernel
theorem dX11_openCells_23 : decode cX11_openCells 23 = .ok (.goto 4, 3) := by decide +kernel
theorem dX11_openCells_26 : decode cX11_openCells 26 = .ok (.iconst 0, 1) := by decide +kernel
theorem dX11_openCells_27 : decode cX11_openCells 27 = .ok (.iadd, 1) := by decide +kernel
theorem dX11_openCells_28 : decode cX11_openCells 28 = .ok (.istore_n 2, 1) := by decide +kernel
theorem dX11_openCells_29 : decode cX11_openCells 29 = .ok (.iinc 3 1, 3) := by decide +kernel
theorem dX11_openCells_32 : decode cX11_openCells 32 = .ok (.goto (-28), 3) := by decide +kernel
theorem dX11_openCells_35 : decode cX11_openCells 35 = .ok (.iload_n 2, 1) := by decide +kernel
theorem dX11_openCells_36 : decode cX11_openCells 36 = .ok (.ireturn, 1) := by decide +kernel
theorem dX11_mayTour_0 : decode cX11_mayTour 0 = .ok (.aload_n 0, 1) := by decide +kernel
theorem dX11_mayTour_1 : decode cX11_mayTour 1 = .ok (.iload_n 1, 1) := by decide +kernel
theorem dX11_mayTour_2 : decode cX11_mayTour 2 = .ok (.invokevirtual 111, 3) := by decide +kernel
theorem dX11_mayTour_5 : decode cX11_mayTour 5 = .ok (.ifCond .eq 10, 3) := by decide +kernel
theorem dX11_mayTour_8 : decode cX11_mayTour 8 = .ok (.iload_n 2, 1) := by decide +kernel
theorem dX11_mayTour_9 : decode cX11_mayTour 9 = .ok (.invokestatic 90, 3) := by decide +kernel
theorem dX11_mayTour_12 : decode cX11_mayTour 12 = .ok (.ifCond .ne 5, 3) := by decide +kernel
theorem dX11_mayTour_15 : decode cX11_mayTour 15 = .ok (.iconst (-1), 1) := by decide +kernel
theorem dX11_mayTour_16 : decode cX11_mayTour 16 = .ok (.ireturn, 1) := by decide +kernel
theorem dX11_mayTour_17 : decode cX11_mayTour 17 = .ok (.iload_n 3, 1) := by decide +kernel
theorem dX11_mayTour_18 : decode cX11_mayTour 18 = .ok (.i2l, 1) := by decide +kernel
theorem dX11_mayTour_19 : decode cX11_mayTour 19 = .ok (.lconst 0, 1) := by decide +kernel
theorem dX11_mayTour_20 : decode cX11_mayTour 20 = .ok (.ldc2_w 97, 3) := by decide +kernel
theorem dX11_mayTour_23 : decode cX11_mayTour 23 = .ok (.invokestatic 84, 3) := by decide +kernel
theorem dX11_mayTour_26 : decode cX11_mayTour 26 = .ok (.ifCond .ne 6, 3) := by decide +kernel
theorem dX11_mayTour_29 : decode cX11_mayTour 29 = .ok (.bipush (-2), 2) := by decide +kernel
theorem dX11_mayTour_31 : decode cX11_mayTour 31 = .ok (.ireturn, 1) := by decide +kernel
theorem dX11_mayTour_32 : decode cX11_mayTour 32 = .ok (.aload_n 0, 1) := by decide +kernel
theorem dX11_mayTour_33 : decode cX11_mayTour 33 = .ok (.aload_n 0, 1) := by decide +kernel
theorem dX11_mayTour_34 : decode cX11_mayTour 34 = .ok (.getfield 108, 3) := by decide +kernel
theorem dX11_mayTour_37 : decode cX11_mayTour 37 = .ok (.invokevirtual 156, 3) := by decide +kernel
theorem dX11_mayTour_40 : decode cX11_mayTour 40 = .ok (.bipush 16, 2) := by decide +kernel
theorem dX11_mayTour_42 : decode cX11_mayTour 42 = .ok (.if_icmp .gt 15, 3) := by decide +kernel
theorem dX11_mayTour_45 : decode cX11_mayTour 45 = .ok (.aload_n 0, 1) := by decide +kernel
theorem dX11_mayTour_46 : decode cX11_mayTour 46 = .ok (.iload_n 1, 1) := by decide +kernel
theorem dX11_mayTour_47 : decode cX11_mayTour 47 = .ok (.aload_n 0, 1) := by decide +kernel
theorem dX11_mayTour_48 : decode cX11_mayTour 48 = .ok (.getfield 108, 3) := by decide +kernel
theorem dX11_mayTour_51 : decode cX11_mayTour 51 = .ok (.invokevirtual 116, 3) := by decide +kernel
theorem dX11_mayTour_54 : decode cX11_mayTour 54 = .ok (.ifCond .ne 8, 3) := by decide +kernel
theorem dX11_mayTour_57 : decode cX11_mayTour 57 = .ok (.bipush (-3), 2) := by decide +kernel
theorem dX11_mayTour_59 : decode cX11_mayTour 59 = .ok (.goto 4, 3) := by decide +kernel
theorem dX11_mayTour_62 : decode cX11_mayTour 62 = .ok (.iconst 0, 1) := by decide +kernel
theorem dX11_mayTour_63 : decode cX11_mayTour 63 = .ok (.ireturn, 1) := by decide +kernel
theorem dX11_layTours_0 : decode cX11_layTours 0 = .ok (.aload_n 0, 1) := by decide +kernel
theorem dX11_layTours_1 : decode cX11_layTours 1 = .ok (.iconst 0, 1) := by decide +kernel
theorem dX11_layTours_2 : decode cX11_layTours 2 = .ok (.putfield 159, 3) := by decide +kernel
theorem dX11_layTours_5 : decode cX11_layTours 5 = .ok (.aload_n 0, 1) := by decide +kernel
theorem dX11_layTours_6 : decode cX11_layTours 6 = .ok (.aload_n 0, 1) := by decide +kernel
theorem dX11_layTours_7 : decode cX11_layTours 7 = .ok (.aload_n 0, 1) := by decide +kernel
theorem dX11_layTours_8 : decode cX11_layTours 8 = .ok (.getfield 108, 3) := by decide +kernel
theorem dX11_layTours_11 : decode cX11_layTours 11 = .ok (.invokevirtual 156, 3) := by decide +kernel
theorem dX11_layTours_14 : decode cX11_layTours 14 = .ok (.iconst 1, 1) := by decide +kernel
theorem dX11_layTours_15 : decode cX11_layTours 15 = .ok (.isub, 1) := by decide +kernel
theorem dX11_layTours_16 : decode cX11_layTours 16 = .ok (.putfield 162, 3) := by decide +kernel
theorem dX11_layTours_19 : decode cX11_layTours 19 = .ok (.iconst 1, 1) := by decide +kernel
theorem dX11_layTours_20 : decode cX11_layTours 20 = .ok (.iload_n 1, 1) := by decide +kernel
theorem dX11_layTours_21 : decode cX11_layTours 21 = .ok (.bipush 24, 2) := by decide +kernel
theorem dX11_layTours_23 : decode cX11_layTours 23 = .ok (.idiv, 1) := by decide +kernel
theorem dX11_layTours_24 : decode cX11_layTours 24 = .ok (.ishl, 1) := by decide +kernel
theorem dX11_layTours_25 : decode cX11_layTours 25 = .ok (.istore_n 3, 1) := by decide +kernel
theorem dX11_layTours_26 : decode cX11_layTours 26 = .ok (.iconst 0, 1) := by decide +kernel
theorem dX11_layTours_27 : decode cX11_layTours 27 = .ok (.istore 4, 2) := by decide +kernel
theorem dX11_layTours_29 : decode cX11_layTours 29 = .ok (.aload_n 0, 1) := by decide +kernel
theorem dX11_layTours_30 : decode cX11_layTours 30 = .ok (.getfield 48, 3) := by decide +kernel
theorem dX11_layTours_33 : decode cX11_layTours 33 = .ok (.iconst 0, 1) := by decide +kernel
theorem dX11_layTours_34 : decode cX11_layTours 34 = .ok (.iload_n 1, 1) := by decide +kernel
theorem dX11_layTours_35 : decode cX11_layTours 35 = .ok (.iastore, 1) := by decide +kernel
theorem dX11_layTours_36 : decode cX11_layTours 36 = .ok (.aload_n 0, 1) := by decide +kernel
theorem dX11_layTours_37 : decode cX11_layTours 37 = .ok (.getfield 51, 3) := by decide +kernel
theorem dX11_layTours_40 : decode cX11_layTours 40 = .ok (.iconst 0, 1) := by decide +kernel
theorem dX11_layTours_41 : decode cX11_layTours 41 = .ok (.iconst (-1), 1) := by decide +kernel
theorem dX11_layTours_42 : decode cX11_layTours 42 = .ok (.iastore, 1) := by decide +kernel
theorem dX11_layTours_43 : decode cX11_layTours 43 = .ok (.iload 4, 2) := by decide +kernel
theorem dX11_layTours_45 : decode cX11_layTours 45 = .ok (.ifCond .lt 172, 3) := by decide +kernel
theorem dX11_layTours_48 : decode cX11_layTours 48 = .ok (.iload 4, 2) := by decide +kernel
theorem dX11_layTours_50 : decode cX11_layTours 50 = .ok (.aload_n 0, 1) := by decide +kernel
theorem dX11_layTours_51 : decode cX11_layTours 51 = .ok (.getfield 162, 3) := by decide +kernel
theorem dX11_layTours_54 : decode cX11_layTours 54 = .ok (.if_icmp .ne 21, 3) := by decide +kernel
theorem dX11_layTours_57 : decode cX11_layTours 57 = .ok (.aload_n 0, 1) := by decide +kernel
theorem dX11_layTours_58 : decode cX11_layTours 58 = .ok (.getfield 51, 3) := by decide +kernel
theorem dX11_layTours_61 : decode cX11_layTours 61 = .ok (.iload 4, 2) := by decide +kernel
theorem dX11_layTours_63 : decode cX11_layTours 63 = .ok (.iaload, 1) := by decide +kernel
theorem dX11_layTours_64 : decode cX11_layTours 64 = .ok (.iconst (-1), 1) := by decide +kernel
theorem dX11_layTours_65 : decode cX11_layTours 65 = .ok (.if_icmp .ne 10, 3) := by decide +kernel
theorem dX11_layTours_68 : decode cX11_layTours 68 = .ok (.aload_n 0, 1) := by decide +kernel
theorem dX11_layTours_69 : decode cX11_layTours 69 = .ok (.iload 4, 2) := by decide +kernel
theorem dX11_layTours_71 : decode cX11_layTours 71 = .ok (.iload_n 2, 1) := by decide +kernel
theorem dX11_layTours_72 : decode cX11_layTours 72 = .ok (.invokevirtual 165, 3) := by decide +kernel
theorem dX11_layTours_75 : decode cX11_layTours 75 = .ok (.aload_n 0, 1) := by decide +kernel
theorem dX11_layTours_76 : decode cX11_layTours 76 = .ok (.getfield 51, 3) := by decide +kernel
theorem dX11_layTours_79 : decode cX11_layTours 79 = .ok (.iload 4, 2) := by decide +kernel
theorem dX11_layTours_81 : decode cX11_layTours 81 = .ok (.dup2, 1) := by decide +kernel
theorem dX11_layTours_82 : decode cX11_layTours 82 = .ok (.iaload, 1) := by decide +kernel
theorem dX11_layTours_83 : decode cX11_layTours 83 = .ok (.iconst 1, 1) := by decide +kernel
theorem dX11_layTours_84 : decode cX11_layTours 84 = .ok (.iadd, 1) := by decide +kernel
theorem dX11_layTours_85 : decode cX11_layTours 85 = .ok (.iastore, 1) := by decide +kernel
theorem dX11_layTours_86 : decode cX11_layTours 86 = .ok (.aload_n 0, 1) := by decide +kernel
theorem dX11_layTours_87 : decode cX11_layTours 87 = .ok (.getfield 51, 3) := by decide +kernel
theorem dX11_layTours_90 : decode cX11_layTours 90 = .ok (.iload 4, 2) := by decide +kernel
theorem dX11_layTours_92 : decode cX11_layTours 92 = .ok (.iaload, 1) := by decide +kernel
theorem dX11_layTours_93 : decode cX11_layTours 93 = .ok (.iconst 3, 1) := by decide +kernel
theorem dX11_layTours_94 : decode cX11_layTours 94 = .ok (.if_icmp .le 8, 3) := by decide +kernel
theorem dX11_layTours_97 : decode cX11_layTours 97 = .ok (.bipush (-9), 2) := by decide +kernel
theorem dX11_layTours_99 : decode cX11_layTours 99 = .ok (.goto 21, 3) := by decide +kernel
theorem dX11_layTours_102 : decode cX11_layTours 102 = .ok (.aload_n 0, 1) := by decide +kernel
theorem dX11_layTours_103 : decode cX11_layTours 103 = .ok (.aload_n 0, 1) := by decide +kernel
theorem dX11_layTours_104 : decode cX11_layTours 104 = .ok (.getfield 48, 3) := by decide +kernel
theorem dX11_layTours_107 : decode cX11_layTours 107 = .ok (.iload 4, 2) := by decide +kernel
theorem dX11_layTours_109 : decode cX11_layTours 109 = .ok (.iaload, 1) := by decide +kernel
theorem dX11_layTours_110 : decode cX11_layTours 110 = .ok (.aload_n 0, 1) := by decide +kernel
theorem dX11_layTours_111 : decode cX11_layTours 111 = .ok (.getfield 51, 3) := by decide +kernel
theorem dX11_layTours_114 : decode cX11_layTours 114 = .ok (.iload 4, 2) := by decide +kernel
theorem dX11_layTours_116 : decode cX11_layTours 116 = .ok (.iaload, 1) := by decide +kernel
theorem dX11_layTours_117 : decode cX11_layTours 117 = .ok (.invokevirtual 123, 3) := by decide +kernel
theorem dX11_layTours_120 : decode cX11_layTours 120 = .ok (.istore 5, 2) := by decide +kernel
theorem dX11_layTours_122 : decode cX11_layTours 122 = .ok (.aload_n 0, 1) := by decide +kernel
theorem dX11_layTours_123 : decode cX11_layTours 123 = .ok (.getfield 51, 3) := by decide +kernel
theorem dX11_layTours_126 : decode cX11_layTours 126 = .ok (.iload 4, 2) := by decide +kernel
theorem dX11_layTours_128 : decode cX11_layTours 128 = .ok (.iaload, 1) := by decide +kernel
theorem dX11_layTours_129 : decode cX11_layTours 129 = .ok (.iconst 3, 1) := by decide +kernel
theorem dX11_layTours_130 : decode cX11_layTours 130 = .ok (.if_icmp .gt 12, 3) := by decide +kernel
theorem dX11_layTours_133 : decode cX11_layTours 133 = .ok (.iload 4, 2) := by decide +kernel
theorem dX11_layTours_135 : decode cX11_layTours 135 = .ok (.aload_n 0, 1) := by decide +kernel
theorem dX11_layTours_136 : decode cX11_layTours 136 = .ok (.getfield 162, 3) := by decide +kernel
theorem dX11_layTours_139 : decode cX11_layTours 139 = .ok (.if_icmp .ne 26, 3) := by decide +kernel
theorem dX11_layTours_142 : decode cX11_layTours 142 = .ok (.iload_n 3, 1) := by decide +kernel
theorem dX11_layTours_143 : decode cX11_layTours 143 = .ok (.iconst 1, 1) := by decide +kernel
theorem dX11_layTours_144 : decode cX11_layTours 144 = .ok (.aload_n 0, 1) := by decide +kernel
theorem dX11_layTours_145 : decode cX11_layTours 145 = .ok (.getfield 48, 3) := by decide +kernel
theorem dX11_layTours_148 : decode cX11_layTours 148 = .ok (.iload 4, 2) := by decide +kernel
theorem dX11_layTours_150 : decode cX11_layTours 150 = .ok (.iaload, 1) := by decide +kernel
theorem dX11_layTours_151 : decode cX11_layTours 151 = .ok (.bipush 24, 2) := by decide +kernel
theorem dX11_layTours_153 : decode cX11_layTours 153 = .ok (.idiv, 1) := by decide +kernel
theorem dX11_layTours_154 : decode cX11_layTours 154 = .ok (.ishl, 1) := by decide +kernel
theorem dX11_layTours_155 : decode cX11_layTours 155 = .ok (.iconst (-1), 1) := by decide +kernel
theorem dX11_layTours_156 : decode cX11_layTours 156 = .ok (.ixor, 1) := by decide +kernel
theorem dX11_layTours_157 : decode cX11_layTours 157 = .ok (.iand, 1) := by decide +kernel
theorem dX11_layTours_158 : decode cX11_layTours 158 = .ok (.istore_n 3, 1) := by decide +kernel
theorem dX11_layTours_159 : decode cX11_layTours 159 = .ok (.iinc 4 (-1), 3) := by decide +kernel
theorem dX11_layTours_162 : decode cX11_layTours 162 = .ok (.goto 52, 3) := by decide +kernel
theorem dX11_layTours_165 : decode cX11_layTours 165 = .ok (.iload 5, 2) := by decide +kernel
theorem dX11_layTours_167 : decode cX11_layTours 167 = .ok (.bipush (-9), 2) := by decide +kernel
theorem dX11_layTours_169 : decode cX11_layTours 169 = .ok (.if_icmp .eq 45, 3) := by decide +kernel
theorem dX11_layTours_172 : decode cX11_layTours 172 = .ok (.iload_n 3, 1) := by decide +kernel
theorem dX11_layTours_173 : decode cX11_layTours 173 = .ok (.iload 5, 2) := by decide +kernel
theorem dX11_layTours_175 : decode cX11_layTours 175 = .ok (.bipush 24, 2) := by decide +kernel
theorem dX11_layTours_177 : decode cX11_layTours 177 = .ok (.idiv, 1) := by decide +kernel
theorem dX11_layTours_178 : decode cX11_layTours 178 = .ok (.ishr, 1) := by decide +kernel
theorem dX11_layTours_179 : decode cX11_layTours 179 = .ok (.iconst 1, 1) := by decide +kernel
theorem dX11_layTours_180 : decode cX11_layTours 180 = .ok (.iand, 1) := by decide +kernel
theorem dX11_layTours_181 : decode cX11_layTours 181 = .ok (.ifCond .ne 33, 3) := by decide +kernel
theorem dX11_layTours_184 : decode cX11_layTours 184 = .ok (.iinc 4 1, 3) := by decide +kernel
theorem dX11_layTours_187 : decode cX11_layTours 187 = .ok (.aload_n 0, 1) := by decide +kernel
theorem dX11_layTours_188 : decode cX11_layTours 188 = .ok (.getfield 48, 3) := by decide +kernel
theorem dX11_layTours_191 : decode cX11_layTours 191 = .ok (.iload 4, 2) := by decide +kernel
theorem dX11_layTours_193 : decode cX11_layTours 193 = .ok (.iload 5, 2) := by decide +kernel
theorem dX11_layTours_195 : decode cX11_layTours 195 = .ok (.iastore, 1) := by decide +kernel
theorem dX11_layTours_196 : decode cX11_layTours 196 = .ok (.aload_n 0, 1) := by decide +kernel
theorem dX11_layTours_197 : decode cX11_layTours 197 = .ok (.getfield 51, 3) := by decide +kernel
theorem dX11_layTours_200 : decode cX11_layTours 200 = .ok (.iload 4, 2) := by decide +kernel
theorem dX11_layTours_202 : decode cX11_layTours 202 = .ok (.iconst (-1), 1) := by decide +kernel
theorem dX11_layTours_203 : decode cX11_layTours 203 = .ok (.iastore, 1) := by decide +kernel
theorem dX11_layTours_204 : decode cX11_layTours 204 = .ok (.iload_n 3, 1) := by decide +kernel
theorem dX11_layTours_205 : decode cX11_layTours 205 = .ok (.iconst 1, 1) := by decide +kernel
theorem dX11_layTours_206 : decode cX11_layTours 206 = .ok (.iload 5, 2) := by decide +kernel
theorem dX11_layTours_208 : decode cX11_layTours 208 = .ok (.bipush 24, 2) := by decide +kernel
theorem dX11_layTours_210 : decode cX11_layTours 210 = .ok (.idiv, 1) := by decide +kernel
theorem dX11_layTours_211 : decode cX11_layTours 211 = .ok (.ishl, 1) := by decide +kernel
theorem dX11_layTours_212 : decode cX11_layTours 212 = .ok (.ior, 1) := by decide +kernel
theorem dX11_layTours_213 : decode cX11_layTours 213 = .ok (.istore_n 3, 1) := by decide +kernel
theorem dX11_layTours_214 : decode cX11_layTours 214 = .ok (.goto (-171), 3) := by decide +kernel
theorem dX11_layTours_217 : decode cX11_layTours 217 = .ok (.return_, 1) := by decide +kernel
theorem dX11_endTour_0 : decode cX11_endTour 0 = .ok (.iload_n 2, 1) := by decide +kernel
theorem dX11_endTour_1 : decode cX11_endTour 1 = .ok (.ifCond .le 22, 3) := by decide +kernel
theorem dX11_endTour_4 : decode cX11_endTour 4 = .ok (.aload_n 0, 1) := by decide +kernel
theorem dX11_endTour_5 : decode cX11_endTour 5 = .ok (.getfield 7, 3) := by decide +kernel
theorem dX11_endTour_8 : decode cX11_endTour 8 = .ok (.aload_n 0, 1) := by decide +kernel
theorem dX11_endTour_9 : decode cX11_endTour 9 = .ok (.getfield 48, 3) := by decide +kernel
theorem dX11_endTour_12 : decode cX11_endTour 12 = .ok (.iload_n 1, 1) := by decide +kernel
theorem dX11_endTour_13 : decode cX11_endTour 13 = .ok (.iaload, 1) := by decide +kernel
theorem dX11_endTour_14 : decode cX11_endTour 14 = .ok (.bipush 24, 2) := by decide +kernel
theorem dX11_endTour_16 : decode cX11_endTour 16 = .ok (.irem, 1) := by decide +kernel
theorem dX11_endTour_17 : decode cX11_endTour 17 = .ok (.iaload, 1) := by decide +kernel
theorem dX11_endTour_18 : decode cX11_endTour 18 = .ok (.iload_n 2, 1) := by decide +kernel
theorem dX11_endTour_19 : decode cX11_endTour 19 = .ok (.if_icmp .eq 4, 3) := by decide +kernel
theorem dX11_endTour_22 : decode cX11_endTour 22 = .ok (.return_, 1) := by decide +kernel
theorem dX11_endTour_23 : decode cX11_endTour 23 = .ok (.iconst 0, 1) := by decide +kernel
theorem dX11_endTour_24 : decode cX11_endTour 24 = .ok (.istore_n 3, 1) := by decide +kernel
theorem dX11_endTour_25 : decode cX11_endTour 25 = .ok (.iload_n 3, 1) := by decide +kernel
theorem dX11_endTour_26 : decode cX11_endTour 26 = .ok (.iload_n 1, 1) := by decide +kernel
theorem dX11_endTour_27 : decode cX11_endTour 27 = .ok (.if_icmp .ge 28, 3) := by decide +kernel
theorem dX11_endTour_30 : decode cX11_endTour 30 = .ok (.aload_n 0, 1) := by decide +kernel
theorem dX11_endTour_31 : decode cX11_endTour 31 = .ok (.getfield 159, 3) := by decide +kernel
theorem dX11_endTour_34 : decode cX11_endTour 34 = .ok (.ifCond .ne 21, 3) := by decide +kernel
theorem dX11_endTour_37 : decode cX11_endTour 37 = .ok (.aload_n 0, 1) := by decide +kernel
theorem dX11_endTour_38 : decode cX11_endTour 38 = .ok (.getfield 54, 3) := by decide +kernel
theorem dX11_endTour_41 : decode cX11_endTour 41 = .ok (.iload_n 3, 1) := by decide +kernel
theorem dX11_endTour_42 : decode cX11_endTour 42 = .ok (.aload_n 0, 1) := by decide +kernel
theorem dX11_endTour_43 : decode cX11_endTour 43 = .ok (.getfield 51, 3) := by decide +kernel
theorem dX11_endTour_46 : decode cX11_endTour 46 = .ok (.iload_n 3, 1) := by decide +kernel
theorem dX11_endTour_47 : decode cX11_endTour 47 = .ok (.iaload, 1) := by decide +kernel
theorem dX11_endTour_48 : decode cX11_endTour 48 = .ok (.iastore, 1) := by decide +kernel
theorem dX11_endTour_49 : decode cX11_endTour 49 = .ok (.iinc 3 1, 3) := by decide +kernel
theorem dX11_endTour_52 : decode cX11_endTour 52 = .ok (.goto (-27), 3) := by decide +kernel
theorem dX11_endTour_55 : decode cX11_endTour 55 = .ok (.aload_n 0, 1) := by decide +kernel
theorem dX11_endTour_56 : decode cX11_endTour 56 = .ok (.dup, 1) := by decide +kernel
theorem dX11_endTour_57 : decode cX11_endTour 57 = .ok (.getfield 159, 3) := by decide +kernel
theorem dX11_endTour_60 : decode cX11_endTour 60 = .ok (.iconst 1, 1) := by decide +kernel
theorem dX11_endTour_61 : decode cX11_endTour 61 = .ok (.iadd, 1) := by decide +kernel
theorem dX11_endTour_62 : decode cX11_endTour 62 = .ok (.putfield 159, 3) := by decide +kernel
theorem dX11_endTour_65 : decode cX11_endTour 65 = .ok (.return_, 1) := by decide +kernel
theorem dX11_tours_0 : decode cX11_tours 0 = .ok (.aload_n 0, 1) := by decide +kernel
theorem dX11_tours_1 : decode cX11_tours 1 = .ok (.iload_n 1, 1) := by decide +kernel
theorem dX11_tours_2 : decode cX11_tours 2 = .ok (.iload_n 2, 1) := by decide +kernel
theorem dX11_tours_3 : decode cX11_tours 3 = .ok (.iload_n 3, 1) := by decide +kernel
theorem dX11_tours_4 : decode cX11_tours 4 = .ok (.invokevirtual 168, 3) := by decide +kernel
theorem dX11_tours_7 : decode cX11_tours 7 = .ok (.istore 4, 2) := by decide +kernel
theorem dX11_tours_9 : decode cX11_tours 9 = .ok (.iload 4, 2) := by decide +kernel
theorem dX11_tours_11 : decode cX11_tours 11 = .ok (.ifCond .ge 6, 3) := by decide +kernel
theorem dX11_tours_14 : decode cX11_tours 14 = .ok (.iload 4, 2) := by decide +kernel
theorem dX11_tours_16 : decode cX11_tours 16 = .ok (.ireturn, 1) := by decide +kernel
theorem dX11_tours_17 : decode cX11_tours 17 = .ok (.aload_n 0, 1) := by decide +kernel
theorem dX11_tours_18 : decode cX11_tours 18 = .ok (.bipush 24, 2) := by decide +kernel
theorem dX11_tours_20 : decode cX11_tours 20 = .ok (.iload_n 1, 1) := by decide +kernel
theorem dX11_tours_21 : decode cX11_tours 21 = .ok (.imul, 1) := by decide +kernel
theorem dX11_tours_22 : decode cX11_tours 22 = .ok (.iload_n 2, 1) := by decide +kernel
theorem dX11_tours_23 : decode cX11_tours 23 = .ok (.iadd, 1) := by decide +kernel
theorem dX11_tours_24 : decode cX11_tours 24 = .ok (.iload_n 3, 1) := by decide +kernel
theorem dX11_tours_25 : decode cX11_tours 25 = .ok (.invokevirtual 172, 3) := by decide +kernel
theorem dX11_tours_28 : decode cX11_tours 28 = .ok (.aload_n 0, 1) := by decide +kernel
theorem dX11_tours_29 : decode cX11_tours 29 = .ok (.getfield 159, 3) := by decide +kernel
theorem dX11_tours_32 : decode cX11_tours 32 = .ok (.ireturn, 1) := by decide +kernel
theorem dX11_tour_0 : decode cX11_tour 0 = .ok (.aload_n 0, 1) := by decide +kernel
theorem dX11_tour_1 : decode cX11_tour 1 = .ok (.iload_n 1, 1) := by decide +kernel
theorem dX11_tour_2 : decode cX11_tour 2 = .ok (.iload_n 2, 1) := by decide +kernel
theorem dX11_tour_3 : decode cX11_tour 3 = .ok (.iload_n 3, 1) := by decide +kernel
theorem dX11_tour_4 : decode cX11_tour 4 = .ok (.invokevirtual 168, 3) := by decide +kernel
theorem dX11_tour_7 : decode cX11_tour 7 = .ok (.istore 5, 2) := by decide +kernel
theorem dX11_tour_9 : decode cX11_tour 9 = .ok (.iload 5, 2) := by decide +kernel
theorem dX11_tour_11 : decode cX11_tour 11 = .ok (.ifCond .ge 6, 3) := by decide +kernel
theorem dX11_tour_14 : decode cX11_tour 14 = .ok (.iload 5, 2) := by decide +kernel
theorem dX11_tour_16 : decode cX11_tour 16 = .ok (.ireturn, 1) := by decide +kernel
theorem dX11_tour_17 : decode cX11_tour 17 = .ok (.aload_n 0, 1) := by decide +kernel
theorem dX11_tour_18 : decode cX11_tour 18 = .ok (.bipush 24, 2) := by decide +kernel
theorem dX11_tour_20 : decode cX11_tour 20 = .ok (.iload_n 1, 1) := by decide +kernel
theorem dX11_tour_21 : decode cX11_tour 21 = .ok (.imul, 1) := by decide +kernel
theorem dX11_tour_22 : decode cX11_tour 22 = .ok (.iload_n 2, 1) := by decide +kernel
theorem dX11_tour_23 : decode cX11_tour 23 = .ok (.iadd, 1) := by decide +kernel
theorem dX11_tour_24 : decode cX11_tour 24 = .ok (.iload_n 3, 1) := by decide +kernel
theorem dX11_tour_25 : decode cX11_tour 25 = .ok (.invokevirtual 172, 3) := by decide +kernel
theorem dX11_tour_28 : decode cX11_tour 28 = .ok (.aload_n 0, 1) := by decide +kernel
theorem dX11_tour_29 : decode cX11_tour 29 = .ok (.getfield 159, 3) := by decide +kernel
theorem dX11_tour_32 : decode cX11_tour 32 = .ok (.ifCond .le 30, 3) := by decide +kernel
theorem dX11_tour_35 : decode cX11_tour 35 = .ok (.iload 4, 2) := by decide +kernel
theorem dX11_tour_37 : decode cX11_tour 37 = .ok (.i2l, 1) := by decide +kernel
theorem dX11_tour_38 : decode cX11_tour 38 = .ok (.lconst 0, 1) := by decide +kernel
theorem dX11_tour_39 : decode cX11_tour 39 = .ok (.aload_n 0, 1) := by decide +kernel
theorem dX11_tour_40 : decode cX11_tour 40 = .ok (.getfield 162, 3) := by decide +kernel
theorem dX11_tour_43 : decode cX11_tour 43 = .ok (.iconst 1, 1) := by decide +kernel
theorem dX11_tour_44 : decode cX11_tour 44 = .ok (.isub, 1) := by decide +kernel
theorem dX11_tour_45 : decode cX11_tour 45 = .ok (.i2l, 1) := by decide +kernel
theorem dX11_tour_46 : decode cX11_tour 46 = .ok (.invokestatic 84, 3) := by decide +kernel
theorem dX11_tour_49 : decode cX11_tour 49 = .ok (.ifCond .eq 13, 3) := by decide +kernel
theorem dX11_tour_52 : decode cX11_tour 52 = .ok (.aload_n 0, 1) := by decide +kernel
theorem dX11_tour_53 : decode cX11_tour 53 = .ok (.getfield 54, 3) := by decide +kernel
theorem dX11_tour_56 : decode cX11_tour 56 = .ok (.iload 4, 2) := by decide +kernel
theorem dX11_tour_58 : decode cX11_tour 58 = .ok (.iaload, 1) := by decide +kernel
theorem dX11_tour_59 : decode cX11_tour 59 = .ok (.goto 5, 3) := by decide +kernel
theorem dX11_tour_62 : decode cX11_tour 62 = .ok (.bipush (-9), 2) := by decide +kernel
theorem dX11_tour_64 : decode cX11_tour 64 = .ok (.ireturn, 1) := by decide +kernel
theorem dX11_row_0 : decode cX11_row 0 = .ok (.iload_n 1, 1) := by decide +kernel
theorem dX11_row_1 : decode cX11_row 1 = .ok (.invokestatic 94, 3) := by decide +kernel
theorem dX11_row_4 : decode cX11_row 4 = .ok (.ifCond .eq 15, 3) := by decide +kernel
theorem dX11_row_7 : decode cX11_row 7 = .ok (.iload_n 2, 1) := by decide +kernel
theorem dX11_row_8 : decode cX11_row 8 = .ok (.i2l, 1) := by decide +kernel
theorem dX11_row_9 : decode cX11_row 9 = .ok (.lconst 0, 1) := by decide +kernel
theorem dX11_row_10 : decode cX11_row 10 = .ok (.ldc2_w 97, 3) := by decide +kernel
theorem dX11_row_13 : decode cX11_row 13 = .ok (.invokestatic 84, 3) := by decide +kernel
theorem dX11_row_16 : decode cX11_row 16 = .ok (.ifCond .ne 6, 3) := by decide +kernel
theorem dX11_row_19 : decode cX11_row 19 = .ok (.bipush (-2), 2) := by decide +kernel
theorem dX11_row_21 : decode cX11_row 21 = .ok (.ireturn, 1) := by decide +kernel
theorem dX11_row_22 : decode cX11_row 22 = .ok (.aload_n 0, 1) := by decide +kernel
theorem dX11_row_23 : decode cX11_row 23 = .ok (.getfield 175, 3) := by decide +kernel
theorem dX11_row_26 : decode cX11_row 26 = .ok (.bipush 20, 2) := by decide +kernel
theorem dX11_row_28 : decode cX11_row 28 = .ok (.if_icmp .ne 6, 3) := by decide +kernel
theorem dX11_row_31 : decode cX11_row 31 = .ok (.bipush (-4), 2) := by decide +kernel
theorem dX11_row_33 : decode cX11_row 33 = .ok (.ireturn, 1) := by decide +kernel
theorem dX11_row_34 : decode cX11_row 34 = .ok (.aload_n 0, 1) := by decide +kernel
theorem dX11_row_35 : decode cX11_row 35 = .ok (.getfield 57, 3) := by decide +kernel
theorem dX11_row_38 : decode cX11_row 38 = .ok (.aload_n 0, 1) := by decide +kernel
theorem dX11_row_39 : decode cX11_row 39 = .ok (.getfield 175, 3) := by decide +kernel
theorem dX11_row_42 : decode cX11_row 42 = .ok (.iload_n 1, 1) := by decide +kernel
theorem dX11_row_43 : decode cX11_row 43 = .ok (.iastore, 1) := by decide +kernel
theorem dX11_row_44 : decode cX11_row 44 = .ok (.aload_n 0, 1) := by decide +kernel
theorem dX11_row_45 : decode cX11_row 45 = .ok (.getfield 60, 3) := by decide +kernel
theorem dX11_row_48 : decode cX11_row 48 = .ok (.aload_n 0, 1) := by decide +kernel
theorem dX11_row_49 : decode cX11_row 49 = .ok (.getfield 175, 3) := by decide +kernel
theorem dX11_row_52 : decode cX11_row 52 = .ok (.iload_n 2, 1) := by decide +kernel
theorem dX11_row_53 : decode cX11_row 53 = .ok (.iastore, 1) := by decide +kernel
theorem dX11_row_54 : decode cX11_row 54 = .ok (.aload_n 0, 1) := by decide +kernel
theorem dX11_row_55 : decode cX11_row 55 = .ok (.dup, 1) := by decide +kernel
theorem dX11_row_56 : decode cX11_row 56 = .ok (.getfield 175, 3) := by decide +kernel
theorem dX11_row_59 : decode cX11_row 59 = .ok (.iconst 1, 1) := by decide +kernel
theorem dX11_row_60 : decode cX11_row 60 = .ok (.iadd, 1) := by decide +kernel
theorem dX11_row_61 : decode cX11_row 61 = .ok (.putfield 175, 3) := by decide +kernel
theorem dX11_row_64 : decode cX11_row 64 = .ok (.aload_n 0, 1) := by decide +kernel
theorem dX11_row_65 : decode cX11_row 65 = .ok (.getfield 175, 3) := by decide +kernel
theorem dX11_row_68 : decode cX11_row 68 = .ok (.ireturn, 1) := by decide +kernel
theorem dX11_clear_0 : decode cX11_clear 0 = .ok (.aload_n 0, 1) := by decide +kernel
theorem dX11_clear_1 : decode cX11_clear 1 = .ok (.getfield 175, 3) := by decide +kernel
theorem dX11_clear_4 : decode cX11_clear 4 = .ok (.istore_n 1, 1) := by decide +kernel
theorem dX11_clear_5 : decode cX11_clear 5 = .ok (.aload_n 0, 1) := by decide +kernel
theorem dX11_clear_6 : decode cX11_clear 6 = .ok (.iconst 0, 1) := by decide +kernel
theorem dX11_clear_7 : decode cX11_clear 7 = .ok (.putfield 175, 3) := by decide +kernel
theorem dX11_clear_10 : decode cX11_clear 10 = .ok (.iload_n 1, 1) := by decide +kernel
theorem dX11_clear_11 : decode cX11_clear 11 = .ok (.ireturn, 1) := by decide +kernel
theorem dX11_behind_0 : decode cX11_behind 0 = .ok (.iload_n 1, 1) := by decide +kernel
theorem dX11_behind_1 : decode cX11_behind 1 = .ok (.istore_n 2, 1) := by decide +kernel
theorem dX11_behind_2 : decode cX11_behind 2 = .ok (.iconst 0, 1) := by decide +kernel
theorem dX11_behind_3 : decode cX11_behind 3 = .ok (.istore_n 3, 1) := by decide +kernel
theorem dX11_behind_4 : decode cX11_behind 4 = .ok (.iload_n 3, 1) := by decide +kernel
theorem dX11_behind_5 : decode cX11_behind 5 = .ok (.aload_n 0, 1) := by decide +kernel
theorem dX11_behind_6 : decode cX11_behind 6 = .ok (.getfield 175, 3) := by decide +kernel
theorem dX11_behind_9 : decode cX11_behind 9 = .ok (.if_icmp .ge 63, 3) := by decide +kernel
theorem dX11_behind_12 : decode cX11_behind 12 = .ok (.iload_n 2, 1) := by decide +kernel
theorem dX11_behind_13 : decode cX11_behind 13 = .ok (.bipush (-9), 2) := by decide +kernel
theorem dX11_behind_15 : decode cX11_behind 15 = .ok (.if_icmp .eq 57, 3) := by decide +kernel
theorem dX11_behind_18 : decode cX11_behind 18 = .ok (.aload_n 0, 1) := by decide +kernel
theorem dX11_behind_19 : decode cX11_behind 19 = .ok (.iload_n 2, 1) := by decide +kernel
theorem dX11_behind_20 : decode cX11_behind 20 = .ok (.aload_n 0, 1) := by decide +kernel
theorem dX11_behind_21 : decode cX11_behind 21 = .ok (.getfield 57, 3) := by decide +kernel
theorem dX11_behind_24 : decode cX11_behind 24 = .ok (.iload_n 3, 1) := by decide +kernel
theorem dX11_behind_25 : decode cX11_behind 25 = .ok (.iaload, 1) := by decide +kernel
theorem dX11_behind_26 : decode cX11_behind 26 = .ok (.invokevirtual 123, 3) := by decide +kernel
theorem dX11_behind_29 : decode cX11_behind 29 = .ok (.istore_n 2, 1) := by decide +kernel
theorem dX11_behind_30 : decode cX11_behind 30 = .ok (.iload_n 2, 1) := by decide +kernel
theorem dX11_behind_31 : decode cX11_behind 31 = .ok (.bipush (-9), 2) := by decide +kernel
theorem dX11_behind_33 : decode cX11_behind 33 = .ok (.if_icmp .eq 26, 3) := by decide +kernel
theorem dX11_behind_36 : decode cX11_behind 36 = .ok (.aload_n 0, 1) := by decide +kernel
theorem dX11_behind_37 : decode cX11_behind 37 = .ok (.getfield 60, 3) := by decide +kernel
theorem dX11_behind_40 : decode cX11_behind 40 = .ok (.iload_n 3, 1) := by decide +kernel
theorem dX11_behind_41 : decode cX11_behind 41 = .ok (.iaload, 1) := by decide +kernel
theorem dX11_behind_42 : decode cX11_behind 42 = .ok (.ifCond .eq 17, 3) := by decide +kernel
theorem dX11_behind_45 : decode cX11_behind 45 = .ok (.aload_n 0, 1) := by decide +kernel
theorem dX11_behind_46 : decode cX11_behind 46 = .ok (.getfield 60, 3) := by decide +kernel
theorem dX11_behind_49 : decode cX11_behind 49 = .ok (.iload_n 3, 1) := by decide +kernel
theorem dX11_behind_50 : decode cX11_behind 50 = .ok (.iaload, 1) := by decide +kernel
theorem dX11_behind_51 : decode cX11_behind 51 = .ok (.aload_n 0, 1) := by decide +kernel
theorem dX11_behind_52 : decode cX11_behind 52 = .ok (.iload_n 2, 1) := by decide +kernel
theorem dX11_behind_53 : decode cX11_behind 53 = .ok (.invokevirtual 152, 3) := by decide +kernel
theorem dX11_behind_56 : decode cX11_behind 56 = .ok (.if_icmp .ne 7, 3) := by decide +kernel
theorem dX11_behind_59 : decode cX11_behind 59 = .ok (.iload_n 2, 1) := by decide +kernel
theorem dX11_behind_60 : decode cX11_behind 60 = .ok (.goto 5, 3) := by decide +kernel
theorem dX11_behind_63 : decode cX11_behind 63 = .ok (.bipush (-9), 2) := by decide +kernel
theorem dX11_behind_65 : decode cX11_behind 65 = .ok (.istore_n 2, 1) := by decide +kernel
theorem dX11_behind_66 : decode cX11_behind 66 = .ok (.iinc 3 1, 3) := by decide +kernel
theorem dX11_behind_69 : decode cX11_behind 69 = .ok (.goto (-65), 3) := by decide +kernel
theorem dX11_behind_72 : decode cX11_behind 72 = .ok (.iload_n 2, 1) := by decide +kernel
theorem dX11_behind_73 : decode cX11_behind 73 = .ok (.ireturn, 1) := by decide +kernel
theorem dX11_starts_0 : decode cX11_starts 0 = .ok (.iconst 0, 1) := by decide +kernel
theorem dX11_starts_1 : decode cX11_starts 1 = .ok (.istore_n 1, 1) := by decide +kernel
theorem dX11_starts_2 : decode cX11_starts 2 = .ok (.iconst 0, 1) := by decide +kernel
theorem dX11_starts_3 : decode cX11_starts 3 = .ok (.istore_n 2, 1) := by decide +kernel
theorem dX11_starts_4 : decode cX11_starts 4 = .ok (.iload_n 2, 1) := by decide +kernel
theorem dX11_starts_5 : decode cX11_starts 5 = .ok (.bipush 24, 2) := by decide +kernel
theorem dX11_starts_7 : decode cX11_starts 7 = .ok (.aload_n 0, 1) := by decide +kernel
theorem dX11_starts_8 : decode cX11_starts 8 = .ok (.invokevirtual 100, 3) := by decide +kernel
theorem dX11_starts_11 : decode cX11_starts 11 = .ok (.imul, 1) := by decide +kernel
theorem dX11_starts_12 : decode cX11_starts 12 = .ok (.if_icmp .ge 27, 3) := by decide +kernel
theorem dX11_starts_15 : decode cX11_starts 15 = .ok (.iload_n 1, 1) := by decide +kernel
theorem dX11_starts_16 : decode cX11_starts 16 = .ok (.aload_n 0, 1) := by decide +kernel
theorem dX11_starts_17 : decode cX11_starts 17 = .ok (.iload_n 2, 1) := by decide +kernel
theorem dX11_starts_18 : decode cX11_starts 18 = .ok (.invokevirtual 178, 3) := by decide +kernel
theorem dX11_starts_21 : decode cX11_starts 21 = .ok (.bipush (-9), 2) := by decide +kernel
theorem dX11_starts_23 : decode cX11_starts 23 = .ok (.if_icmp .ne 7, 3) := by decide +kernel
theorem dX11_starts_26 : decode cX11_starts 26 = .ok (.iconst 0, 1) := by decide +kernel
theorem dX11_starts_27 : decode cX11_starts 27 = .ok (.goto 4, 3) := by decide +kernel
theorem dX11_starts_30 : decode cX11_starts 30 = .ok (.iconst 1, 1) := by decide +kernel
theorem dX11_starts_31 : decode cX11_starts 31 = .ok (.iadd, 1) := by decide +kernel
theorem dX11_starts_32 : decode cX11_starts 32 = .ok (.istore_n 1, 1) := by decide +kernel
theorem dX11_starts_33 : decode cX11_starts 33 = .ok (.iinc 2 1, 3) := by decide +kernel
theorem dX11_starts_36 : decode cX11_starts 36 = .ok (.goto (-32), 3) := by decide +kernel
theorem dX11_starts_39 : decode cX11_starts 39 = .ok (.iload_n 1, 1) := by decide +kernel
theorem dX11_starts_40 : decode cX11_starts 40 = .ok (.ireturn, 1) := by decide +kernel
theorem dX11_start_0 : decode cX11_start 0 = .ok (.iconst 0, 1) := by decide +kernel
theorem dX11_start_1 : decode cX11_start 1 = .ok (.istore_n 2, 1) := by decide +kernel
theorem dX11_start_2 : decode cX11_start 2 = .ok (.iconst 0, 1) := by decide +kernel
theorem dX11_start_3 : decode cX11_start 3 = .ok (.istore_n 3, 1) := by decide +kernel
theorem dX11_start_4 : decode cX11_start 4 = .ok (.iload_n 3, 1) := by decide +kernel
theorem dX11_start_5 : decode cX11_start 5 = .ok (.bipush 24, 2) := by decide +kernel
theorem dX11_start_7 : decode cX11_start 7 = .ok (.aload_n 0, 1) := by decide +kernel
theorem dX11_start_8 : decode cX11_start 8 = .ok (.invokevirtual 100, 3) := by decide +kernel
theorem dX11_start_11 : decode cX11_start 11 = .ok (.imul, 1) := by decide +kernel
theorem dX11_start_12 : decode cX11_start 12 = .ok (.if_icmp .ge 29, 3) := by decide +kernel
theorem dX11_start_15 : decode cX11_start 15 = .ok (.aload_n 0, 1) := by decide +kernel
theorem dX11_start_16 : decode cX11_start 16 = .ok (.iload_n 3, 1) := by decide +kernel
theorem dX11_start_17 : decode cX11_start 17 = .ok (.invokevirtual 178, 3) := by decide +kernel
theorem dX11_start_20 : decode cX11_start 20 = .ok (.bipush (-9), 2) := by decide +kernel
theorem dX11_start_22 : decode cX11_start 22 = .ok (.if_icmp .eq 13, 3) := by decide +kernel
theorem dX11_start_25 : decode cX11_start 25 = .ok (.iload_n 2, 1) := by decide +kernel
theorem dX11_start_26 : decode cX11_start 26 = .ok (.iload_n 1, 1) := by decide +kernel
theorem dX11_start_27 : decode cX11_start 27 = .ok (.if_icmp .ne 5, 3) := by decide +kernel
theorem dX11_start_30 : decode cX11_start 30 = .ok (.iload_n 3, 1) := by decide +kernel
theorem dX11_start_31 : decode cX11_start 31 = .ok (.ireturn, 1) := by decide +kernel
theorem dX11_start_32 : decode cX11_start 32 = .ok (.iinc 2 1, 3) := by decide +kernel
theorem dX11_start_35 : decode cX11_start 35 = .ok (.iinc 3 1, 3) := by decide +kernel
theorem dX11_start_38 : decode cX11_start 38 = .ok (.goto (-34), 3) := by decide +kernel
theorem dX11_start_41 : decode cX11_start 41 = .ok (.bipush (-9), 2) := by decide +kernel
theorem dX11_start_43 : decode cX11_start 43 = .ok (.ireturn, 1) := by decide +kernel
theorem dX11_sure_0 : decode cX11_sure 0 = .ok (.iload_n 1, 1) := by decide +kernel
theorem dX11_sure_1 : decode cX11_sure 1 = .ok (.i2l, 1) := by decide +kernel
theorem dX11_sure_2 : decode cX11_sure 2 = .ok (.lconst 0, 1) := by decide +kernel
theorem dX11_sure_3 : decode cX11_sure 3 = .ok (.ldc2_w 104, 3) := by decide +kernel
theorem dX11_sure_6 : decode cX11_sure 6 = .ok (.invokestatic 84, 3) := by decide +kernel
theorem dX11_sure_9 : decode cX11_sure 9 = .ok (.ifCond .ne 6, 3) := by decide +kernel
theorem dX11_sure_12 : decode cX11_sure 12 = .ok (.bipush (-2), 2) := by decide +kernel
theorem dX11_sure_14 : decode cX11_sure 14 = .ok (.ireturn, 1) := by decide +kernel
theorem dX11_sure_15 : decode cX11_sure 15 = .ok (.bipush (-9), 2) := by decide +kernel
theorem dX11_sure_17 : decode cX11_sure 17 = .ok (.istore_n 2, 1) := by decide +kernel
theorem dX11_sure_18 : decode cX11_sure 18 = .ok (.iconst 1, 1) := by decide +kernel
theorem dX11_sure_19 : decode cX11_sure 19 = .ok (.istore_n 3, 1) := by decide +kernel
theorem dX11_sure_20 : decode cX11_sure 20 = .ok (.iconst 0, 1) := by decide +kernel
theorem dX11_sure_21 : decode cX11_sure 21 = .ok (.istore 4, 2) := by decide +kernel
theorem dX11_sure_23 : decode cX11_sure 23 = .ok (.iload 4, 2) := by decide +kernel
theorem dX11_sure_25 : decode cX11_sure 25 = .ok (.bipush 24, 2) := by decide +kernel
theorem dX11_sure_27 : decode cX11_sure 27 = .ok (.aload_n 0, 1) := by decide +kernel
theorem dX11_sure_28 : decode cX11_sure 28 = .ok (.invokevirtual 100, 3) := by decide +kernel
theorem dX11_sure_31 : decode cX11_sure 31 = .ok (.imul, 1) := by decide +kernel
theorem dX11_sure_32 : decode cX11_sure 32 = .ok (.if_icmp .ge 86, 3) := by decide +kernel
theorem dX11_sure_35 : decode cX11_sure 35 = .ok (.aload_n 0, 1) := by decide +kernel
theorem dX11_sure_36 : decode cX11_sure 36 = .ok (.iload 4, 2) := by decide +kernel
theorem dX11_sure_38 : decode cX11_sure 38 = .ok (.invokevirtual 178, 3) := by decide +kernel
theorem dX11_sure_41 : decode cX11_sure 41 = .ok (.istore 5, 2) := by decide +kernel
theorem dX11_sure_43 : decode cX11_sure 43 = .ok (.iload 5, 2) := by decide +kernel
theorem dX11_sure_45 : decode cX11_sure 45 = .ok (.bipush (-9), 2) := by decide +kernel
theorem dX11_sure_47 : decode cX11_sure 47 = .ok (.if_icmp .eq 65, 3) := by decide +kernel
theorem dX11_sure_50 : decode cX11_sure 50 = .ok (.iload_n 1, 1) := by decide +kernel
theorem dX11_sure_51 : decode cX11_sure 51 = .ok (.ifCond .ne 11, 3) := by decide +kernel
theorem dX11_sure_54 : decode cX11_sure 54 = .ok (.iload 5, 2) := by decide +kernel
theorem dX11_sure_56 : decode cX11_sure 56 = .ok (.bipush 24, 2) := by decide +kernel
theorem dX11_sure_58 : decode cX11_sure 58 = .ok (.idiv, 1) := by decide +kernel
theorem dX11_sure_59 : decode cX11_sure 59 = .ok (.goto 26, 3) := by decide +kernel
theorem dX11_sure_62 : decode cX11_sure 62 = .ok (.iload_n 1, 1) := by decide +kernel
theorem dX11_sure_63 : decode cX11_sure 63 = .ok (.iconst 1, 1) := by decide +kernel
theorem dX11_sure_64 : decode cX11_sure 64 = .ok (.if_icmp .ne 16, 3) := by decide +kernel
theorem dX11_sure_67 : decode cX11_sure 67 = .ok (.aload_n 0, 1) := by decide +kernel
theorem dX11_sure_68 : decode cX11_sure 68 = .ok (.getfield 7, 3) := by decide +kernel
theorem dX11_sure_71 : decode cX11_sure 71 = .ok (.iload 5, 2) := by decide +kernel
theorem dX11_sure_73 : decode cX11_sure 73 = .ok (.bipush 24, 2) := by decide +kernel
theorem dX11_sure_75 : decode cX11_sure 75 = .ok (.irem, 1) := by decide +kernel
theorem dX11_sure_76 : decode cX11_sure 76 = .ok (.iaload, 1) := by decide +kernel
theorem dX11_sure_77 : decode cX11_sure 77 = .ok (.goto 8, 3) := by decide +kernel
theorem dX11_sure_80 : decode cX11_sure 80 = .ok (.iload 4, 2) := by decide +kernel
theorem dX11_sure_82 : decode cX11_sure 82 = .ok (.bipush 24, 2) := by decide +kernel
theorem dX11_sure_84 : decode cX11_sure 84 = .ok (.idiv, 1) := by decide +kernel
theorem dX11_sure_85 : decode cX11_sure 85 = .ok (.istore 6, 2) := by decide +kernel
theorem dX11_sure_87 : decode cX11_sure 87 = .ok (.iload_n 3, 1) := by decide +kernel
theorem dX11_sure_88 : decode cX11_sure 88 = .ok (.ifCond .eq 19, 3) := by decide +kernel
theorem dX11_sure_91 : decode cX11_sure 91 = .ok (.iload_n 2, 1) := by decide +kernel
theorem dX11_sure_92 : decode cX11_sure 92 = .ok (.bipush (-9), 2) := by decide +kernel
theorem dX11_sure_94 : decode cX11_sure 94 = .ok (.if_icmp .eq 9, 3) := by decide +kernel
theorem dX11_sure_97 : decode cX11_sure 97 = .ok (.iload_n 2, 1) := by decide +kernel
theorem dX11_sure_98 : decode cX11_sure 98 = .ok (.iload 6, 2) := by decide +kernel
theorem dX11_sure_100 : decode cX11_sure 100 = .ok (.if_icmp .ne 7, 3) := by decide +kernel
theorem dX11_sure_103 : decode cX11_sure 103 = .ok (.iconst 1, 1) := by decide +kernel
theorem dX11_sure_104 : decode cX11_sure 104 = .ok (.goto 4, 3) := by decide +kernel
theorem dX11_sure_107 : decode cX11_sure 107 = .ok (.iconst 0, 1) := by decide +kernel
theorem dX11_sure_108 : decode cX11_sure 108 = .ok (.istore_n 3, 1) := by decide +kernel
theorem dX11_sure_109 : decode cX11_sure 109 = .ok (.iload 6, 2) := by decide +kernel
theorem dX11_sure_111 : decode cX11_sure 111 = .ok (.istore_n 2, 1) := by decide +kernel
theorem dX11_sure_112 : decode cX11_sure 112 = .ok (.iinc 4 1, 3) := by decide +kernel
theorem dX11_sure_115 : decode cX11_sure 115 = .ok (.goto (-92), 3) := by decide +kernel
theorem dX11_sure_118 : decode cX11_sure 118 = .ok (.iload_n 3, 1) := by decide +kernel
theorem dX11_sure_119 : decode cX11_sure 119 = .ok (.ifCond .eq 7, 3) := by decide +kernel
theorem dX11_sure_122 : decode cX11_sure 122 = .ok (.iload_n 2, 1) := by decide +kernel
theorem dX11_sure_123 : decode cX11_sure 123 = .ok (.goto 5, 3) := by decide +kernel
theorem dX11_sure_126 : decode cX11_sure 126 = .ok (.bipush (-9), 2) := by decide +kernel
theorem dX11_sure_128 : decode cX11_sure 128 = .ok (.ireturn, 1) := by decide +kernel
theorem dX11_greatestBy_0 : decode cX11_greatestBy 0 = .ok (.iconst 0, 1) := by decide +kernel
theorem dX11_greatestBy_1 : decode cX11_greatestBy 1 = .ok (.istore_n 2, 1) := by decide +kernel
theorem dX11_greatestBy_2 : decode cX11_greatestBy 2 = .ok (.iload_n 2, 1) := by decide +kernel
theorem dX11_greatestBy_3 : decode cX11_greatestBy 3 = .ok (.bipush 7, 2) := by decide +kernel
theorem dX11_greatestBy_5 : decode cX11_greatestBy 5 = .ok (.if_icmp .ge 16, 3) := by decide +kernel
theorem dX11_greatestBy_8 : decode cX11_greatestBy 8 = .ok (.aload_n 0, 1) := by decide +kernel
theorem dX11_greatestBy_9 : decode cX11_greatestBy 9 = .ok (.getfield 63, 3) := by decide +kernel
theorem dX11_greatestBy_12 : decode cX11_greatestBy 12 = .ok (.iload_n 2, 1) := by decide +kernel
theorem dX11_greatestBy_13 : decode cX11_greatestBy 13 = .ok (.iconst 0, 1) := by decide +kernel
theorem dX11_greatestBy_14 : decode cX11_greatestBy 14 = .ok (.iastore, 1) := by decide +kernel
theorem dX11_greatestBy_15 : decode cX11_greatestBy 15 = .ok (.iinc 2 1, 3) := by decide +kernel
theorem dX11_greatestBy_18 : decode cX11_greatestBy 18 = .ok (.goto (-16), 3) := by decide +kernel
theorem dX11_greatestBy_21 : decode cX11_greatestBy 21 = .ok (.bipush (-9), 2) := by decide +kernel
theorem dX11_greatestBy_23 : decode cX11_greatestBy 23 = .ok (.istore_n 2, 1) := by decide +kernel
theorem dX11_greatestBy_24 : decode cX11_greatestBy 24 = .ok (.iconst 0, 1) := by decide +kernel
theorem dX11_greatestBy_25 : decode cX11_greatestBy 25 = .ok (.istore_n 3, 1) := by decide +kernel
theorem dX11_greatestBy_26 : decode cX11_greatestBy 26 = .ok (.iload_n 3, 1) := by decide +kernel
theorem dX11_greatestBy_27 : decode cX11_greatestBy 27 = .ok (.bipush 24, 2) := by decide +kernel
theorem dX11_greatestBy_29 : decode cX11_greatestBy 29 = .ok (.aload_n 0, 1) := by decide +kernel
theorem dX11_greatestBy_30 : decode cX11_greatestBy 30 = .ok (.invokevirtual 100, 3) := by decide +kernel
theorem dX11_greatestBy_33 : decode cX11_greatestBy 33 = .ok (.imul, 1) := by decide +kernel
theorem dX11_greatestBy_34 : decode cX11_greatestBy 34 = .ok (.if_icmp .ge 88, 3) := by decide +kernel
theorem dX11_greatestBy_37 : decode cX11_greatestBy 37 = .ok (.aload_n 0, 1) := by decide +kernel
theorem dX11_greatestBy_38 : decode cX11_greatestBy 38 = .ok (.iload_n 3, 1) := by decide +kernel
theorem dX11_greatestBy_39 : decode cX11_greatestBy 39 = .ok (.invokevirtual 178, 3) := by decide +kernel
theorem dX11_greatestBy_42 : decode cX11_greatestBy 42 = .ok (.istore 4, 2) := by decide +kernel
theorem dX11_greatestBy_44 : decode cX11_greatestBy 44 = .ok (.iload 4, 2) := by decide +kernel
theorem dX11_greatestBy_46 : decode cX11_greatestBy 46 = .ok (.bipush (-9), 2) := by decide +kernel
theorem dX11_greatestBy_48 : decode cX11_greatestBy 48 = .ok (.if_icmp .eq 68, 3) := by decide +kernel
theorem dX11_greatestBy_51 : decode cX11_greatestBy 51 = .ok (.aload_n 0, 1) := by decide +kernel
theorem dX11_greatestBy_52 : decode cX11_greatestBy 52 = .ok (.iload 4, 2) := by decide +kernel
theorem dX11_greatestBy_54 : decode cX11_greatestBy 54 = .ok (.iload_n 1, 1) := by decide +kernel
theorem dX11_greatestBy_55 : decode cX11_greatestBy 55 = .ok (.invokevirtual 123, 3) := by decide +kernel
theorem dX11_greatestBy_58 : decode cX11_greatestBy 58 = .ok (.istore 5, 2) := by decide +kernel
theorem dX11_greatestBy_60 : decode cX11_greatestBy 60 = .ok (.iload 5, 2) := by decide +kernel
theorem dX11_greatestBy_62 : decode cX11_greatestBy 62 = .ok (.bipush (-9), 2) := by decide +kernel
theorem dX11_greatestBy_64 : decode cX11_greatestBy 64 = .ok (.if_icmp .ne 6, 3) := by decide +kernel
theorem dX11_greatestBy_67 : decode cX11_greatestBy 67 = .ok (.bipush (-9), 2) := by decide +kernel
theorem dX11_greatestBy_69 : decode cX11_greatestBy 69 = .ok (.ireturn, 1) := by decide +kernel
theorem dX11_greatestBy_70 : decode cX11_greatestBy 70 = .ok (.aload_n 0, 1) := by decide +kernel
theorem dX11_greatestBy_71 : decode cX11_greatestBy 71 = .ok (.getfield 63, 3) := by decide +kernel
theorem dX11_greatestBy_74 : decode cX11_greatestBy 74 = .ok (.aload_n 0, 1) := by decide +kernel
theorem dX11_greatestBy_75 : decode cX11_greatestBy 75 = .ok (.iload 5, 2) := by decide +kernel
theorem dX11_greatestBy_77 : decode cX11_greatestBy 77 = .ok (.invokevirtual 152, 3) := by decide +kernel
theorem dX11_greatestBy_80 : decode cX11_greatestBy 80 = .ok (.dup2, 1) := by decide +kernel
theorem dX11_greatestBy_81 : decode cX11_greatestBy 81 = .ok (.iaload, 1) := by decide +kernel
theorem dX11_greatestBy_82 : decode cX11_greatestBy 82 = .ok (.iconst 1, 1) := by decide +kernel
theorem dX11_greatestBy_83 : decode cX11_greatestBy 83 = .ok (.iadd, 1) := by decide +kernel
theorem dX11_greatestBy_84 : decode cX11_greatestBy 84 = .ok (.iastore, 1) := by decide +kernel
theorem dX11_greatestBy_85 : decode cX11_greatestBy 85 = .ok (.aload_n 0, 1) := by decide +kernel
theorem dX11_greatestBy_86 : decode cX11_greatestBy 86 = .ok (.getfield 63, 3) := by decide +kernel
theorem dX11_greatestBy_89 : decode cX11_greatestBy 89 = .ok (.aload_n 0, 1) := by decide +kernel
theorem dX11_greatestBy_90 : decode cX11_greatestBy 90 = .ok (.iload 5, 2) := by decide +kernel
theorem dX11_greatestBy_92 : decode cX11_greatestBy 92 = .ok (.invokevirtual 152, 3) := by decide +kernel
theorem dX11_greatestBy_95 : decode cX11_greatestBy 95 = .ok (.iaload, 1) := by decide +kernel
theorem dX11_greatestBy_96 : decode cX11_greatestBy 96 = .ok (.iload_n 2, 1) := by decide +kernel
theorem dX11_greatestBy_97 : decode cX11_greatestBy 97 = .ok (.if_icmp .le 17, 3) := by decide +kernel
theorem dX11_greatestBy_100 : decode cX11_greatestBy 100 = .ok (.aload_n 0, 1) := by decide +kernel
theorem dX11_greatestBy_101 : decode cX11_greatestBy 101 = .ok (.getfield 63, 3) := by decide +kernel
theorem dX11_greatestBy_104 : decode cX11_greatestBy 104 = .ok (.aload_n 0, 1) := by decide +kernel
theorem dX11_greatestBy_105 : decode cX11_greatestBy 105 = .ok (.iload 5, 2) := by decide +kernel
theorem dX11_greatestBy_107 : decode cX11_greatestBy 107 = .ok (.invokevirtual 152, 3) := by decide +kernel
theorem dX11_greatestBy_110 : decode cX11_greatestBy 110 = .ok (.iaload, 1) := by decide +kernel
theorem dX11_greatestBy_111 : decode cX11_greatestBy 111 = .ok (.goto 4, 3) := by decide +kernel
theorem dX11_greatestBy_114 : decode cX11_greatestBy 114 = .ok (.iload_n 2, 1) := by decide +kernel
theorem dX11_greatestBy_115 : decode cX11_greatestBy 115 = .ok (.istore_n 2, 1) := by decide +kernel
theorem dX11_greatestBy_116 : decode cX11_greatestBy 116 = .ok (.iinc 3 1, 3) := by decide +kernel
theorem dX11_greatestBy_119 : decode cX11_greatestBy 119 = .ok (.goto (-93), 3) := by decide +kernel
theorem dX11_greatestBy_122 : decode cX11_greatestBy 122 = .ok (.iload_n 2, 1) := by decide +kernel
theorem dX11_greatestBy_123 : decode cX11_greatestBy 123 = .ok (.ireturn, 1) := by decide +kernel
theorem dX11_next_0 : decode cX11_next 0 = .ok (.bipush (-9), 2) := by decide +kernel
theorem dX11_next_2 : decode cX11_next 2 = .ok (.istore_n 1, 1) := by decide +kernel
theorem dX11_next_3 : decode cX11_next 3 = .ok (.ldc 99, 2) := by decide +kernel
theorem dX11_next_5 : decode cX11_next 5 = .ok (.istore_n 2, 1) := by decide +kernel
theorem dX11_next_6 : decode cX11_next 6 = .ok (.iconst 0, 1) := by decide +kernel
theorem dX11_next_7 : decode cX11_next 7 = .ok (.istore_n 3, 1) := by decide +kernel
theorem dX11_next_8 : decode cX11_next 8 = .ok (.iload_n 3, 1) := by decide +kernel
theorem dX11_next_9 : decode cX11_next 9 = .ok (.iconst 4, 1) := by decide +kernel
theorem dX11_next_10 : decode cX11_next 10 = .ok (.if_icmp .ge 55, 3) := by decide +kernel
theorem dX11_next_13 : decode cX11_next 13 = .ok (.aload_n 0, 1) := by decide +kernel
theorem dX11_next_14 : decode cX11_next 14 = .ok (.iload_n 3, 1) := by decide +kernel
theorem dX11_next_15 : decode cX11_next 15 = .ok (.invokevirtual 181, 3) := by decide +kernel
theorem dX11_next_18 : decode cX11_next 18 = .ok (.istore 4, 2) := by decide +kernel
theorem dX11_next_20 : decode cX11_next 20 = .ok (.iload 4, 2) := by decide +kernel
theorem dX11_next_22 : decode cX11_next 22 = .ok (.bipush (-9), 2) := by decide +kernel
theorem dX11_next_24 : decode cX11_next 24 = .ok (.if_icmp .eq 13, 3) := by decide +kernel
theorem dX11_next_27 : decode cX11_next 27 = .ok (.iload 4, 2) := by decide +kernel
theorem dX11_next_29 : decode cX11_next 29 = .ok (.iload_n 2, 1) := by decide +kernel
theorem dX11_next_30 : decode cX11_next 30 = .ok (.if_icmp .ge 7, 3) := by decide +kernel
theorem dX11_next_33 : decode cX11_next 33 = .ok (.iload_n 3, 1) := by decide +kernel
theorem dX11_next_34 : decode cX11_next 34 = .ok (.goto 4, 3) := by decide +kernel
theorem dX11_next_37 : decode cX11_next 37 = .ok (.iload_n 1, 1) := by decide +kernel
theorem dX11_next_38 : decode cX11_next 38 = .ok (.istore_n 1, 1) := by decide +kernel
theorem dX11_next_39 : decode cX11_next 39 = .ok (.iload 4, 2) := by decide +kernel
theorem dX11_next_41 : decode cX11_next 41 = .ok (.bipush (-9), 2) := by decide +kernel
theorem dX11_next_43 : decode cX11_next 43 = .ok (.if_icmp .eq 14, 3) := by decide +kernel
theorem dX11_next_46 : decode cX11_next 46 = .ok (.iload 4, 2) := by decide +kernel
theorem dX11_next_48 : decode cX11_next 48 = .ok (.iload_n 2, 1) := by decide +kernel
theorem dX11_next_49 : decode cX11_next 49 = .ok (.if_icmp .ge 8, 3) := by decide +kernel
theorem dX11_next_52 : decode cX11_next 52 = .ok (.iload 4, 2) := by decide +kernel
theorem dX11_next_54 : decode cX11_next 54 = .ok (.goto 4, 3) := by decide +kernel
theorem dX11_next_57 : decode cX11_next 57 = .ok (.iload_n 2, 1) := by decide +kernel
theorem dX11_next_58 : decode cX11_next 58 = .ok (.istore_n 2, 1) := by decide +kernel
theorem dX11_next_59 : decode cX11_next 59 = .ok (.iinc 3 1, 3) := by decide +kernel
theorem dX11_next_62 : decode cX11_next 62 = .ok (.goto (-54), 3) := by decide +kernel
theorem dX11_next_65 : decode cX11_next 65 = .ok (.iload_n 1, 1) := by decide +kernel
theorem dX11_next_66 : decode cX11_next 66 = .ok (.ireturn, 1) := by decide +kernel
theorem dX11_isPlace_0 : decode cX11_isPlace 0 = .ok (.iload_n 1, 1) := by decide +kernel
theorem dX11_isPlace_1 : decode cX11_isPlace 1 = .ok (.i2l, 1) := by decide +kernel
theorem dX11_isPlace_2 : decode cX11_isPlace 2 = .ok (.lconst 0, 1) := by decide +kernel
theorem dX11_isPlace_3 : decode cX11_isPlace 3 = .ok (.iconst 3, 1) := by decide +kernel
theorem dX11_isPlace_4 : decode cX11_isPlace 4 = .ok (.aload_n 0, 1) := by decide +kernel
theorem dX11_isPlace_5 : decode cX11_isPlace 5 = .ok (.invokevirtual 100, 3) := by decide +kernel
theorem dX11_isPlace_8 : decode cX11_isPlace 8 = .ok (.imul, 1) := by decide +kernel
theorem dX11_isPlace_9 : decode cX11_isPlace 9 = .ok (.iconst 1, 1) := by decide +kernel
theorem dX11_isPlace_10 : decode cX11_isPlace 10 = .ok (.isub, 1) := by decide +kernel
theorem dX11_isPlace_11 : decode cX11_isPlace 11 = .ok (.i2l, 1) := by decide +kernel
theorem dX11_isPlace_12 : decode cX11_isPlace 12 = .ok (.invokestatic 84, 3) := by decide +kernel
theorem dX11_isPlace_15 : decode cX11_isPlace 15 = .ok (.ireturn, 1) := by decide +kernel
theorem dX11_otherOf_0 : decode cX11_otherOf 0 = .ok (.iload_n 1, 1) := by decide +kernel
theorem dX11_otherOf_1 : decode cX11_otherOf 1 = .ok (.iconst 3, 1) := by decide +kernel
theorem dX11_otherOf_2 : decode cX11_otherOf 2 = .ok (.irem, 1) := by decide +kernel
theorem dX11_otherOf_3 : decode cX11_otherOf 3 = .ok (.ifCond .ne 9, 3) := by decide +kernel
theorem dX11_otherOf_6 : decode cX11_otherOf 6 = .ok (.iload_n 1, 1) := by decide +kernel
theorem dX11_otherOf_7 : decode cX11_otherOf 7 = .ok (.iconst 3, 1) := by decide +kernel
theorem dX11_otherOf_8 : decode cX11_otherOf 8 = .ok (.idiv, 1) := by decide +kernel
theorem dX11_otherOf_9 : decode cX11_otherOf 9 = .ok (.goto 22, 3) := by decide +kernel
theorem dX11_otherOf_12 : decode cX11_otherOf 12 = .ok (.aload_n 0, 1) := by decide +kernel
theorem dX11_otherOf_13 : decode cX11_otherOf 13 = .ok (.iload_n 1, 1) := by decide +kernel
theorem dX11_otherOf_14 : decode cX11_otherOf 14 = .ok (.iconst 3, 1) := by decide +kernel
theorem dX11_otherOf_15 : decode cX11_otherOf 15 = .ok (.idiv, 1) := by decide +kernel
theorem dX11_otherOf_16 : decode cX11_otherOf 16 = .ok (.iload_n 1, 1) := by decide +kernel
theorem dX11_otherOf_17 : decode cX11_otherOf 17 = .ok (.iconst 3, 1) := by decide +kernel
theorem dX11_otherOf_18 : decode cX11_otherOf 18 = .ok (.irem, 1) := by decide +kernel
theorem dX11_otherOf_19 : decode cX11_otherOf 19 = .ok (.iconst 1, 1) := by decide +kernel
theorem dX11_otherOf_20 : decode cX11_otherOf 20 = .ok (.if_icmp .ne 7, 3) := by decide +kernel
theorem dX11_otherOf_23 : decode cX11_otherOf 23 = .ok (.iconst 0, 1) := by decide +kernel
theorem dX11_otherOf_24 : decode cX11_otherOf 24 = .ok (.goto 4, 3) := by decide +kernel
theorem dX11_otherOf_27 : decode cX11_otherOf 27 = .ok (.iconst 1, 1) := by decide +kernel
theorem dX11_otherOf_28 : decode cX11_otherOf 28 = .ok (.invokevirtual 120, 3) := by decide +kernel
theorem dX11_otherOf_31 : decode cX11_otherOf 31 = .ok (.ireturn, 1) := by decide +kernel
theorem dX11_isSound_0 : decode cX11_isSound 0 = .ok (.aload_n 0, 1) := by decide +kernel
theorem dX11_isSound_1 : decode cX11_isSound 1 = .ok (.iload_n 1, 1) := by decide +kernel
theorem dX11_isSound_2 : decode cX11_isSound 2 = .ok (.invokevirtual 184, 3) := by decide +kernel
theorem dX11_isSound_5 : decode cX11_isSound 5 = .ok (.istore_n 3, 1) := by decide +kernel
theorem dX11_isSound_6 : decode cX11_isSound 6 = .ok (.iload_n 3, 1) := by decide +kernel
theorem dX11_isSound_7 : decode cX11_isSound 7 = .ok (.bipush (-9), 2) := by decide +kernel
theorem dX11_isSound_9 : decode cX11_isSound 9 = .ok (.if_icmp .eq 23, 3) := by decide +kernel
theorem dX11_isSound_12 : decode cX11_isSound 12 = .ok (.aload_n 0, 1) := by decide +kernel
theorem dX11_isSound_13 : decode cX11_isSound 13 = .ok (.iload_n 1, 1) := by decide +kernel
theorem dX11_isSound_14 : decode cX11_isSound 14 = .ok (.iconst 3, 1) := by decide +kernel
theorem dX11_isSound_15 : decode cX11_isSound 15 = .ok (.idiv, 1) := by decide +kernel
theorem dX11_isSound_16 : decode cX11_isSound 16 = .ok (.iload_n 2, 1) := by decide +kernel
theorem dX11_isSound_17 : decode cX11_isSound 17 = .ok (.invokevirtual 116, 3) := by decide +kernel
theorem dX11_isSound_20 : decode cX11_isSound 20 = .ok (.ifCond .eq 12, 3) := by decide +kernel
theorem dX11_isSound_23 : decode cX11_isSound 23 = .ok (.aload_n 0, 1) := by decide +kernel
theorem dX11_isSound_24 : decode cX11_isSound 24 = .ok (.iload_n 3, 1) := by decide +kernel
theorem dX11_isSound_25 : decode cX11_isSound 25 = .ok (.iload_n 2, 1) := by decide +kernel
theorem dX11_isSound_26 : decode cX11_isSound 26 = .ok (.invokevirtual 116, 3) := by decide +kernel
theorem dX11_isSound_29 : decode cX11_isSound 29 = .ok (.ifCond .ne 5, 3) := by decide +kernel
theorem dX11_isSound_32 : decode cX11_isSound 32 = .ok (.iconst 0, 1) := by decide +kernel
theorem dX11_isSound_33 : decode cX11_isSound 33 = .ok (.ireturn, 1) := by decide +kernel
theorem dX11_isSound_34 : decode cX11_isSound 34 = .ok (.iload_n 1, 1) := by decide +kernel
theorem dX11_isSound_35 : decode cX11_isSound 35 = .ok (.iconst 3, 1) := by decide +kernel
theorem dX11_isSound_36 : decode cX11_isSound 36 = .ok (.irem, 1) := by decide +kernel
theorem dX11_isSound_37 : decode cX11_isSound 37 = .ok (.ifCond .ne 15, 3) := by decide +kernel
theorem dX11_isSound_40 : decode cX11_isSound 40 = .ok (.aload_n 0, 1) := by decide +kernel
theorem dX11_isSound_41 : decode cX11_isSound 41 = .ok (.getfield 32, 3) := by decide +kernel
theorem dX11_isSound_44 : decode cX11_isSound 44 = .ok (.iload_n 1, 1) := by decide +kernel
theorem dX11_isSound_45 : decode cX11_isSound 45 = .ok (.iconst 3, 1) := by decide +kernel
theorem dX11_isSound_46 : decode cX11_isSound 46 = .ok (.idiv, 1) := by decide +kernel
theorem dX11_isSound_47 : decode cX11_isSound 47 = .ok (.iaload, 1) := by decide +kernel
theorem dX11_isSound_48 : decode cX11_isSound 48 = .ok (.iconst 2, 1) := by decide +kernel
theorem dX11_isSound_49 : decode cX11_isSound 49 = .ok (.if_icmp .eq 7, 3) := by decide +kernel
theorem dX11_isSound_52 : decode cX11_isSound 52 = .ok (.iconst 1, 1) := by decide +kernel
theorem dX11_isSound_53 : decode cX11_isSound 53 = .ok (.goto 4, 3) := by decide +kernel
theorem dX11_isSound_56 : decode cX11_isSound 56 = .ok (.iconst 0, 1) := by decide +kernel
theorem dX11_isSound_57 : decode cX11_isSound 57 = .ok (.ireturn, 1) := by decide +kernel
theorem dX11_sound_0 : decode cX11_sound 0 = .ok (.aload_n 0, 1) := by decide +kernel
theorem dX11_sound_1 : decode cX11_sound 1 = .ok (.iload_n 1, 1) := by decide +kernel
theorem dX11_sound_2 : decode cX11_sound 2 = .ok (.invokevirtual 187, 3) := by decide +kernel
theorem dX11_sound_5 : decode cX11_sound 5 = .ok (.ifCond .ne 7, 3) := by decide +kernel
theorem dX11_sound_8 : decode cX11_sound 8 = .ok (.iconst (-1), 1) := by decide +kernel
theorem dX11_sound_9 : decode cX11_sound 9 = .ok (.goto 20, 3) := by decide +kernel
theorem dX11_sound_12 : decode cX11_sound 12 = .ok (.aload_n 0, 1) := by decide +kernel
theorem dX11_sound_13 : decode cX11_sound 13 = .ok (.iload_n 1, 1) := by decide +kernel
theorem dX11_sound_14 : decode cX11_sound 14 = .ok (.aload_n 0, 1) := by decide +kernel
theorem dX11_sound_15 : decode cX11_sound 15 = .ok (.getfield 108, 3) := by decide +kernel
theorem dX11_sound_18 : decode cX11_sound 18 = .ok (.invokevirtual 190, 3) := by decide +kernel
theorem dX11_sound_21 : decode cX11_sound 21 = .ok (.ifCond .eq 7, 3) := by decide +kernel
theorem dX11_sound_24 : decode cX11_sound 24 = .ok (.iconst 1, 1) := by decide +kernel
theorem dX11_sound_25 : decode cX11_sound 25 = .ok (.goto 4, 3) := by decide +kernel
theorem dX11_sound_28 : decode cX11_sound 28 = .ok (.iconst 0, 1) := by decide +kernel
theorem dX11_sound_29 : decode cX11_sound 29 = .ok (.ireturn, 1) := by decide +kernel
theorem dX11_blockTo_0 : decode cX11_blockTo 0 = .ok (.iload_n 1, 1) := by decide +kernel
theorem dX11_blockTo_1 : decode cX11_blockTo 1 = .ok (.iconst 3, 1) := by decide +kernel
theorem dX11_blockTo_2 : decode cX11_blockTo 2 = .ok (.idiv, 1) := by decide +kernel
theorem dX11_blockTo_3 : decode cX11_blockTo 3 = .ok (.istore_n 3, 1) := by decide +kernel
theorem dX11_blockTo_4 : decode cX11_blockTo 4 = .ok (.iload_n 1, 1) := by decide +kernel
theorem dX11_blockTo_5 : decode cX11_blockTo 5 = .ok (.iconst 3, 1) := by decide +kernel
theorem dX11_blockTo_6 : decode cX11_blockTo 6 = .ok (.irem, 1) := by decide +kernel
theorem dX11_blockTo_7 : decode cX11_blockTo 7 = .ok (.istore 4, 2) := by decide +kernel
theorem dX11_blockTo_9 : decode cX11_blockTo 9 = .ok (.iload_n 3, 1) := by decide +kernel
theorem dX11_blockTo_10 : decode cX11_blockTo 10 = .ok (.aload_n 0, 1) := by decide +kernel
theorem dX11_blockTo_11 : decode cX11_blockTo 11 = .ok (.getfield 25, 3) := by decide +kernel
theorem dX11_blockTo_14 : decode cX11_blockTo 14 = .ok (.irem, 1) := by decide +kernel
theorem dX11_blockTo_15 : decode cX11_blockTo 15 = .ok (.istore 5, 2) := by decide +kernel
theorem dX11_blockTo_17 : decode cX11_blockTo 17 = .ok (.iload_n 3, 1) := by decide +kernel
theorem dX11_blockTo_18 : decode cX11_blockTo 18 = .ok (.aload_n 0, 1) := by decide +kernel
theorem dX11_blockTo_19 : decode cX11_blockTo 19 = .ok (.getfield 25, 3) := by decide +kernel
theorem dX11_blockTo_22 : decode cX11_blockTo 22 = .ok (.idiv, 1) := by decide +kernel
theorem dX11_blockTo_23 : decode cX11_blockTo 23 = .ok (.istore 6, 2) := by decide +kernel
theorem dX11_blockTo_25 : decode cX11_blockTo 25 = .ok (.iload 4, 2) := by decide +kernel
theorem dX11_blockTo_27 : decode cX11_blockTo 27 = .ok (.istore 7, 2) := by decide +kernel
theorem dX11_blockTo_29 : decode cX11_blockTo 29 = .ok (.iload 4, 2) := by decide +kernel
theorem dX11_blockTo_31 : decode cX11_blockTo 31 = .ok (.ifCond .ne 68, 3) := by decide +kernel
theorem dX11_blockTo_34 : decode cX11_blockTo 34 = .ok (.iload_n 2, 1) := by decide +kernel
theorem dX11_blockTo_35 : decode cX11_blockTo 35 = .ok (.iconst 2, 1) := by decide +kernel
theorem dX11_blockTo_36 : decode cX11_blockTo 36 = .ok (.irem, 1) := by decide +kernel
theorem dX11_blockTo_37 : decode cX11_blockTo 37 = .ok (.ifCond .ne 7, 3) := by decide +kernel
theorem dX11_blockTo_40 : decode cX11_blockTo 40 = .ok (.iconst 1, 1) := by decide +kernel
theorem dX11_blockTo_41 : decode cX11_blockTo 41 = .ok (.goto 4, 3) := by decide +kernel
theorem dX11_blockTo_44 : decode cX11_blockTo 44 = .ok (.iconst 2, 1) := by decide +kernel
theorem dX11_blockTo_45 : decode cX11_blockTo 45 = .ok (.istore 7, 2) := by decide +kernel
theorem dX11_blockTo_47 : decode cX11_blockTo 47 = .ok (.iload 5, 2) := by decide +kernel
theorem dX11_blockTo_49 : decode cX11_blockTo 49 = .ok (.iload_n 2, 1) := by decide +kernel
theorem dX11_blockTo_50 : decode cX11_blockTo 50 = .ok (.ifCond .ne 7, 3) := by decide +kernel
theorem dX11_blockTo_53 : decode cX11_blockTo 53 = .ok (.iconst 1, 1) := by decide +kernel
theorem dX11_blockTo_54 : decode cX11_blockTo 54 = .ok (.goto 14, 3) := by decide +kernel
theorem dX11_blockTo_57 : decode cX11_blockTo 57 = .ok (.iload_n 2, 1) := by decide +kernel
theorem dX11_blockTo_58 : decode cX11_blockTo 58 = .ok (.iconst 2, 1) := by decide +kernel
theorem dX11_blockTo_59 : decode cX11_blockTo 59 = .ok (.if_icmp .ne 8, 3) := by decide +kernel
theorem dX11_blockTo_62 : decode cX11_blockTo 62 = .ok (.bipush (-2), 2) := by decide +kernel
theorem dX11_blockTo_64 : decode cX11_blockTo 64 = .ok (.goto 4, 3) := by decide +kernel
theorem dX11_blockTo_67 : decode cX11_blockTo 67 = .ok (.iconst 0, 1) := by decide +kernel
theorem dX11_blockTo_68 : decode cX11_blockTo 68 = .ok (.iadd, 1) := by decide +kernel
theorem dX11_blockTo_69 : decode cX11_blockTo 69 = .ok (.istore 5, 2) := by decide +kernel
theorem dX11_blockTo_71 : decode cX11_blockTo 71 = .ok (.iload 6, 2) := by decide +kernel
theorem dX11_blockTo_73 : decode cX11_blockTo 73 = .ok (.iload_n 2, 1) := by decide +kernel
theorem dX11_blockTo_74 : decode cX11_blockTo 74 = .ok (.iconst 1, 1) := by decide +kernel
theorem dX11_blockTo_75 : decode cX11_blockTo 75 = .ok (.if_icmp .ne 7, 3) := by decide +kernel
theorem dX11_blockTo_78 : decode cX11_blockTo 78 = .ok (.iconst 1, 1) := by decide +kernel
theorem dX11_blockTo_79 : decode cX11_blockTo 79 = .ok (.goto 14, 3) := by decide +kernel
theorem dX11_blockTo_82 : decode cX11_blockTo 82 = .ok (.iload_n 2, 1) := by decide +kernel
theorem dX11_blockTo_83 : decode cX11_blockTo 83 = .ok (.iconst 3, 1) := by decide +kernel
theorem dX11_blockTo_84 : decode cX11_blockTo 84 = .ok (.if_icmp .ne 8, 3) := by decide +kernel
theorem dX11_blockTo_87 : decode cX11_blockTo 87 = .ok (.bipush (-2), 2) := by decide +kernel
theorem dX11_blockTo_89 : decode cX11_blockTo 89 = .ok (.goto 4, 3) := by decide +kernel
theorem dX11_blockTo_92 : decode cX11_blockTo 92 = .ok (.iconst 0, 1) := by decide +kernel
theorem dX11_blockTo_93 : decode cX11_blockTo 93 = .ok (.iadd, 1) := by decide +kernel
theorem dX11_blockTo_94 : decode cX11_blockTo 94 = .ok (.istore 6, 2) := by decide +kernel
theorem dX11_blockTo_96 : decode cX11_blockTo 96 = .ok (.goto 133, 3) := by decide +kernel
theorem dX11_blockTo_99 : decode cX11_blockTo 99 = .ok (.iload 4, 2) := by decide +kernel
theorem dX11_blockTo_101 : decode cX11_blockTo 101 = .ok (.iconst 1, 1) := by decide +kernel
theorem dX11_blockTo_102 : decode cX11_blockTo 102 = .ok (.if_icmp .ne 66, 3) := by decide +kernel
theorem dX11_blockTo_105 : decode cX11_blockTo 105 = .ok (.iload_n 2, 1) := by decide +kernel
theorem dX11_blockTo_106 : decode cX11_blockTo 106 = .ok (.iconst 2, 1) := by decide +kernel
theorem dX11_blockTo_107 : decode cX11_blockTo 107 = .ok (.irem, 1) := by decide +kernel
theorem dX11_blockTo_108 : decode cX11_blockTo 108 = .ok (.ifCond .ne 7, 3) := by decide +kernel
theorem dX11_blockTo_111 : decode cX11_blockTo 111 = .ok (.iconst 0, 1) := by decide +kernel
theorem dX11_blockTo_112 : decode cX11_blockTo 112 = .ok (.goto 4, 3) := by decide +kernel
theorem dX11_blockTo_115 : decode cX11_blockTo 115 = .ok (.iconst 1, 1) := by decide +kernel
theorem dX11_blockTo_116 : decode cX11_blockTo 116 = .ok (.istore 7, 2) := by decide +kernel
theorem dX11_blockTo_118 : decode cX11_blockTo 118 = .ok (.iload 5, 2) := by decide +kernel
theorem dX11_blockTo_120 : decode cX11_blockTo 120 = .ok (.iload_n 2, 1) := by decide +kernel
theorem dX11_blockTo_121 : decode cX11_blockTo 121 = .ok (.ifCond .ne 7, 3) := by decide +kernel
theorem dX11_blockTo_124 : decode cX11_blockTo 124 = .ok (.iconst 2, 1) := by decide +kernel
theorem dX11_blockTo_125 : decode cX11_blockTo 125 = .ok (.goto 13, 3) := by decide +kernel
theorem dX11_blockTo_128 : decode cX11_blockTo 128 = .ok (.iload_n 2, 1) := by decide +kernel
theorem dX11_blockTo_129 : decode cX11_blockTo 129 = .ok (.iconst 2, 1) := by decide +kernel
theorem dX11_blockTo_130 : decode cX11_blockTo 130 = .ok (.if_icmp .ne 7, 3) := by decide +kernel
theorem dX11_blockTo_133 : decode cX11_blockTo 133 = .ok (.iconst (-1), 1) := by decide +kernel
theorem dX11_blockTo_134 : decode cX11_blockTo 134 = .ok (.goto 4, 3) := by decide +kernel
theorem dX11_blockTo_137 : decode cX11_blockTo 137 = .ok (.iconst 0, 1) := by decide +kernel
theorem dX11_blockTo_138 : decode cX11_blockTo 138 = .ok (.iadd, 1) := by decide +kernel
theorem dX11_blockTo_139 : decode cX11_blockTo 139 = .ok (.istore 5, 2) := by decide +kernel
theorem dX11_blockTo_141 : decode cX11_blockTo 141 = .ok (.iload 6, 2) := by decide +kernel
theorem dX11_blockTo_143 : decode cX11_blockTo 143 = .ok (.iload_n 2, 1) := by decide +kernel
theorem dX11_blockTo_144 : decode cX11_blockTo 144 = .ok (.iconst 1, 1) := by decide +kernel
theorem dX11_blockTo_145 : decode cX11_blockTo 145 = .ok (.if_icmp .ne 7, 3) := by decide +kernel
theorem dX11_blockTo_148 : decode cX11_blockTo 148 = .ok (.iconst 1, 1) := by decide +kernel
theorem dX11_blockTo_149 : decode cX11_blockTo 149 = .ok (.goto 13, 3) := by decide +kernel
theorem dX11_blockTo_152 : decode cX11_blockTo 152 = .ok (.iload_n 2, 1) := by decide +kernel
theorem dX11_blockTo_153 : decode cX11_blockTo 153 = .ok (.iconst 3, 1) := by decide +kernel
theorem dX11_blockTo_154 : decode cX11_blockTo 154 = .ok (.if_icmp .ne 7, 3) := by decide +kernel
theorem dX11_blockTo_157 : decode cX11_blockTo 157 = .ok (.iconst (-1), 1) := by decide +kernel
theorem dX11_blockTo_158 : decode cX11_blockTo 158 = .ok (.goto 4, 3) := by decide +kernel
theorem dX11_blockTo_161 : decode cX11_blockTo 161 = .ok (.iconst 0, 1) := by decide +kernel
theorem dX11_blockTo_162 : decode cX11_blockTo 162 = .ok (.iadd, 1) := by decide +kernel
theorem dX11_blockTo_163 : decode cX11_blockTo 163 = .ok (.istore 6, 2) := by decide +kernel
theorem dX11_blockTo_165 : decode cX11_blockTo 165 = .ok (.goto 64, 3) := by decide +kernel
theorem dX11_blockTo_168 : decode cX11_blockTo 168 = .ok (.iload_n 2, 1) := by decide +kernel
theorem dX11_blockTo_169 : decode cX11_blockTo 169 = .ok (.iconst 2, 1) := by decide +kernel
theorem dX11_blockTo_170 : decode cX11_blockTo 170 = .ok (.irem, 1) := by decide +kernel
theorem dX11_blockTo_171 : decode cX11_blockTo 171 = .ok (.iconst 1, 1) := by decide +kernel
theorem dX11_blockTo_172 : decode cX11_blockTo 172 = .ok (.if_icmp .ne 7, 3) := by decide +kernel
theorem dX11_blockTo_175 : decode cX11_blockTo 175 = .ok (.iconst 0, 1) := by decide +kernel
theorem dX11_blockTo_176 : decode cX11_blockTo 176 = .ok (.goto 4, 3) := by decide +kernel
theorem dX11_blockTo_179 : decode cX11_blockTo 179 = .ok (.iconst 2, 1) := by decide +kernel
theorem dX11_blockTo_180 : decode cX11_blockTo 180 = .ok (.istore 7, 2) := by decide +kernel
theorem dX11_blockTo_182 : decode cX11_blockTo 182 = .ok (.iload 6, 2) := by decide +kernel
theorem dX11_blockTo_184 : decode cX11_blockTo 184 = .ok (.iload_n 2, 1) := by decide +kernel
theorem dX11_blockTo_185 : decode cX11_blockTo 185 = .ok (.iconst 1, 1) := by decide +kernel
theorem dX11_blockTo_186 : decode cX11_blockTo 186 = .ok (.if_icmp .ne 7, 3) := by decide +kernel
theorem dX11_blockTo_189 : decode cX11_blockTo 189 = .ok (.iconst 2, 1) := by decide +kernel
theorem dX11_blockTo_190 : decode cX11_blockTo 190 = .ok (.goto 13, 3) := by decide +kernel
theorem dX11_blockTo_193 : decode cX11_blockTo 193 = .ok (.iload_n 2, 1) := by decide +kernel
theorem dX11_blockTo_194 : decode cX11_blockTo 194 = .ok (.iconst 3, 1) := by decide +kernel
theorem dX11_blockTo_195 : decode cX11_blockTo 195 = .ok (.if_icmp .ne 7, 3) := by decide +kernel
theorem dX11_blockTo_198 : decode cX11_blockTo 198 = .ok (.iconst (-1), 1) := by decide +kernel
theorem dX11_blockTo_199 : decode cX11_blockTo 199 = .ok (.goto 4, 3) := by decide +kernel
theorem dX11_blockTo_202 : decode cX11_blockTo 202 = .ok (.iconst 0, 1) := by decide +kernel
theorem dX11_blockTo_203 : decode cX11_blockTo 203 = .ok (.iadd, 1) := by decide +kernel
theorem dX11_blockTo_204 : decode cX11_blockTo 204 = .ok (.istore 6, 2) := by decide +kernel
theorem dX11_blockTo_206 : decode cX11_blockTo 206 = .ok (.iload 5, 2) := by decide +kernel
theorem dX11_blockTo_208 : decode cX11_blockTo 208 = .ok (.iload_n 2, 1) := by decide +kernel
theorem dX11_blockTo_209 : decode cX11_blockTo 209 = .ok (.ifCond .ne 7, 3) := by decide +kernel
theorem dX11_blockTo_212 : decode cX11_blockTo 212 = .ok (.iconst 1, 1) := by decide +kernel
theorem dX11_blockTo_213 : decode cX11_blockTo 213 = .ok (.goto 13, 3) := by decide +kernel
theorem dX11_blockTo_216 : decode cX11_blockTo 216 = .ok (.iload_n 2, 1) := by decide +kernel
theorem dX11_blockTo_217 : decode cX11_blockTo 217 = .ok (.iconst 2, 1) := by decide +kernel
theorem dX11_blockTo_218 : decode cX11_blockTo 218 = .ok (.if_icmp .ne 7, 3) := by decide +kernel
theorem dX11_blockTo_221 : decode cX11_blockTo 221 = .ok (.iconst (-1), 1) := by decide +kernel
theorem dX11_blockTo_222 : decode cX11_blockTo 222 = .ok (.goto 4, 3) := by decide +kernel
theorem dX11_blockTo_225 : decode cX11_blockTo 225 = .ok (.iconst 0, 1) := by decide +kernel
theorem dX11_blockTo_226 : decode cX11_blockTo 226 = .ok (.iadd, 1) := by decide +kernel
theorem dX11_blockTo_227 : decode cX11_blockTo 227 = .ok (.istore 5, 2) := by decide +kernel
theorem dX11_blockTo_229 : decode cX11_blockTo 229 = .ok (.iload 5, 2) := by decide +kernel
theorem dX11_blockTo_231 : decode cX11_blockTo 231 = .ok (.i2l, 1) := by decide +kernel
theorem dX11_blockTo_232 : decode cX11_blockTo 232 = .ok (.lconst 0, 1) := by decide +kernel
theorem dX11_blockTo_233 : decode cX11_blockTo 233 = .ok (.aload_n 0, 1) := by decide +kernel
theorem dX11_blockTo_234 : decode cX11_blockTo 234 = .ok (.getfield 25, 3) := by decide +kernel
theorem dX11_blockTo_237 : decode cX11_blockTo 237 = .ok (.iconst 1, 1) := by decide +kernel
theorem dX11_blockTo_238 : decode cX11_blockTo 238 = .ok (.isub, 1) := by decide +kernel
theorem dX11_blockTo_239 : decode cX11_blockTo 239 = .ok (.i2l, 1) := by decide +kernel
theorem dX11_blockTo_240 : decode cX11_blockTo 240 = .ok (.invokestatic 84, 3) := by decide +kernel
theorem dX11_blockTo_243 : decode cX11_blockTo 243 = .ok (.ifCond .eq 38, 3) := by decide +kernel
theorem dX11_blockTo_246 : decode cX11_blockTo 246 = .ok (.iload 6, 2) := by decide +kernel
theorem dX11_blockTo_248 : decode cX11_blockTo 248 = .ok (.i2l, 1) := by decide +kernel
theorem dX11_blockTo_249 : decode cX11_blockTo 249 = .ok (.lconst 0, 1) := by decide +kernel
theorem dX11_blockTo_250 : decode cX11_blockTo 250 = .ok (.aload_n 0, 1) := by decide +kernel
theorem dX11_blockTo_251 : decode cX11_blockTo 251 = .ok (.getfield 29, 3) := by decide +kernel
theorem dX11_blockTo_254 : decode cX11_blockTo 254 = .ok (.iconst 1, 1) := by decide +kernel
theorem dX11_blockTo_255 : decode cX11_blockTo 255 = .ok (.isub, 1) := by decide +kernel
theorem dX11_blockTo_256 : decode cX11_blockTo 256 = .ok (.i2l, 1) := by decide +kernel
theorem dX11_blockTo_257 : decode cX11_blockTo 257 = .ok (.invokestatic 84, 3) := by decide +kernel
theorem dX11_blockTo_260 : decode cX11_blockTo 260 = .ok (.ifCond .eq 21, 3) := by decide +kernel
theorem dX11_blockTo_263 : decode cX11_blockTo 263 = .ok (.iconst 3, 1) := by decide +kernel
theorem dX11_blockTo_264 : decode cX11_blockTo 264 = .ok (.iload 6, 2) := by decide +kernel
theorem dX11_blockTo_266 : decode cX11_blockTo 266 = .ok (.aload_n 0, 1) := by decide +kernel
theorem dX11_blockTo_267 : decode cX11_blockTo 267 = .ok (.getfield 25, 3) := by decide +kernel
theorem dX11_blockTo_270 : decode cX11_blockTo 270 = .ok (.imul, 1) := by decide +kernel
theorem dX11_blockTo_271 : decode cX11_blockTo 271 = .ok (.iload 5, 2) := by decide +kernel
theorem dX11_blockTo_273 : decode cX11_blockTo 273 = .ok (.iadd, 1) := by decide +kernel
theorem dX11_blockTo_274 : decode cX11_blockTo 274 = .ok (.imul, 1) := by decide +kernel
theorem dX11_blockTo_275 : decode cX11_blockTo 275 = .ok (.iload 7, 2) := by decide +kernel
theorem dX11_blockTo_277 : decode cX11_blockTo 277 = .ok (.iadd, 1) := by decide +kernel
theorem dX11_blockTo_278 : decode cX11_blockTo 278 = .ok (.goto 5, 3) := by decide +kernel
theorem dX11_blockTo_281 : decode cX11_blockTo 281 = .ok (.bipush (-9), 2) := by decide +kernel
theorem dX11_blockTo_283 : decode cX11_blockTo 283 = .ok (.ireturn, 1) := by decide +kernel
theorem dX11_blockRoll_0 : decode cX11_blockRoll 0 = .ok (.iload_n 1, 1) := by decide +kernel
theorem dX11_blockRoll_1 : decode cX11_blockRoll 1 = .ok (.bipush 8, 2) := by decide +kernel
theorem dX11_blockRoll_3 : decode cX11_blockRoll 3 = .ok (.irem, 1) := by decide +kernel
theorem dX11_blockRoll_4 : decode cX11_blockRoll 4 = .ok (.istore_n 3, 1) := by decide +kernel
theorem dX11_blockRoll_5 : decode cX11_blockRoll 5 = .ok (.aload_n 0, 1) := by decide +kernel
theorem dX11_blockRoll_6 : decode cX11_blockRoll 6 = .ok (.iload_n 1, 1) := by decide +kernel
theorem dX11_blockRoll_7 : decode cX11_blockRoll 7 = .ok (.bipush 8, 2) := by decide +kernel
theorem dX11_blockRoll_9 : decode cX11_blockRoll 9 = .ok (.idiv, 1) := by decide +kernel
theorem dX11_blockRoll_10 : decode cX11_blockRoll 10 = .ok (.iload_n 3, 1) := by decide +kernel
theorem dX11_blockRoll_11 : decode cX11_blockRoll 11 = .ok (.invokevirtual 190, 3) := by decide +kernel
theorem dX11_blockRoll_14 : decode cX11_blockRoll 14 = .ok (.ifCond .ne 6, 3) := by decide +kernel
theorem dX11_blockRoll_17 : decode cX11_blockRoll 17 = .ok (.bipush (-9), 2) := by decide +kernel
theorem dX11_blockRoll_19 : decode cX11_blockRoll 19 = .ok (.ireturn, 1) := by decide +kernel
theorem dX11_blockRoll_20 : decode cX11_blockRoll 20 = .ok (.aload_n 0, 1) := by decide +kernel
theorem dX11_blockRoll_21 : decode cX11_blockRoll 21 = .ok (.iload_n 1, 1) := by decide +kernel
theorem dX11_blockRoll_22 : decode cX11_blockRoll 22 = .ok (.bipush 8, 2) := by decide +kernel
theorem dX11_blockRoll_24 : decode cX11_blockRoll 24 = .ok (.idiv, 1) := by decide +kernel
theorem dX11_blockRoll_25 : decode cX11_blockRoll 25 = .ok (.iload_n 2, 1) := by decide +kernel
theorem dX11_blockRoll_26 : decode cX11_blockRoll 26 = .ok (.invokevirtual 193, 3) := by decide +kernel
theorem dX11_blockRoll_29 : decode cX11_blockRoll 29 = .ok (.istore 4, 2) := by decide +kernel
theorem dX11_blockRoll_31 : decode cX11_blockRoll 31 = .ok (.iload 4, 2) := by decide +kernel
theorem dX11_blockRoll_33 : decode cX11_blockRoll 33 = .ok (.bipush (-9), 2) := by decide +kernel
theorem dX11_blockRoll_35 : decode cX11_blockRoll 35 = .ok (.if_icmp .eq 13, 3) := by decide +kernel
theorem dX11_blockRoll_38 : decode cX11_blockRoll 38 = .ok (.aload_n 0, 1) := by decide +kernel
theorem dX11_blockRoll_39 : decode cX11_blockRoll 39 = .ok (.iload 4, 2) := by decide +kernel
theorem dX11_blockRoll_41 : decode cX11_blockRoll 41 = .ok (.iload_n 3, 1) := by decide +kernel
theorem dX11_blockRoll_42 : decode cX11_blockRoll 42 = .ok (.invokevirtual 190, 3) := by decide +kernel
theorem dX11_blockRoll_45 : decode cX11_blockRoll 45 = .ok (.ifCond .ne 6, 3) := by decide +kernel
theorem dX11_blockRoll_48 : decode cX11_blockRoll 48 = .ok (.bipush (-9), 2) := by decide +kernel
theorem dX11_blockRoll_50 : decode cX11_blockRoll 50 = .ok (.ireturn, 1) := by decide +kernel
theorem dX11_blockRoll_51 : decode cX11_blockRoll 51 = .ok (.iload 4, 2) := by decide +kernel
theorem dX11_blockRoll_53 : decode cX11_blockRoll 53 = .ok (.iconst 3, 1) := by decide +kernel
theorem dX11_blockRoll_54 : decode cX11_blockRoll 54 = .ok (.irem, 1) := by decide +kernel
theorem dX11_blockRoll_55 : decode cX11_blockRoll 55 = .ok (.ifCond .ne 29, 3) := by decide +kernel
theorem dX11_blockRoll_58 : decode cX11_blockRoll 58 = .ok (.aload_n 0, 1) := by decide +kernel
theorem dX11_blockRoll_59 : decode cX11_blockRoll 59 = .ok (.getfield 32, 3) := by decide +kernel
theorem dX11_blockRoll_62 : decode cX11_blockRoll 62 = .ok (.iload 4, 2) := by decide +kernel
theorem dX11_blockRoll_64 : decode cX11_blockRoll 64 = .ok (.iconst 3, 1) := by decide +kernel
theorem dX11_blockRoll_65 : decode cX11_blockRoll 65 = .ok (.idiv, 1) := by decide +kernel
theorem dX11_blockRoll_66 : decode cX11_blockRoll 66 = .ok (.iaload, 1) := by decide +kernel
theorem dX11_blockRoll_67 : decode cX11_blockRoll 67 = .ok (.i2l, 1) := by decide +kernel
theorem dX11_blockRoll_68 : decode cX11_blockRoll 68 = .ok (.ldc2_w 88, 3) := by decide +kernel
theorem dX11_blockRoll_71 : decode cX11_blockRoll 71 = .ok (.ldc2_w 106, 3) := by decide +kernel
theorem dX11_blockRoll_74 : decode cX11_blockRoll 74 = .ok (.invokestatic 84, 3) := by decide +kernel
theorem dX11_blockRoll_77 : decode cX11_blockRoll 77 = .ok (.ifCond .eq 7, 3) := by decide +kernel
theorem dX11_blockRoll_80 : decode cX11_blockRoll 80 = .ok (.iconst 1, 1) := by decide +kernel
theorem dX11_blockRoll_81 : decode cX11_blockRoll 81 = .ok (.goto 4, 3) := by decide +kernel
theorem dX11_blockRoll_84 : decode cX11_blockRoll 84 = .ok (.iconst 0, 1) := by decide +kernel
theorem dX11_blockRoll_85 : decode cX11_blockRoll 85 = .ok (.istore 5, 2) := by decide +kernel
theorem dX11_blockRoll_87 : decode cX11_blockRoll 87 = .ok (.iload 5, 2) := by decide +kernel
theorem dX11_blockRoll_89 : decode cX11_blockRoll 89 = .ok (.ifCond .eq 21, 3) := by decide +kernel
theorem dX11_blockRoll_92 : decode cX11_blockRoll 92 = .ok (.iload_n 3, 1) := by decide +kernel
theorem dX11_blockRoll_93 : decode cX11_blockRoll 93 = .ok (.iconst 1, 1) := by decide +kernel
theorem dX11_blockRoll_94 : decode cX11_blockRoll 94 = .ok (.aload_n 0, 1) := by decide +kernel
theorem dX11_blockRoll_95 : decode cX11_blockRoll 95 = .ok (.getfield 32, 3) := by decide +kernel
theorem dX11_blockRoll_98 : decode cX11_blockRoll 98 = .ok (.iload 4, 2) := by decide +kernel
theorem dX11_blockRoll_100 : decode cX11_blockRoll 100 = .ok (.iconst 3, 1) := by decide +kernel
theorem dX11_blockRoll_101 : decode cX11_blockRoll 101 = .ok (.idiv, 1) := by decide +kernel
theorem dX11_blockRoll_102 : decode cX11_blockRoll 102 = .ok (.iaload, 1) := by decide +kernel
theorem dX11_blockRoll_103 : decode cX11_blockRoll 103 = .ok (.iconst 3, 1) := by decide +kernel
theorem dX11_blockRoll_104 : decode cX11_blockRoll 104 = .ok (.isub, 1) := by decide +kernel
theorem dX11_blockRoll_105 : decode cX11_blockRoll 105 = .ok (.ishl, 1) := by decide +kernel
theorem dX11_blockRoll_106 : decode cX11_blockRoll 106 = .ok (.ixor, 1) := by decide +kernel
theorem dX11_blockRoll_107 : decode cX11_blockRoll 107 = .ok (.goto 4, 3) := by decide +kernel
theorem dX11_blockRoll_110 : decode cX11_blockRoll 110 = .ok (.iload_n 3, 1) := by decide +kernel
theorem dX11_blockRoll_111 : decode cX11_blockRoll 111 = .ok (.istore 6, 2) := by decide +kernel
theorem dX11_blockRoll_113 : decode cX11_blockRoll 113 = .ok (.aload_n 0, 1) := by decide +kernel
theorem dX11_blockRoll_114 : decode cX11_blockRoll 114 = .ok (.iload 4, 2) := by decide +kernel
theorem dX11_blockRoll_116 : decode cX11_blockRoll 116 = .ok (.iload 6, 2) := by decide +kernel
theorem dX11_blockRoll_118 : decode cX11_blockRoll 118 = .ok (.invokevirtual 190, 3) := by decide +kernel
theorem dX11_blockRoll_121 : decode cX11_blockRoll 121 = .ok (.ifCond .eq 14, 3) := by decide +kernel
theorem dX11_blockRoll_124 : decode cX11_blockRoll 124 = .ok (.bipush 8, 2) := by decide +kernel
theorem dX11_blockRoll_126 : decode cX11_blockRoll 126 = .ok (.iload 4, 2) := by decide +kernel
theorem dX11_blockRoll_128 : decode cX11_blockRoll 128 = .ok (.imul, 1) := by decide +kernel
theorem dX11_blockRoll_129 : decode cX11_blockRoll 129 = .ok (.iload 6, 2) := by decide +kernel
theorem dX11_blockRoll_131 : decode cX11_blockRoll 131 = .ok (.iadd, 1) := by decide +kernel
theorem dX11_blockRoll_132 : decode cX11_blockRoll 132 = .ok (.goto 5, 3) := by decide +kernel
theorem dX11_blockRoll_135 : decode cX11_blockRoll 135 = .ok (.bipush (-9), 2) := by decide +kernel
theorem dX11_blockRoll_137 : decode cX11_blockRoll 137 = .ok (.ireturn, 1) := by decide +kernel
theorem dX11_rolls_0 : decode cX11_rolls 0 = .ok (.aload_n 0, 1) := by decide +kernel
theorem dX11_rolls_1 : decode cX11_rolls 1 = .ok (.iload_n 1, 1) := by decide +kernel
theorem dX11_rolls_2 : decode cX11_rolls 2 = .ok (.invokevirtual 187, 3) := by decide +kernel
theorem dX11_rolls_5 : decode cX11_rolls 5 = .ok (.ifCond .ne 5, 3) := by decide +kernel
theorem dX11_rolls_8 : decode cX11_rolls 8 = .ok (.iconst (-1), 1) := by decide +kernel
theorem dX11_rolls_9 : decode cX11_rolls 9 = .ok (.ireturn, 1) := by decide +kernel
theorem dX11_rolls_10 : decode cX11_rolls 10 = .ok (.iload_n 2, 1) := by decide +kernel
theorem dX11_rolls_11 : decode cX11_rolls 11 = .ok (.invokestatic 94, 3) := by decide +kernel
theorem dX11_rolls_14 : decode cX11_rolls 14 = .ok (.ifCond .ne 6, 3) := by decide +kernel
theorem dX11_rolls_17 : decode cX11_rolls 17 = .ok (.bipush (-2), 2) := by decide +kernel
theorem dX11_rolls_19 : decode cX11_rolls 19 = .ok (.ireturn, 1) := by decide +kernel
theorem dX11_rolls_20 : decode cX11_rolls 20 = .ok (.aload_n 0, 1) := by decide +kernel
theorem dX11_rolls_21 : decode cX11_rolls 21 = .ok (.bipush 8, 2) := by decide +kernel
theorem dX11_rolls_23 : decode cX11_rolls 23 = .ok (.iload_n 1, 1) := by decide +kernel
theorem dX11_rolls_24 : decode cX11_rolls 24 = .ok (.imul, 1) := by decide +kernel
theorem dX11_rolls_25 : decode cX11_rolls 25 = .ok (.aload_n 0, 1) := by decide +kernel
theorem dX11_rolls_26 : decode cX11_rolls 26 = .ok (.getfield 108, 3) := by decide +kernel
theorem dX11_rolls_29 : decode cX11_rolls 29 = .ok (.iadd, 1) := by decide +kernel
theorem dX11_rolls_30 : decode cX11_rolls 30 = .ok (.iload_n 2, 1) := by decide +kernel
theorem dX11_rolls_31 : decode cX11_rolls 31 = .ok (.invokevirtual 196, 3) := by decide +kernel
theorem dX11_rolls_34 : decode cX11_rolls 34 = .ok (.istore_n 3, 1) := by decide +kernel
theorem dX11_rolls_35 : decode cX11_rolls 35 = .ok (.iload_n 3, 1) := by decide +kernel
theorem dX11_rolls_36 : decode cX11_rolls 36 = .ok (.bipush (-9), 2) := by decide +kernel
theorem dX11_rolls_38 : decode cX11_rolls 38 = .ok (.if_icmp .ne 8, 3) := by decide +kernel
theorem dX11_rolls_41 : decode cX11_rolls 41 = .ok (.bipush (-9), 2) := by decide +kernel
theorem dX11_rolls_43 : decode cX11_rolls 43 = .ok (.goto 7, 3) := by decide +kernel
theorem dX11_rolls_46 : decode cX11_rolls 46 = .ok (.iload_n 3, 1) := by decide +kernel
theorem dX11_rolls_47 : decode cX11_rolls 47 = .ok (.bipush 8, 2) := by decide +kernel
theorem dX11_rolls_49 : decode cX11_rolls 49 = .ok (.idiv, 1) := by decide +kernel
theorem dX11_rolls_50 : decode cX11_rolls 50 = .ok (.ireturn, 1) := by decide +kernel
theorem dX11_layHome_0 : decode cX11_layHome 0 = .ok (.bipush 24, 2) := by decide +kernel
theorem dX11_layHome_2 : decode cX11_layHome 2 = .ok (.aload_n 0, 1) := by decide +kernel
theorem dX11_layHome_3 : decode cX11_layHome 3 = .ok (.invokevirtual 100, 3) := by decide +kernel
theorem dX11_layHome_6 : decode cX11_layHome 6 = .ok (.imul, 1) := by decide +kernel
theorem dX11_layHome_7 : decode cX11_layHome 7 = .ok (.istore_n 2, 1) := by decide +kernel
theorem dX11_layHome_8 : decode cX11_layHome 8 = .ok (.iconst 0, 1) := by decide +kernel
theorem dX11_layHome_9 : decode cX11_layHome 9 = .ok (.istore_n 3, 1) := by decide +kernel
theorem dX11_layHome_10 : decode cX11_layHome 10 = .ok (.iload_n 3, 1) := by decide +kernel
theorem dX11_layHome_11 : decode cX11_layHome 11 = .ok (.iload_n 2, 1) := by decide +kernel
theorem dX11_layHome_12 : decode cX11_layHome 12 = .ok (.if_icmp .ge 46, 3) := by decide +kernel
theorem dX11_layHome_15 : decode cX11_layHome 15 = .ok (.aload_n 0, 1) := by decide +kernel
theorem dX11_layHome_16 : decode cX11_layHome 16 = .ok (.getfield 66, 3) := by decide +kernel
theorem dX11_layHome_19 : decode cX11_layHome 19 = .ok (.iload_n 3, 1) := by decide +kernel
theorem dX11_layHome_20 : decode cX11_layHome 20 = .ok (.iload_n 3, 1) := by decide +kernel
theorem dX11_layHome_21 : decode cX11_layHome 21 = .ok (.bipush 8, 2) := by decide +kernel
theorem dX11_layHome_23 : decode cX11_layHome 23 = .ok (.idiv, 1) := by decide +kernel
theorem dX11_layHome_24 : decode cX11_layHome 24 = .ok (.iconst 3, 1) := by decide +kernel
theorem dX11_layHome_25 : decode cX11_layHome 25 = .ok (.iload_n 1, 1) := by decide +kernel
theorem dX11_layHome_26 : decode cX11_layHome 26 = .ok (.imul, 1) := by decide +kernel
theorem dX11_layHome_27 : decode cX11_layHome 27 = .ok (.if_icmp .ne 22, 3) := by decide +kernel
theorem dX11_layHome_30 : decode cX11_layHome 30 = .ok (.aload_n 0, 1) := by decide +kernel
theorem dX11_layHome_31 : decode cX11_layHome 31 = .ok (.iload_n 3, 1) := by decide +kernel
theorem dX11_layHome_32 : decode cX11_layHome 32 = .ok (.bipush 8, 2) := by decide +kernel
theorem dX11_layHome_34 : decode cX11_layHome 34 = .ok (.idiv, 1) := by decide +kernel
theorem dX11_layHome_35 : decode cX11_layHome 35 = .ok (.iload_n 3, 1) := by decide +kernel
theorem dX11_layHome_36 : decode cX11_layHome 36 = .ok (.bipush 8, 2) := by decide +kernel
theorem dX11_layHome_38 : decode cX11_layHome 38 = .ok (.irem, 1) := by decide +kernel
theorem dX11_layHome_39 : decode cX11_layHome 39 = .ok (.invokevirtual 190, 3) := by decide +kernel
theorem dX11_layHome_42 : decode cX11_layHome 42 = .ok (.ifCond .eq 7, 3) := by decide +kernel
theorem dX11_layHome_45 : decode cX11_layHome 45 = .ok (.iconst 0, 1) := by decide +kernel
theorem dX11_layHome_46 : decode cX11_layHome 46 = .ok (.goto 5, 3) := by decide +kernel
theorem dX11_layHome_49 : decode cX11_layHome 49 = .ok (.ldc 99, 2) := by decide +kernel
theorem dX11_layHome_51 : decode cX11_layHome 51 = .ok (.iastore, 1) := by decide +kernel
theorem dX11_layHome_52 : decode cX11_layHome 52 = .ok (.iinc 3 1, 3) := by decide +kernel
theorem dX11_layHome_55 : decode cX11_layHome 55 = .ok (.goto (-45), 3) := by decide +kernel
theorem dX11_layHome_58 : decode cX11_layHome 58 = .ok (.iconst 1, 1) := by decide +kernel
theorem dX11_layHome_59 : decode cX11_layHome 59 = .ok (.istore_n 3, 1) := by decide +kernel
theorem dX11_layHome_60 : decode cX11_layHome 60 = .ok (.iload_n 3, 1) := by decide +kernel
theorem dX11_layHome_61 : decode cX11_layHome 61 = .ok (.ifCond .eq 87, 3) := by decide +kernel
theorem dX11_layHome_64 : decode cX11_layHome 64 = .ok (.iconst 0, 1) := by decide +kernel
theorem dX11_layHome_65 : decode cX11_layHome 65 = .ok (.istore_n 3, 1) := by decide +kernel
theorem dX11_layHome_66 : decode cX11_layHome 66 = .ok (.iconst 0, 1) := by decide +kernel
theorem dX11_layHome_67 : decode cX11_layHome 67 = .ok (.istore 4, 2) := by decide +kernel
theorem dX11_layHome_69 : decode cX11_layHome 69 = .ok (.iload 4, 2) := by decide +kernel
theorem dX11_layHome_71 : decode cX11_layHome 71 = .ok (.iconst 4, 1) := by decide +kernel
theorem dX11_layHome_72 : decode cX11_layHome 72 = .ok (.iload_n 2, 1) := by decide +kernel
theorem dX11_layHome_73 : decode cX11_layHome 73 = .ok (.imul, 1) := by decide +kernel
theorem dX11_layHome_74 : decode cX11_layHome 74 = .ok (.if_icmp .ge 71, 3) := by decide +kernel
theorem dX11_layHome_77 : decode cX11_layHome 77 = .ok (.aload_n 0, 1) := by decide +kernel
theorem dX11_layHome_78 : decode cX11_layHome 78 = .ok (.iload 4, 2) := by decide +kernel
theorem dX11_layHome_80 : decode cX11_layHome 80 = .ok (.iconst 4, 1) := by decide +kernel
theorem dX11_layHome_81 : decode cX11_layHome 81 = .ok (.idiv, 1) := by decide +kernel
theorem dX11_layHome_82 : decode cX11_layHome 82 = .ok (.iload 4, 2) := by decide +kernel
theorem dX11_layHome_84 : decode cX11_layHome 84 = .ok (.iconst 4, 1) := by decide +kernel
theorem dX11_layHome_85 : decode cX11_layHome 85 = .ok (.irem, 1) := by decide +kernel
theorem dX11_layHome_86 : decode cX11_layHome 86 = .ok (.invokevirtual 196, 3) := by decide +kernel
theorem dX11_layHome_89 : decode cX11_layHome 89 = .ok (.istore 5, 2) := by decide +kernel
theorem dX11_layHome_91 : decode cX11_layHome 91 = .ok (.iload 5, 2) := by decide +kernel
theorem dX11_layHome_93 : decode cX11_layHome 93 = .ok (.bipush (-9), 2) := by decide +kernel
theorem dX11_layHome_95 : decode cX11_layHome 95 = .ok (.if_icmp .eq 44, 3) := by decide +kernel
theorem dX11_layHome_98 : decode cX11_layHome 98 = .ok (.aload_n 0, 1) := by decide +kernel
theorem dX11_layHome_99 : decode cX11_layHome 99 = .ok (.getfield 66, 3) := by decide +kernel
theorem dX11_layHome_102 : decode cX11_layHome 102 = .ok (.iload 5, 2) := by decide +kernel
theorem dX11_layHome_104 : decode cX11_layHome 104 = .ok (.iaload, 1) := by decide +kernel
theorem dX11_layHome_105 : decode cX11_layHome 105 = .ok (.iconst 1, 1) := by decide +kernel
theorem dX11_layHome_106 : decode cX11_layHome 106 = .ok (.iadd, 1) := by decide +kernel
theorem dX11_layHome_107 : decode cX11_layHome 107 = .ok (.aload_n 0, 1) := by decide +kernel
theorem dX11_layHome_108 : decode cX11_layHome 108 = .ok (.getfield 66, 3) := by decide +kernel
theorem dX11_layHome_111 : decode cX11_layHome 111 = .ok (.iload 4, 2) := by decide +kernel
theorem dX11_layHome_113 : decode cX11_layHome 113 = .ok (.iconst 4, 1) := by decide +kernel
theorem dX11_layHome_114 : decode cX11_layHome 114 = .ok (.idiv, 1) := by decide +kernel
theorem dX11_layHome_115 : decode cX11_layHome 115 = .ok (.iaload, 1) := by decide +kernel
theorem dX11_layHome_116 : decode cX11_layHome 116 = .ok (.if_icmp .ge 23, 3) := by decide +kernel
theorem dX11_layHome_119 : decode cX11_layHome 119 = .ok (.aload_n 0, 1) := by decide +kernel
theorem dX11_layHome_120 : decode cX11_layHome 120 = .ok (.getfield 66, 3) := by decide +kernel
theorem dX11_layHome_123 : decode cX11_layHome 123 = .ok (.iload 4, 2) := by decide +kernel
theorem dX11_layHome_125 : decode cX11_layHome 125 = .ok (.iconst 4, 1) := by decide +kernel
theorem dX11_layHome_126 : decode cX11_layHome 126 = .ok (.idiv, 1) := by decide +kernel
theorem dX11_layHome_127 : decode cX11_layHome 127 = .ok (.aload_n 0, 1) := by decide +kernel
theorem dX11_layHome_128 : decode cX11_layHome 128 = .ok (.getfield 66, 3) := by decide +kernel
theorem dX11_layHome_131 : decode cX11_layHome 131 = .ok (.iload 5, 2) := by decide +kernel
theorem dX11_layHome_133 : decode cX11_layHome 133 = .ok (.iaload, 1) := by decide +kernel
theorem dX11_layHome_134 : decode cX11_layHome 134 = .ok (.iconst 1, 1) := by decide +kernel
theorem dX11_layHome_135 : decode cX11_layHome 135 = .ok (.iadd, 1) := by decide +kernel
theorem dX11_layHome_136 : decode cX11_layHome 136 = .ok (.iastore, 1) := by decide +kernel
theorem dX11_layHome_137 : decode cX11_layHome 137 = .ok (.iconst 1, 1) := by decide +kernel
theorem dX11_layHome_138 : decode cX11_layHome 138 = .ok (.istore_n 3, 1) := by decide +kernel
theorem dX11_layHome_139 : decode cX11_layHome 139 = .ok (.iinc 4 1, 3) := by decide +kernel
theorem dX11_layHome_142 : decode cX11_layHome 142 = .ok (.goto (-73), 3) := by decide +kernel
theorem dX11_layHome_145 : decode cX11_layHome 145 = .ok (.goto (-85), 3) := by decide +kernel
theorem dX11_layHome_148 : decode cX11_layHome 148 = .ok (.return_, 1) := by decide +kernel
theorem dX11_home_0 : decode cX11_home 0 = .ok (.aload_n 0, 1) := by decide +kernel
theorem dX11_home_1 : decode cX11_home 1 = .ok (.iload_n 1, 1) := by decide +kernel
theorem dX11_home_2 : decode cX11_home 2 = .ok (.invokevirtual 187, 3) := by decide +kernel
theorem dX11_home_5 : decode cX11_home 5 = .ok (.ifCond .eq 11, 3) := by decide +kernel
theorem dX11_home_8 : decode cX11_home 8 = .ok (.aload_n 0, 1) := by decide +kernel
theorem dX11_home_9 : decode cX11_home 9 = .ok (.iload_n 2, 1) := by decide +kernel
theorem dX11_home_10 : decode cX11_home 10 = .ok (.invokevirtual 111, 3) := by decide +kernel
theorem dX11_home_13 : decode cX11_home 13 = .ok (.ifCond .ne 5, 3) := by decide +kernel
theorem dX11_home_16 : decode cX11_home 16 = .ok (.iconst (-1), 1) := by decide +kernel
theorem dX11_home_17 : decode cX11_home 17 = .ok (.ireturn, 1) := by decide +kernel
theorem dX11_home_18 : decode cX11_home 18 = .ok (.aload_n 0, 1) := by decide +kernel
theorem dX11_home_19 : decode cX11_home 19 = .ok (.iload_n 2, 1) := by decide +kernel
theorem dX11_home_20 : decode cX11_home 20 = .ok (.invokevirtual 199, 3) := by decide +kernel
theorem dX11_home_23 : decode cX11_home 23 = .ok (.aload_n 0, 1) := by decide +kernel
theorem dX11_home_24 : decode cX11_home 24 = .ok (.getfield 66, 3) := by decide +kernel
theorem dX11_home_27 : decode cX11_home 27 = .ok (.bipush 8, 2) := by decide +kernel
theorem dX11_home_29 : decode cX11_home 29 = .ok (.iload_n 1, 1) := by decide +kernel
theorem dX11_home_30 : decode cX11_home 30 = .ok (.imul, 1) := by decide +kernel
theorem dX11_home_31 : decode cX11_home 31 = .ok (.aload_n 0, 1) := by decide +kernel
theorem dX11_home_32 : decode cX11_home 32 = .ok (.getfield 108, 3) := by decide +kernel
theorem dX11_home_35 : decode cX11_home 35 = .ok (.iadd, 1) := by decide +kernel
theorem dX11_home_36 : decode cX11_home 36 = .ok (.iaload, 1) := by decide +kernel
theorem dX11_home_37 : decode cX11_home 37 = .ok (.istore_n 3, 1) := by decide +kernel
theorem dX11_home_38 : decode cX11_home 38 = .ok (.iload_n 3, 1) := by decide +kernel
theorem dX11_home_39 : decode cX11_home 39 = .ok (.ldc 99, 2) := by decide +kernel
theorem dX11_home_41 : decode cX11_home 41 = .ok (.if_icmp .ne 8, 3) := by decide +kernel
theorem dX11_home_44 : decode cX11_home 44 = .ok (.bipush (-9), 2) := by decide +kernel
theorem dX11_home_46 : decode cX11_home 46 = .ok (.goto 4, 3) := by decide +kernel
theorem dX11_home_49 : decode cX11_home 49 = .ok (.iload_n 3, 1) := by decide +kernel
theorem dX11_home_50 : decode cX11_home 50 = .ok (.ireturn, 1) := by decide +kernel
theorem dX11_homeStep_0 : decode cX11_homeStep 0 = .ok (.iconst 0, 1) := by decide +kernel
theorem dX11_homeStep_1 : decode cX11_homeStep 1 = .ok (.istore_n 2, 1) := by decide +kernel
theorem dX11_homeStep_2 : decode cX11_homeStep 2 = .ok (.aload_n 0, 1) := by decide +kernel
theorem dX11_homeStep_3 : decode cX11_homeStep 3 = .ok (.iload_n 1, 1) := by decide +kernel
theorem dX11_homeStep_4 : decode cX11_homeStep 4 = .ok (.iload_n 2, 1) := by decide +kernel
theorem dX11_homeStep_5 : decode cX11_homeStep 5 = .ok (.invokevirtual 196, 3) := by decide +kernel
theorem dX11_homeStep_8 : decode cX11_homeStep 8 = .ok (.bipush (-9), 2) := by decide +kernel
theorem dX11_homeStep_10 : decode cX11_homeStep 10 = .ok (.if_icmp .eq 25, 3) := by decide +kernel
theorem dX11_homeStep_13 : decode cX11_homeStep 13 = .ok (.aload_n 0, 1) := by decide +kernel
theorem dX11_homeStep_14 : decode cX11_homeStep 14 = .ok (.getfield 66, 3) := by decide +kernel
theorem dX11_homeStep_17 : decode cX11_homeStep 17 = .ok (.aload_n 0, 1) := by decide +kernel
theorem dX11_homeStep_18 : decode cX11_homeStep 18 = .ok (.iload_n 1, 1) := by decide +kernel
theorem dX11_homeStep_19 : decode cX11_homeStep 19 = .ok (.iload_n 2, 1) := by decide +kernel
theorem dX11_homeStep_20 : decode cX11_homeStep 20 = .ok (.invokevirtual 196, 3) := by decide +kernel
theorem dX11_homeStep_23 : decode cX11_homeStep 23 = .ok (.iaload, 1) := by decide +kernel
theorem dX11_homeStep_24 : decode cX11_homeStep 24 = .ok (.aload_n 0, 1) := by decide +kernel
theorem dX11_homeStep_25 : decode cX11_homeStep 25 = .ok (.getfield 66, 3) := by decide +kernel
theorem dX11_homeStep_28 : decode cX11_homeStep 28 = .ok (.iload_n 1, 1) := by decide +kernel
theorem dX11_homeStep_29 : decode cX11_homeStep 29 = .ok (.iaload, 1) := by decide +kernel
theorem dX11_homeStep_30 : decode cX11_homeStep 30 = .ok (.iconst 1, 1) := by decide +kernel
theorem dX11_homeStep_31 : decode cX11_homeStep 31 = .ok (.isub, 1) := by decide +kernel
theorem dX11_homeStep_32 : decode cX11_homeStep 32 = .ok (.if_icmp .eq 9, 3) := by decide +kernel
theorem dX11_homeStep_35 : decode cX11_homeStep 35 = .ok (.iinc 2 1, 3) := by decide +kernel
theorem dX11_homeStep_38 : decode cX11_homeStep 38 = .ok (.goto (-36), 3) := by decide +kernel
theorem dX11_homeStep_41 : decode cX11_homeStep 41 = .ok (.aload_n 0, 1) := by decide +kernel
theorem dX11_homeStep_42 : decode cX11_homeStep 42 = .ok (.iload_n 2, 1) := by decide +kernel
theorem dX11_homeStep_43 : decode cX11_homeStep 43 = .ok (.putfield 202, 3) := by decide +kernel
theorem dX11_homeStep_46 : decode cX11_homeStep 46 = .ok (.aload_n 0, 1) := by decide +kernel
theorem dX11_homeStep_47 : decode cX11_homeStep 47 = .ok (.iload_n 1, 1) := by decide +kernel
theorem dX11_homeStep_48 : decode cX11_homeStep 48 = .ok (.iload_n 2, 1) := by decide +kernel
theorem dX11_homeStep_49 : decode cX11_homeStep 49 = .ok (.invokevirtual 196, 3) := by decide +kernel
theorem dX11_homeStep_52 : decode cX11_homeStep 52 = .ok (.ireturn, 1) := by decide +kernel
theorem dX11_homeWay_0 : decode cX11_homeWay 0 = .ok (.aload_n 0, 1) := by decide +kernel
theorem dX11_homeWay_1 : decode cX11_homeWay 1 = .ok (.iload_n 1, 1) := by decide +kernel
theorem dX11_homeWay_2 : decode cX11_homeWay 2 = .ok (.invokevirtual 187, 3) := by decide +kernel
theorem dX11_homeWay_5 : decode cX11_homeWay 5 = .ok (.ifCond .eq 11, 3) := by decide +kernel
theorem dX11_homeWay_8 : decode cX11_homeWay 8 = .ok (.aload_n 0, 1) := by decide +kernel
theorem dX11_homeWay_9 : decode cX11_homeWay 9 = .ok (.iload_n 2, 1) := by decide +kernel
theorem dX11_homeWay_10 : decode cX11_homeWay 10 = .ok (.invokevirtual 111, 3) := by decide +kernel
theorem dX11_homeWay_13 : decode cX11_homeWay 13 = .ok (.ifCond .ne 5, 3) := by decide +kernel
theorem dX11_homeWay_16 : decode cX11_homeWay 16 = .ok (.iconst (-1), 1) := by decide +kernel
theorem dX11_homeWay_17 : decode cX11_homeWay 17 = .ok (.ireturn, 1) := by decide +kernel
theorem dX11_homeWay_18 : decode cX11_homeWay 18 = .ok (.aload_n 0, 1) := by decide +kernel
theorem dX11_homeWay_19 : decode cX11_homeWay 19 = .ok (.iload_n 2, 1) := by decide +kernel
theorem dX11_homeWay_20 : decode cX11_homeWay 20 = .ok (.invokevirtual 199, 3) := by decide +kernel
theorem dX11_homeWay_23 : decode cX11_homeWay 23 = .ok (.bipush 8, 2) := by decide +kernel
theorem dX11_homeWay_25 : decode cX11_homeWay 25 = .ok (.iload_n 1, 1) := by decide +kernel
theorem dX11_homeWay_26 : decode cX11_homeWay 26 = .ok (.imul, 1) := by decide +kernel
theorem dX11_homeWay_27 : decode cX11_homeWay 27 = .ok (.aload_n 0, 1) := by decide +kernel
theorem dX11_homeWay_28 : decode cX11_homeWay 28 = .ok (.getfield 108, 3) := by decide +kernel
theorem dX11_homeWay_31 : decode cX11_homeWay 31 = .ok (.iadd, 1) := by decide +kernel
theorem dX11_homeWay_32 : decode cX11_homeWay 32 = .ok (.istore 4, 2) := by decide +kernel
theorem dX11_homeWay_34 : decode cX11_homeWay 34 = .ok (.aload_n 0, 1) := by decide +kernel
theorem dX11_homeWay_35 : decode cX11_homeWay 35 = .ok (.getfield 66, 3) := by decide +kernel
theorem dX11_homeWay_38 : decode cX11_homeWay 38 = .ok (.iload 4, 2) := by decide +kernel
theorem dX11_homeWay_40 : decode cX11_homeWay 40 = .ok (.iaload, 1) := by decide +kernel
theorem dX11_homeWay_41 : decode cX11_homeWay 41 = .ok (.ldc 99, 2) := by decide +kernel
theorem dX11_homeWay_43 : decode cX11_homeWay 43 = .ok (.if_icmp .eq 22, 3) := by decide +kernel
theorem dX11_homeWay_46 : decode cX11_homeWay 46 = .ok (.iload_n 3, 1) := by decide +kernel
theorem dX11_homeWay_47 : decode cX11_homeWay 47 = .ok (.i2l, 1) := by decide +kernel
theorem dX11_homeWay_48 : decode cX11_homeWay 48 = .ok (.lconst 0, 1) := by decide +kernel
theorem dX11_homeWay_49 : decode cX11_homeWay 49 = .ok (.aload_n 0, 1) := by decide +kernel
theorem dX11_homeWay_50 : decode cX11_homeWay 50 = .ok (.getfield 66, 3) := by decide +kernel
theorem dX11_homeWay_53 : decode cX11_homeWay 53 = .ok (.iload 4, 2) := by decide +kernel
theorem dX11_homeWay_55 : decode cX11_homeWay 55 = .ok (.iaload, 1) := by decide +kernel
theorem dX11_homeWay_56 : decode cX11_homeWay 56 = .ok (.iconst 1, 1) := by decide +kernel
theorem dX11_homeWay_57 : decode cX11_homeWay 57 = .ok (.isub, 1) := by decide +kernel
theorem dX11_homeWay_58 : decode cX11_homeWay 58 = .ok (.i2l, 1) := by decide +kernel
theorem dX11_homeWay_59 : decode cX11_homeWay 59 = .ok (.invokestatic 84, 3) := by decide +kernel
theorem dX11_homeWay_62 : decode cX11_homeWay 62 = .ok (.ifCond .ne 6, 3) := by decide +kernel
theorem dX11_homeWay_65 : decode cX11_homeWay 65 = .ok (.bipush (-9), 2) := by decide +kernel
theorem dX11_homeWay_67 : decode cX11_homeWay 67 = .ok (.ireturn, 1) := by decide +kernel
theorem dX11_homeWay_68 : decode cX11_homeWay 68 = .ok (.iconst 0, 1) := by decide +kernel
theorem dX11_homeWay_69 : decode cX11_homeWay 69 = .ok (.istore 5, 2) := by decide +kernel
theorem dX11_homeWay_71 : decode cX11_homeWay 71 = .ok (.iload 5, 2) := by decide +kernel
theorem dX11_homeWay_73 : decode cX11_homeWay 73 = .ok (.iload_n 3, 1) := by decide +kernel
theorem dX11_homeWay_74 : decode cX11_homeWay 74 = .ok (.if_icmp .gt 17, 3) := by decide +kernel
theorem dX11_homeWay_77 : decode cX11_homeWay 77 = .ok (.aload_n 0, 1) := by decide +kernel
theorem dX11_homeWay_78 : decode cX11_homeWay 78 = .ok (.iload 4, 2) := by decide +kernel
theorem dX11_homeWay_80 : decode cX11_homeWay 80 = .ok (.invokevirtual 205, 3) := by decide +kernel
theorem dX11_homeWay_83 : decode cX11_homeWay 83 = .ok (.istore 4, 2) := by decide +kernel
theorem dX11_homeWay_85 : decode cX11_homeWay 85 = .ok (.iinc 5 1, 3) := by decide +kernel
theorem dX11_homeWay_88 : decode cX11_homeWay 88 = .ok (.goto (-17), 3) := by decide +kernel
theorem dX11_homeWay_91 : decode cX11_homeWay 91 = .ok (.aload_n 0, 1) := by decide +kernel
theorem dX11_homeWay_92 : decode cX11_homeWay 92 = .ok (.getfield 202, 3) := by decide +kernel
theorem dX11_homeWay_95 : decode cX11_homeWay 95 = .ok (.ireturn, 1) := by decide +kernel
theorem dX11_homeGroups_0 : decode cX11_homeGroups 0 = .ok (.aload_n 0, 1) := by decide +kernel
theorem dX11_homeGroups_1 : decode cX11_homeGroups 1 = .ok (.iload_n 1, 1) := by decide +kernel
theorem dX11_homeGroups_2 : decode cX11_homeGroups 2 = .ok (.invokevirtual 187, 3) := by decide +kernel
theorem dX11_homeGroups_5 : decode cX11_homeGroups 5 = .ok (.ifCond .eq 11, 3) := by decide +kernel
theorem dX11_homeGroups_8 : decode cX11_homeGroups 8 = .ok (.aload_n 0, 1) := by decide +kernel
theorem dX11_homeGroups_9 : decode cX11_homeGroups 9 = .ok (.iload_n 2, 1) := by decide +kernel
theorem dX11_homeGroups_10 : decode cX11_homeGroups 10 = .ok (.invokevirtual 111, 3) := by decide +kernel
theorem dX11_homeGroups_13 : decode cX11_homeGroups 13 = .ok (.ifCond .ne 5, 3) := by decide +kernel
theorem dX11_homeGroups_16 : decode cX11_homeGroups 16 = .ok (.iconst (-1), 1) := by decide +kernel
theorem dX11_homeGroups_17 : decode cX11_homeGroups 17 = .ok (.ireturn, 1) := by decide +kernel
theorem dX11_homeGroups_18 : decode cX11_homeGroups 18 = .ok (.aload_n 0, 1) := by decide +kernel
theorem dX11_homeGroups_19 : decode cX11_homeGroups 19 = .ok (.iload_n 2, 1) := by decide +kernel
theorem dX11_homeGroups_20 : decode cX11_homeGroups 20 = .ok (.invokevirtual 199, 3) := by decide +kernel
theorem dX11_homeGroups_23 : decode cX11_homeGroups 23 = .ok (.bipush 8, 2) := by decide +kernel
theorem dX11_homeGroups_25 : decode cX11_homeGroups 25 = .ok (.iload_n 1, 1) := by decide +kernel
theorem dX11_homeGroups_26 : decode cX11_homeGroups 26 = .ok (.imul, 1) := by decide +kernel
theorem dX11_homeGroups_27 : decode cX11_homeGroups 27 = .ok (.aload_n 0, 1) := by decide +kernel
theorem dX11_homeGroups_28 : decode cX11_homeGroups 28 = .ok (.getfield 108, 3) := by decide +kernel
theorem dX11_homeGroups_31 : decode cX11_homeGroups 31 = .ok (.iadd, 1) := by decide +kernel
theorem dX11_homeGroups_32 : decode cX11_homeGroups 32 = .ok (.istore_n 3, 1) := by decide +kernel
theorem dX11_homeGroups_33 : decode cX11_homeGroups 33 = .ok (.aload_n 0, 1) := by decide +kernel
theorem dX11_homeGroups_34 : decode cX11_homeGroups 34 = .ok (.getfield 66, 3) := by decide +kernel
theorem dX11_homeGroups_37 : decode cX11_homeGroups 37 = .ok (.iload_n 3, 1) := by decide +kernel
theorem dX11_homeGroups_38 : decode cX11_homeGroups 38 = .ok (.iaload, 1) := by decide +kernel
theorem dX11_homeGroups_39 : decode cX11_homeGroups 39 = .ok (.ldc 99, 2) := by decide +kernel
theorem dX11_homeGroups_41 : decode cX11_homeGroups 41 = .ok (.if_icmp .ne 6, 3) := by decide +kernel
theorem dX11_homeGroups_44 : decode cX11_homeGroups 44 = .ok (.bipush (-9), 2) := by decide +kernel
theorem dX11_homeGroups_46 : decode cX11_homeGroups 46 = .ok (.ireturn, 1) := by decide +kernel
theorem dX11_homeGroups_47 : decode cX11_homeGroups 47 = .ok (.aload_n 0, 1) := by decide +kernel
theorem dX11_homeGroups_48 : decode cX11_homeGroups 48 = .ok (.getfield 66, 3) := by decide +kernel
theorem dX11_homeGroups_51 : decode cX11_homeGroups 51 = .ok (.iload_n 3, 1) := by decide +kernel
theorem dX11_homeGroups_52 : decode cX11_homeGroups 52 = .ok (.iaload, 1) := by decide +kernel
theorem dX11_homeGroups_53 : decode cX11_homeGroups 53 = .ok (.ifCond .le 12, 3) := by decide +kernel
theorem dX11_homeGroups_56 : decode cX11_homeGroups 56 = .ok (.aload_n 0, 1) := by decide +kernel
theorem dX11_homeGroups_57 : decode cX11_homeGroups 57 = .ok (.iload_n 3, 1) := by decide +kernel
theorem dX11_homeGroups_58 : decode cX11_homeGroups 58 = .ok (.invokevirtual 205, 3) := by decide +kernel
theorem dX11_homeGroups_61 : decode cX11_homeGroups 61 = .ok (.istore_n 3, 1) := by decide +kernel
theorem dX11_homeGroups_62 : decode cX11_homeGroups 62 = .ok (.goto (-15), 3) := by decide +kernel
theorem dX11_homeGroups_65 : decode cX11_homeGroups 65 = .ok (.iload_n 3, 1) := by decide +kernel
theorem dX11_homeGroups_66 : decode cX11_homeGroups 66 = .ok (.bipush 8, 2) := by decide +kernel
theorem dX11_homeGroups_68 : decode cX11_homeGroups 68 = .ok (.irem, 1) := by decide +kernel
theorem dX11_homeGroups_69 : decode cX11_homeGroups 69 = .ok (.ireturn, 1) := by decide +kernel
theorem dX11_whence_0 : decode cX11_whence 0 = .ok (.aload_n 0, 1) := by decide +kernel
theorem dX11_whence_1 : decode cX11_whence 1 = .ok (.iload_n 1, 1) := by decide +kernel
theorem dX11_whence_2 : decode cX11_whence 2 = .ok (.invokevirtual 111, 3) := by decide +kernel
theorem dX11_whence_5 : decode cX11_whence 5 = .ok (.ifCond .ne 5, 3) := by decide +kernel
theorem dX11_whence_8 : decode cX11_whence 8 = .ok (.iconst (-1), 1) := by decide +kernel
theorem dX11_whence_9 : decode cX11_whence 9 = .ok (.ireturn, 1) := by decide +kernel
theorem dX11_whence_10 : decode cX11_whence 10 = .ok (.aload_n 0, 1) := by decide +kernel
theorem dX11_whence_11 : decode cX11_whence 11 = .ok (.iload_n 1, 1) := by decide +kernel
theorem dX11_whence_12 : decode cX11_whence 12 = .ok (.invokevirtual 199, 3) := by decide +kernel
theorem dX11_whence_15 : decode cX11_whence 15 = .ok (.iconst 0, 1) := by decide +kernel
theorem dX11_whence_16 : decode cX11_whence 16 = .ok (.istore_n 3, 1) := by decide +kernel
theorem dX11_whence_17 : decode cX11_whence 17 = .ok (.bipush (-9), 2) := by decide +kernel
theorem dX11_whence_19 : decode cX11_whence 19 = .ok (.istore 4, 2) := by decide +kernel
theorem dX11_whence_21 : decode cX11_whence 21 = .ok (.iconst (-1), 1) := by decide +kernel
theorem dX11_whence_22 : decode cX11_whence 22 = .ok (.istore 5, 2) := by decide +kernel
theorem dX11_whence_24 : decode cX11_whence 24 = .ok (.iconst 0, 1) := by decide +kernel
theorem dX11_whence_25 : decode cX11_whence 25 = .ok (.istore 6, 2) := by decide +kernel
theorem dX11_whence_27 : decode cX11_whence 27 = .ok (.iload 6, 2) := by decide +kernel
theorem dX11_whence_29 : decode cX11_whence 29 = .ok (.iconst 3, 1) := by decide +kernel
theorem dX11_whence_30 : decode cX11_whence 30 = .ok (.aload_n 0, 1) := by decide +kernel
theorem dX11_whence_31 : decode cX11_whence 31 = .ok (.invokevirtual 100, 3) := by decide +kernel
theorem dX11_whence_34 : decode cX11_whence 34 = .ok (.imul, 1) := by decide +kernel
theorem dX11_whence_35 : decode cX11_whence 35 = .ok (.if_icmp .ge 87, 3) := by decide +kernel
theorem dX11_whence_38 : decode cX11_whence 38 = .ok (.aload_n 0, 1) := by decide +kernel
theorem dX11_whence_39 : decode cX11_whence 39 = .ok (.getfield 66, 3) := by decide +kernel
theorem dX11_whence_42 : decode cX11_whence 42 = .ok (.bipush 8, 2) := by decide +kernel
theorem dX11_whence_44 : decode cX11_whence 44 = .ok (.iload 6, 2) := by decide +kernel
theorem dX11_whence_46 : decode cX11_whence 46 = .ok (.imul, 1) := by decide +kernel
theorem dX11_whence_47 : decode cX11_whence 47 = .ok (.aload_n 0, 1) := by decide +kernel
theorem dX11_whence_48 : decode cX11_whence 48 = .ok (.getfield 108, 3) := by decide +kernel
theorem dX11_whence_51 : decode cX11_whence 51 = .ok (.iadd, 1) := by decide +kernel
theorem dX11_whence_52 : decode cX11_whence 52 = .ok (.iaload, 1) := by decide +kernel
theorem dX11_whence_53 : decode cX11_whence 53 = .ok (.istore 7, 2) := by decide +kernel
theorem dX11_whence_55 : decode cX11_whence 55 = .ok (.iload_n 3, 1) := by decide +kernel
theorem dX11_whence_56 : decode cX11_whence 56 = .ok (.iload 7, 2) := by decide +kernel
theorem dX11_whence_58 : decode cX11_whence 58 = .ok (.ldc 99, 2) := by decide +kernel
theorem dX11_whence_60 : decode cX11_whence 60 = .ok (.if_icmp .ge 7, 3) := by decide +kernel
theorem dX11_whence_63 : decode cX11_whence 63 = .ok (.iconst 1, 1) := by decide +kernel
theorem dX11_whence_64 : decode cX11_whence 64 = .ok (.goto 4, 3) := by decide +kernel
theorem dX11_whence_67 : decode cX11_whence 67 = .ok (.iconst 0, 1) := by decide +kernel
theorem dX11_whence_68 : decode cX11_whence 68 = .ok (.iadd, 1) := by decide +kernel
theorem dX11_whence_69 : decode cX11_whence 69 = .ok (.istore_n 3, 1) := by decide +kernel
theorem dX11_whence_70 : decode cX11_whence 70 = .ok (.iload 7, 2) := by decide +kernel
theorem dX11_whence_72 : decode cX11_whence 72 = .ok (.ldc 99, 2) := by decide +kernel
theorem dX11_whence_74 : decode cX11_whence 74 = .ok (.if_icmp .ge 15, 3) := by decide +kernel
theorem dX11_whence_77 : decode cX11_whence 77 = .ok (.iload 7, 2) := by decide +kernel
theorem dX11_whence_79 : decode cX11_whence 79 = .ok (.iload 5, 2) := by decide +kernel
theorem dX11_whence_81 : decode cX11_whence 81 = .ok (.if_icmp .le 8, 3) := by decide +kernel
theorem dX11_whence_84 : decode cX11_whence 84 = .ok (.iload 6, 2) := by decide +kernel
theorem dX11_whence_86 : decode cX11_whence 86 = .ok (.goto 5, 3) := by decide +kernel
theorem dX11_whence_89 : decode cX11_whence 89 = .ok (.iload 4, 2) := by decide +kernel
theorem dX11_whence_91 : decode cX11_whence 91 = .ok (.istore 4, 2) := by decide +kernel
theorem dX11_whence_93 : decode cX11_whence 93 = .ok (.iload 7, 2) := by decide +kernel
theorem dX11_whence_95 : decode cX11_whence 95 = .ok (.ldc 99, 2) := by decide +kernel
theorem dX11_whence_97 : decode cX11_whence 97 = .ok (.if_icmp .ge 15, 3) := by decide +kernel
theorem dX11_whence_100 : decode cX11_whence 100 = .ok (.iload 7, 2) := by decide +kernel
theorem dX11_whence_102 : decode cX11_whence 102 = .ok (.iload 5, 2) := by decide +kernel
theorem dX11_whence_104 : decode cX11_whence 104 = .ok (.if_icmp .le 8, 3) := by decide +kernel
theorem dX11_whence_107 : decode cX11_whence 107 = .ok (.iload 7, 2) := by decide +kernel
theorem dX11_whence_109 : decode cX11_whence 109 = .ok (.goto 5, 3) := by decide +kernel
theorem dX11_whence_112 : decode cX11_whence 112 = .ok (.iload 5, 2) := by decide +kernel
theorem dX11_whence_114 : decode cX11_whence 114 = .ok (.istore 5, 2) := by decide +kernel
theorem dX11_whence_116 : decode cX11_whence 116 = .ok (.iinc 6 1, 3) := by decide +kernel
theorem dX11_whence_119 : decode cX11_whence 119 = .ok (.goto (-92), 3) := by decide +kernel
theorem dX11_whence_122 : decode cX11_whence 122 = .ok (.iload_n 2, 1) := by decide +kernel
theorem dX11_whence_123 : decode cX11_whence 123 = .ok (.ifCond .eq 8, 3) := by decide +kernel
theorem dX11_whence_126 : decode cX11_whence 126 = .ok (.iload 4, 2) := by decide +kernel
theorem dX11_whence_128 : decode cX11_whence 128 = .ok (.goto 4, 3) := by decide +kernel
theorem dX11_whence_131 : decode cX11_whence 131 = .ok (.iload_n 3, 1) := by decide +kernel
theorem dX11_whence_132 : decode cX11_whence 132 = .ok (.ireturn, 1) := by decide +kernel
theorem dX11_must_0 : decode cX11_must 0 = .ok (.aload_n 0, 1) := by decide +kernel
theorem dX11_must_1 : decode cX11_must 1 = .ok (.iload_n 1, 1) := by decide +kernel
theorem dX11_must_2 : decode cX11_must 2 = .ok (.invokevirtual 187, 3) := by decide +kernel
theorem dX11_must_5 : decode cX11_must 5 = .ok (.ifCond .eq 19, 3) := by decide +kernel
theorem dX11_must_8 : decode cX11_must 8 = .ok (.aload_n 0, 1) := by decide +kernel
theorem dX11_must_9 : decode cX11_must 9 = .ok (.iload_n 2, 1) := by decide +kernel
theorem dX11_must_10 : decode cX11_must 10 = .ok (.invokevirtual 111, 3) := by decide +kernel
theorem dX11_must_13 : decode cX11_must 13 = .ok (.ifCond .eq 11, 3) := by decide +kernel
theorem dX11_must_16 : decode cX11_must 16 = .ok (.aload_n 0, 1) := by decide +kernel
theorem dX11_must_17 : decode cX11_must 17 = .ok (.iload_n 3, 1) := by decide +kernel
theorem dX11_must_18 : decode cX11_must 18 = .ok (.invokevirtual 111, 3) := by decide +kernel
theorem dX11_must_21 : decode cX11_must 21 = .ok (.ifCond .ne 5, 3) := by decide +kernel
theorem dX11_must_24 : decode cX11_must 24 = .ok (.iconst (-1), 1) := by decide +kernel
theorem dX11_must_25 : decode cX11_must 25 = .ok (.ireturn, 1) := by decide +kernel
theorem dX11_must_26 : decode cX11_must 26 = .ok (.aload_n 0, 1) := by decide +kernel
theorem dX11_must_27 : decode cX11_must 27 = .ok (.iload_n 2, 1) := by decide +kernel
theorem dX11_must_28 : decode cX11_must 28 = .ok (.invokevirtual 199, 3) := by decide +kernel
theorem dX11_must_31 : decode cX11_must 31 = .ok (.aload_n 0, 1) := by decide +kernel
theorem dX11_must_32 : decode cX11_must 32 = .ok (.getfield 66, 3) := by decide +kernel
theorem dX11_must_35 : decode cX11_must 35 = .ok (.bipush 8, 2) := by decide +kernel
theorem dX11_must_37 : decode cX11_must 37 = .ok (.iload_n 1, 1) := by decide +kernel
theorem dX11_must_38 : decode cX11_must 38 = .ok (.imul, 1) := by decide +kernel
theorem dX11_must_39 : decode cX11_must 39 = .ok (.aload_n 0, 1) := by decide +kernel
theorem dX11_must_40 : decode cX11_must 40 = .ok (.getfield 108, 3) := by decide +kernel
theorem dX11_must_43 : decode cX11_must 43 = .ok (.iadd, 1) := by decide +kernel
theorem dX11_must_44 : decode cX11_must 44 = .ok (.iaload, 1) := by decide +kernel
theorem dX11_must_45 : decode cX11_must 45 = .ok (.ldc 99, 2) := by decide +kernel
theorem dX11_must_47 : decode cX11_must 47 = .ok (.if_icmp .ne 5, 3) := by decide +kernel
theorem dX11_must_50 : decode cX11_must 50 = .ok (.iconst 0, 1) := by decide +kernel
theorem dX11_must_51 : decode cX11_must 51 = .ok (.ireturn, 1) := by decide +kernel
theorem dX11_must_52 : decode cX11_must 52 = .ok (.aload_n 0, 1) := by decide +kernel
theorem dX11_must_53 : decode cX11_must 53 = .ok (.getfield 32, 3) := by decide +kernel
theorem dX11_must_56 : decode cX11_must 56 = .ok (.iload_n 3, 1) := by decide +kernel
theorem dX11_must_57 : decode cX11_must 57 = .ok (.iaload, 1) := by decide +kernel
theorem dX11_must_58 : decode cX11_must 58 = .ok (.istore 4, 2) := by decide +kernel
theorem dX11_must_60 : decode cX11_must 60 = .ok (.aload_n 0, 1) := by decide +kernel
theorem dX11_must_61 : decode cX11_must 61 = .ok (.getfield 32, 3) := by decide +kernel
theorem dX11_must_64 : decode cX11_must 64 = .ok (.iload_n 3, 1) := by decide +kernel
theorem dX11_must_65 : decode cX11_must 65 = .ok (.iconst 1, 1) := by decide +kernel
theorem dX11_must_66 : decode cX11_must 66 = .ok (.iastore, 1) := by decide +kernel
theorem dX11_must_67 : decode cX11_must 67 = .ok (.aload_n 0, 1) := by decide +kernel
theorem dX11_must_68 : decode cX11_must 68 = .ok (.iload_n 2, 1) := by decide +kernel
theorem dX11_must_69 : decode cX11_must 69 = .ok (.invokevirtual 199, 3) := by decide +kernel
theorem dX11_must_72 : decode cX11_must 72 = .ok (.aload_n 0, 1) := by decide +kernel
theorem dX11_must_73 : decode cX11_must 73 = .ok (.getfield 66, 3) := by decide +kernel
theorem dX11_must_76 : decode cX11_must 76 = .ok (.bipush 8, 2) := by decide +kernel
theorem dX11_must_78 : decode cX11_must 78 = .ok (.iload_n 1, 1) := by decide +kernel
theorem dX11_must_79 : decode cX11_must 79 = .ok (.imul, 1) := by decide +kernel
theorem dX11_must_80 : decode cX11_must 80 = .ok (.aload_n 0, 1) := by decide +kernel
theorem dX11_must_81 : decode cX11_must 81 = .ok (.getfield 108, 3) := by decide +kernel
theorem dX11_must_84 : decode cX11_must 84 = .ok (.iadd, 1) := by decide +kernel
theorem dX11_must_85 : decode cX11_must 85 = .ok (.iaload, 1) := by decide +kernel
theorem dX11_must_86 : decode cX11_must 86 = .ok (.ldc 99, 2) := by decide +kernel
theorem dX11_must_88 : decode cX11_must 88 = .ok (.if_icmp .ge 7, 3) := by decide +kernel
theorem dX11_must_91 : decode cX11_must 91 = .ok (.iconst 1, 1) := by decide +kernel
theorem dX11_must_92 : decode cX11_must 92 = .ok (.goto 4, 3) := by decide +kernel
theorem dX11_must_95 : decode cX11_must 95 = .ok (.iconst 0, 1) := by decide +kernel
theorem dX11_must_96 : decode cX11_must 96 = .ok (.istore 5, 2) := by decide +kernel
theorem dX11_must_98 : decode cX11_must 98 = .ok (.aload_n 0, 1) := by decide +kernel
theorem dX11_must_99 : decode cX11_must 99 = .ok (.getfield 32, 3) := by decide +kernel
theorem dX11_must_102 : decode cX11_must 102 = .ok (.iload_n 3, 1) := by decide +kernel
theorem dX11_must_103 : decode cX11_must 103 = .ok (.iload 4, 2) := by decide +kernel
theorem dX11_must_105 : decode cX11_must 105 = .ok (.iastore, 1) := by decide +kernel
theorem dX11_must_106 : decode cX11_must 106 = .ok (.iload 5, 2) := by decide +kernel
theorem dX11_must_108 : decode cX11_must 108 = .ok (.ifCond .eq 7, 3) := by decide +kernel
theorem dX11_must_111 : decode cX11_must 111 = .ok (.iconst 0, 1) := by decide +kernel
theorem dX11_must_112 : decode cX11_must 112 = .ok (.goto 4, 3) := by decide +kernel
theorem dX11_must_115 : decode cX11_must 115 = .ok (.iconst 1, 1) := by decide +kernel
theorem dX11_must_116 : decode cX11_must 116 = .ok (.ireturn, 1) := by decide +kernel
theorem dX11_count_0 : decode cX11_count 0 = .ok (.iconst 0, 1) := by decide +kernel
theorem dX11_count_1 : decode cX11_count 1 = .ok (.istore_n 2, 1) := by decide +kernel
theorem dX11_count_2 : decode cX11_count 2 = .ok (.iconst 0, 1) := by decide +kernel
theorem dX11_count_3 : decode cX11_count 3 = .ok (.istore_n 3, 1) := by decide +kernel
theorem dX11_count_4 : decode cX11_count 4 = .ok (.iconst 0, 1) := by decide +kernel
theorem dX11_count_5 : decode cX11_count 5 = .ok (.istore 4, 2) := by decide +kernel
theorem dX11_count_7 : decode cX11_count 7 = .ok (.iconst 0, 1) := by decide +kernel
theorem dX11_count_8 : decode cX11_count 8 = .ok (.istore 5, 2) := by decide +kernel
theorem dX11_count_10 : decode cX11_count 10 = .ok (.iload 5, 2) := by decide +kernel
theorem dX11_count_12 : decode cX11_count 12 = .ok (.iconst 3, 1) := by decide +kernel
theorem dX11_count_13 : decode cX11_count 13 = .ok (.if_icmp .ge 21, 3) := by decide +kernel
theorem dX11_count_16 : decode cX11_count 16 = .ok (.iload_n 2, 1) := by decide +kernel
theorem dX11_count_17 : decode cX11_count 17 = .ok (.aload_n 0, 1) := by decide +kernel
theorem dX11_count_18 : decode cX11_count 18 = .ok (.getfield 108, 3) := by decide +kernel
theorem dX11_count_21 : decode cX11_count 21 = .ok (.iload 5, 2) := by decide +kernel
theorem dX11_count_23 : decode cX11_count 23 = .ok (.ishr, 1) := by decide +kernel
theorem dX11_count_24 : decode cX11_count 24 = .ok (.iconst 1, 1) := by decide +kernel
theorem dX11_count_25 : decode cX11_count 25 = .ok (.iand, 1) := by decide +kernel
theorem dX11_count_26 : decode cX11_count 26 = .ok (.iadd, 1) := by decide +kernel
theorem dX11_count_27 : decode cX11_count 27 = .ok (.istore_n 2, 1) := by decide +kernel
theorem dX11_count_28 : decode cX11_count 28 = .ok (.iinc 5 1, 3) := by decide +kernel
theorem dX11_count_31 : decode cX11_count 31 = .ok (.goto (-21), 3) := by decide +kernel
theorem dX11_count_34 : decode cX11_count 34 = .ok (.iconst 0, 1) := by decide +kernel
theorem dX11_count_35 : decode cX11_count 35 = .ok (.istore 5, 2) := by decide +kernel
theorem dX11_count_37 : decode cX11_count 37 = .ok (.iload 5, 2) := by decide +kernel
theorem dX11_count_39 : decode cX11_count 39 = .ok (.aload_n 0, 1) := by decide +kernel
theorem dX11_count_40 : decode cX11_count 40 = .ok (.invokevirtual 100, 3) := by decide +kernel
theorem dX11_count_43 : decode cX11_count 43 = .ok (.if_icmp .ge 27, 3) := by decide +kernel
theorem dX11_count_46 : decode cX11_count 46 = .ok (.iload_n 3, 1) := by decide +kernel
theorem dX11_count_47 : decode cX11_count 47 = .ok (.aload_n 0, 1) := by decide +kernel
theorem dX11_count_48 : decode cX11_count 48 = .ok (.getfield 35, 3) := by decide +kernel
theorem dX11_count_51 : decode cX11_count 51 = .ok (.iload 5, 2) := by decide +kernel
theorem dX11_count_53 : decode cX11_count 53 = .ok (.iaload, 1) := by decide +kernel
theorem dX11_count_54 : decode cX11_count 54 = .ok (.ifCond .le 7, 3) := by decide +kernel
theorem dX11_count_57 : decode cX11_count 57 = .ok (.iconst 1, 1) := by decide +kernel
theorem dX11_count_58 : decode cX11_count 58 = .ok (.goto 4, 3) := by decide +kernel
theorem dX11_count_61 : decode cX11_count 61 = .ok (.iconst 0, 1) := by decide +kernel
theorem dX11_count_62 : decode cX11_count 62 = .ok (.iadd, 1) := by decide +kernel
theorem dX11_count_63 : decode cX11_count 63 = .ok (.istore_n 3, 1) := by decide +kernel
theorem dX11_count_64 : decode cX11_count 64 = .ok (.iinc 5 1, 3) := by decide +kernel
theorem dX11_count_67 : decode cX11_count 67 = .ok (.goto (-30), 3) := by decide +kernel
theorem dX11_count_70 : decode cX11_count 70 = .ok (.iconst 0, 1) := by decide +kernel
theorem dX11_count_71 : decode cX11_count 71 = .ok (.istore 5, 2) := by decide +kernel
theorem dX11_count_73 : decode cX11_count 73 = .ok (.iload 5, 2) := by decide +kernel
theorem dX11_count_75 : decode cX11_count 75 = .ok (.iconst 3, 1) := by decide +kernel
theorem dX11_count_76 : decode cX11_count 76 = .ok (.aload_n 0, 1) := by decide +kernel
theorem dX11_count_77 : decode cX11_count 77 = .ok (.invokevirtual 100, 3) := by decide +kernel
theorem dX11_count_80 : decode cX11_count 80 = .ok (.imul, 1) := by decide +kernel
theorem dX11_count_81 : decode cX11_count 81 = .ok (.if_icmp .ge 32, 3) := by decide +kernel
theorem dX11_count_84 : decode cX11_count 84 = .ok (.iload 4, 2) := by decide +kernel
theorem dX11_count_86 : decode cX11_count 86 = .ok (.aload_n 0, 1) := by decide +kernel
theorem dX11_count_87 : decode cX11_count 87 = .ok (.iload 5, 2) := by decide +kernel
theorem dX11_count_89 : decode cX11_count 89 = .ok (.aload_n 0, 1) := by decide +kernel
theorem dX11_count_90 : decode cX11_count 90 = .ok (.getfield 108, 3) := by decide +kernel
theorem dX11_count_93 : decode cX11_count 93 = .ok (.invokevirtual 190, 3) := by decide +kernel
theorem dX11_count_96 : decode cX11_count 96 = .ok (.ifCond .eq 7, 3) := by decide +kernel
theorem dX11_count_99 : decode cX11_count 99 = .ok (.iconst 1, 1) := by decide +kernel
theorem dX11_count_100 : decode cX11_count 100 = .ok (.goto 4, 3) := by decide +kernel
theorem dX11_count_103 : decode cX11_count 103 = .ok (.iconst 0, 1) := by decide +kernel
theorem dX11_count_104 : decode cX11_count 104 = .ok (.iadd, 1) := by decide +kernel
theorem dX11_count_105 : decode cX11_count 105 = .ok (.istore 4, 2) := by decide +kernel
theorem dX11_count_107 : decode cX11_count 107 = .ok (.iinc 5 1, 3) := by decide +kernel
theorem dX11_count_110 : decode cX11_count 110 = .ok (.goto (-37), 3) := by decide +kernel
theorem dX11_count_113 : decode cX11_count 113 = .ok (.iload_n 1, 1) := by decide +kernel
theorem dX11_count_114 : decode cX11_count 114 = .ok (.tableswitch 64 0 5 #[38, 43, 52, 54, 59, 61], 38) := by decide +kernel
theorem dX11_count_152 : decode cX11_count 152 = .ok (.aload_n 0, 1) := by decide +kernel
theorem dX11_count_153 : decode cX11_count 153 = .ok (.invokevirtual 100, 3) := by decide +kernel
theorem dX11_count_156 : decode cX11_count 156 = .ok (.ireturn, 1) := by decide +kernel
theorem dX11_count_157 : decode cX11_count 157 = .ok (.aload_n 0, 1) := by decide +kernel
theorem dX11_count_158 : decode cX11_count 158 = .ok (.aload_n 0, 1) := by decide +kernel
theorem dX11_count_159 : decode cX11_count 159 = .ok (.getfield 108, 3) := by decide +kernel
theorem dX11_count_162 : decode cX11_count 162 = .ok (.invokevirtual 156, 3) := by decide +kernel
theorem dX11_count_165 : decode cX11_count 165 = .ok (.ireturn, 1) := by decide +kernel
theorem dX11_count_166 : decode cX11_count 166 = .ok (.iload_n 2, 1) := by decide +kernel
theorem dX11_count_167 : decode cX11_count 167 = .ok (.ireturn, 1) := by decide +kernel
theorem dX11_count_168 : decode cX11_count 168 = .ok (.aload_n 0, 1) := by decide +kernel
theorem dX11_count_169 : decode cX11_count 169 = .ok (.getfield 175, 3) := by decide +kernel
theorem dX11_count_172 : decode cX11_count 172 = .ok (.ireturn, 1) := by decide +kernel
theorem dX11_count_173 : decode cX11_count 173 = .ok (.iload_n 3, 1) := by decide +kernel
theorem dX11_count_174 : decode cX11_count 174 = .ok (.ireturn, 1) := by decide +kernel
end
section
theorem dX11_count_175 : decode cX11_count 175 = .ok (.iload 4, 2) := by decide +kernel
theorem dX11_count_177 : decode cX11_count 177 = .ok (.ireturn, 1) := by decide +kernel
theorem dX11_count_178 : decode cX11_count 178 = .ok (.bipush (-2), 2) := by decide +kernel
theorem dX11_count_180 : decode cX11_count 180 = .ok (.ireturn, 1) := by decide +kernel
theorem dJ6_bitCount_0f7a4_0 : decode cJ6_bitCount_0f7a4 0 = .ok (.iload_n 0, 1) := by decide +kernel
theorem dJ6_bitCount_0f7a4_1 : decode cJ6_bitCount_0f7a4 1 = .ok (.iload_n 0, 1) := by decide +kernel
theorem dJ6_bitCount_0f7a4_2 : decode cJ6_bitCount_0f7a4 2 = .ok (.iconst 1, 1) := by decide +kernel
theorem dJ6_bitCount_0f7a4_3 : decode cJ6_bitCount_0f7a4 3 = .ok (.iushr, 1) := by decide +kernel
theorem dJ6_bitCount_0f7a4_4 : decode cJ6_bitCount_0f7a4 4 = .ok (.ldc_w 265, 3) := by decide +kernel
theorem dJ6_bitCount_0f7a4_7 : decode cJ6_bitCount_0f7a4 7 = .ok (.iand, 1) := by decide +kernel
theorem dJ6_bitCount_0f7a4_8 : decode cJ6_bitCount_0f7a4 8 = .ok (.isub, 1) := by decide +kernel
theorem dJ6_bitCount_0f7a4_9 : decode cJ6_bitCount_0f7a4 9 = .ok (.istore_n 0, 1) := by decide +kernel
theorem dJ6_bitCount_0f7a4_10 : decode cJ6_bitCount_0f7a4 10 = .ok (.iload_n 0, 1) := by decide +kernel
theorem dJ6_bitCount_0f7a4_11 : decode cJ6_bitCount_0f7a4 11 = .ok (.ldc_w 266, 3) := by decide +kernel
theorem dJ6_bitCount_0f7a4_14 : decode cJ6_bitCount_0f7a4 14 = .ok (.iand, 1) := by decide +kernel
theorem dJ6_bitCount_0f7a4_15 : decode cJ6_bitCount_0f7a4 15 = .ok (.iload_n 0, 1) := by decide +kernel
theorem dJ6_bitCount_0f7a4_16 : decode cJ6_bitCount_0f7a4 16 = .ok (.iconst 2, 1) := by decide +kernel
theorem dJ6_bitCount_0f7a4_17 : decode cJ6_bitCount_0f7a4 17 = .ok (.iushr, 1) := by decide +kernel
theorem dJ6_bitCount_0f7a4_18 : decode cJ6_bitCount_0f7a4 18 = .ok (.ldc_w 266, 3) := by decide +kernel
theorem dJ6_bitCount_0f7a4_21 : decode cJ6_bitCount_0f7a4 21 = .ok (.iand, 1) := by decide +kernel
theorem dJ6_bitCount_0f7a4_22 : decode cJ6_bitCount_0f7a4 22 = .ok (.iadd, 1) := by decide +kernel
theorem dJ6_bitCount_0f7a4_23 : decode cJ6_bitCount_0f7a4 23 = .ok (.istore_n 0, 1) := by decide +kernel
theorem dJ6_bitCount_0f7a4_24 : decode cJ6_bitCount_0f7a4 24 = .ok (.iload_n 0, 1) := by decide +kernel
theorem dJ6_bitCount_0f7a4_25 : decode cJ6_bitCount_0f7a4 25 = .ok (.iload_n 0, 1) := by decide +kernel
theorem dJ6_bitCount_0f7a4_26 : decode cJ6_bitCount_0f7a4 26 = .ok (.iconst 4, 1) := by decide +kernel
theorem dJ6_bitCount_0f7a4_27 : decode cJ6_bitCount_0f7a4 27 = .ok (.iushr, 1) := by decide +kernel
theorem dJ6_bitCount_0f7a4_28 : decode cJ6_bitCount_0f7a4 28 = .ok (.iadd, 1) := by decide +kernel
theorem dJ6_bitCount_0f7a4_29 : decode cJ6_bitCount_0f7a4 29 = .ok (.ldc_w 267, 3) := by decide +kernel
theorem dJ6_bitCount_0f7a4_32 : decode cJ6_bitCount_0f7a4 32 = .ok (.iand, 1) := by decide +kernel
theorem dJ6_bitCount_0f7a4_33 : decode cJ6_bitCount_0f7a4 33 = .ok (.istore_n 0, 1) := by decide +kernel
theorem dJ6_bitCount_0f7a4_34 : decode cJ6_bitCount_0f7a4 34 = .ok (.iload_n 0, 1) := by decide +kernel
theorem dJ6_bitCount_0f7a4_35 : decode cJ6_bitCount_0f7a4 35 = .ok (.iload_n 0, 1) := by decide +kernel
theorem dJ6_bitCount_0f7a4_36 : decode cJ6_bitCount_0f7a4 36 = .ok (.bipush 8, 2) := by decide +kernel
theorem dJ6_bitCount_0f7a4_38 : decode cJ6_bitCount_0f7a4 38 = .ok (.iushr, 1) := by decide +kernel
theorem dJ6_bitCount_0f7a4_39 : decode cJ6_bitCount_0f7a4 39 = .ok (.iadd, 1) := by decide +kernel
theorem dJ6_bitCount_0f7a4_40 : decode cJ6_bitCount_0f7a4 40 = .ok (.istore_n 0, 1) := by decide +kernel
theorem dJ6_bitCount_0f7a4_41 : decode cJ6_bitCount_0f7a4 41 = .ok (.iload_n 0, 1) := by decide +kernel
theorem dJ6_bitCount_0f7a4_42 : decode cJ6_bitCount_0f7a4 42 = .ok (.iload_n 0, 1) := by decide +kernel
theorem dJ6_bitCount_0f7a4_43 : decode cJ6_bitCount_0f7a4 43 = .ok (.bipush 16, 2) := by decide +kernel
theorem dJ6_bitCount_0f7a4_45 : decode cJ6_bitCount_0f7a4 45 = .ok (.iushr, 1) := by decide +kernel
theorem dJ6_bitCount_0f7a4_46 : decode cJ6_bitCount_0f7a4 46 = .ok (.iadd, 1) := by decide +kernel
theorem dJ6_bitCount_0f7a4_47 : decode cJ6_bitCount_0f7a4 47 = .ok (.istore_n 0, 1) := by decide +kernel
theorem dJ6_bitCount_0f7a4_48 : decode cJ6_bitCount_0f7a4 48 = .ok (.iload_n 0, 1) := by decide +kernel
theorem dJ6_bitCount_0f7a4_49 : decode cJ6_bitCount_0f7a4 49 = .ok (.bipush 63, 2) := by decide +kernel
theorem dJ6_bitCount_0f7a4_51 : decode cJ6_bitCount_0f7a4 51 = .ok (.iand, 1) := by decide +kernel
theorem dJ6_bitCount_0f7a4_52 : decode cJ6_bitCount_0f7a4 52 = .ok (.ireturn, 1) := by decide +kernel
theorem dJ9_max_7cf53_0 : decode cJ9_max_7cf53 0 = .ok (.iload_n 0, 1) := by decide +kernel
theorem dJ9_max_7cf53_1 : decode cJ9_max_7cf53 1 = .ok (.iload_n 1, 1) := by decide +kernel
theorem dJ9_max_7cf53_2 : decode cJ9_max_7cf53 2 = .ok (.if_icmp .lt 7, 3) := by decide +kernel
theorem dJ9_max_7cf53_5 : decode cJ9_max_7cf53 5 = .ok (.iload_n 0, 1) := by decide +kernel
theorem dJ9_max_7cf53_6 : decode cJ9_max_7cf53 6 = .ok (.goto 4, 3) := by decide +kernel
theorem dJ9_max_7cf53_9 : decode cJ9_max_7cf53 9 = .ok (.iload_n 1, 1) := by decide +kernel
theorem dJ9_max_7cf53_10 : decode cJ9_max_7cf53 10 = .ok (.ireturn, 1) := by decide +kernel
theorem dJ9_min_7cf53_0 : decode cJ9_min_7cf53 0 = .ok (.iload_n 0, 1) := by decide +kernel
theorem dJ9_min_7cf53_1 : decode cJ9_min_7cf53 1 = .ok (.iload_n 1, 1) := by decide +kernel
theorem dJ9_min_7cf53_2 : decode cJ9_min_7cf53 2 = .ok (.if_icmp .gt 7, 3) := by decide +kernel
theorem dJ9_min_7cf53_5 : decode cJ9_min_7cf53 5 = .ok (.iload_n 0, 1) := by decide +kernel
theorem dJ9_min_7cf53_6 : decode cJ9_min_7cf53 6 = .ok (.goto 4, 3) := by decide +kernel
theorem dJ9_min_7cf53_9 : decode cJ9_min_7cf53 9 = .ok (.iload_n 1, 1) := by decide +kernel
theorem dJ9_min_7cf53_10 : decode cJ9_min_7cf53 10 = .ok (.ireturn, 1) := by decide +kernel
theorem dJ7_fill_53178_0 : decode cJ7_fill_53178 0 = .ok (.iconst 0, 1) := by decide +kernel
theorem dJ7_fill_53178_1 : decode cJ7_fill_53178 1 = .ok (.istore_n 2, 1) := by decide +kernel
theorem dJ7_fill_53178_2 : decode cJ7_fill_53178 2 = .ok (.aload_n 0, 1) := by decide +kernel
theorem dJ7_fill_53178_3 : decode cJ7_fill_53178 3 = .ok (.arraylength, 1) := by decide +kernel
theorem dJ7_fill_53178_4 : decode cJ7_fill_53178 4 = .ok (.istore_n 3, 1) := by decide +kernel
theorem dJ7_fill_53178_5 : decode cJ7_fill_53178 5 = .ok (.iload_n 2, 1) := by decide +kernel
theorem dJ7_fill_53178_6 : decode cJ7_fill_53178 6 = .ok (.iload_n 3, 1) := by decide +kernel
theorem dJ7_fill_53178_7 : decode cJ7_fill_53178 7 = .ok (.if_icmp .ge 13, 3) := by decide +kernel
theorem dJ7_fill_53178_10 : decode cJ7_fill_53178 10 = .ok (.aload_n 0, 1) := by decide +kernel
theorem dJ7_fill_53178_11 : decode cJ7_fill_53178 11 = .ok (.iload_n 2, 1) := by decide +kernel
theorem dJ7_fill_53178_12 : decode cJ7_fill_53178 12 = .ok (.iload_n 1, 1) := by decide +kernel
theorem dJ7_fill_53178_13 : decode cJ7_fill_53178 13 = .ok (.iastore, 1) := by decide +kernel
theorem dJ7_fill_53178_14 : decode cJ7_fill_53178 14 = .ok (.iinc 2 1, 3) := by decide +kernel
theorem dJ7_fill_53178_17 : decode cJ7_fill_53178 17 = .ok (.goto (-12), 3) := by decide +kernel
theorem dJ7_fill_53178_20 : decode cJ7_fill_53178 20 = .ok (.return_, 1) := by decide +kernel
end
section
theorem dL_law_0 : decode cL_law 0 = .ok (.new 7, 3) := by decide +kernel
theorem dL_law_3 : decode cL_law 3 = .ok (.dup, 1) := by decide +kernel
theorem dL_law_4 : decode cL_law 4 = .ok (.invokespecial 9, 3) := by decide +kernel
theorem dL_law_7 : decode cL_law 7 = .ok (.astore_n 1, 1) := by decide +kernel
theorem dL_law_8 : decode cL_law 8 = .ok (.new 10, 3) := by decide +kernel
theorem dL_law_11 : decode cL_law 11 = .ok (.dup, 1) := by decide +kernel
theorem dL_law_12 : decode cL_law 12 = .ok (.invokespecial 12, 3) := by decide +kernel
theorem dL_law_15 : decode cL_law 15 = .ok (.astore_n 2, 1) := by decide +kernel
theorem dL_law_16 : decode cL_law 16 = .ok (.iconst 0, 1) := by decide +kernel
theorem dL_law_17 : decode cL_law 17 = .ok (.istore_n 3, 1) := by decide +kernel
theorem dL_law_18 : decode cL_law 18 = .ok (.iload_n 3, 1) := by decide +kernel
theorem dL_law_19 : decode cL_law 19 = .ok (.aload_n 0, 1) := by decide +kernel
theorem dL_law_20 : decode cL_law 20 = .ok (.arraylength, 1) := by decide +kernel
theorem dL_law_21 : decode cL_law 21 = .ok (.bipush 6, 2) := by decide +kernel
theorem dL_law_23 : decode cL_law 23 = .ok (.isub, 1) := by decide +kernel
theorem dL_law_24 : decode cL_law 24 = .ok (.if_icmp .gt 1270, 3) := by decide +kernel
theorem dL_law_27 : decode cL_law 27 = .ok (.aload_n 0, 1) := by decide +kernel
theorem dL_law_28 : decode cL_law 28 = .ok (.iload_n 3, 1) := by decide +kernel
theorem dL_law_29 : decode cL_law 29 = .ok (.iaload, 1) := by decide +kernel
theorem dL_law_30 : decode cL_law 30 = .ok (.bipush 31, 2) := by decide +kernel
theorem dL_law_32 : decode cL_law 32 = .ok (.iand, 1) := by decide +kernel
theorem dL_law_33 : decode cL_law 33 = .ok (.tableswitch 1255 0 30 #[139, 172, 215, 264, 287, 320, 353, 386, 419, 462, 515, 578, 632, 685, 728, 761, 804, 857, 890, 903, 916, 939, 962, 975, 998, 1031, 1064, 1107, 1140, 1189, 1232], 139) := by decide +kernel
theorem dL_law_172 : decode cL_law 172 = .ok (.aload_n 1, 1) := by decide +kernel
theorem dL_law_173 : decode cL_law 173 = .ok (.aload_n 0, 1) := by decide +kernel
theorem dL_law_174 : decode cL_law 174 = .ok (.iload_n 3, 1) := by decide +kernel
theorem dL_law_175 : decode cL_law 175 = .ok (.iconst 1, 1) := by decide +kernel
theorem dL_law_176 : decode cL_law 176 = .ok (.iadd, 1) := by decide +kernel
theorem dL_law_177 : decode cL_law 177 = .ok (.iaload, 1) := by decide +kernel
theorem dL_law_178 : decode cL_law 178 = .ok (.aload_n 0, 1) := by decide +kernel
theorem dL_law_179 : decode cL_law 179 = .ok (.iload_n 3, 1) := by decide +kernel
theorem dL_law_180 : decode cL_law 180 = .ok (.iconst 2, 1) := by decide +kernel
theorem dL_law_181 : decode cL_law 181 = .ok (.iadd, 1) := by decide +kernel
theorem dL_law_182 : decode cL_law 182 = .ok (.iaload, 1) := by decide +kernel
theorem dL_law_183 : decode cL_law 183 = .ok (.invokevirtual 13, 3) := by decide +kernel
theorem dL_law_186 : decode cL_law 186 = .ok (.aload_n 2, 1) := by decide +kernel
theorem dL_law_187 : decode cL_law 187 = .ok (.aload_n 0, 1) := by decide +kernel
theorem dL_law_188 : decode cL_law 188 = .ok (.iload_n 3, 1) := by decide +kernel
theorem dL_law_189 : decode cL_law 189 = .ok (.iconst 1, 1) := by decide +kernel
theorem dL_law_190 : decode cL_law 190 = .ok (.iadd, 1) := by decide +kernel
theorem dL_law_191 : decode cL_law 191 = .ok (.iaload, 1) := by decide +kernel
theorem dL_law_192 : decode cL_law 192 = .ok (.aload_n 0, 1) := by decide +kernel
theorem dL_law_193 : decode cL_law 193 = .ok (.iload_n 3, 1) := by decide +kernel
theorem dL_law_194 : decode cL_law 194 = .ok (.iconst 2, 1) := by decide +kernel
theorem dL_law_195 : decode cL_law 195 = .ok (.iadd, 1) := by decide +kernel
theorem dL_law_196 : decode cL_law 196 = .ok (.iaload, 1) := by decide +kernel
theorem dL_law_197 : decode cL_law 197 = .ok (.invokevirtual 17, 3) := by decide +kernel
theorem dL_law_200 : decode cL_law 200 = .ok (.if_icmp .eq 1088, 3) := by decide +kernel
theorem dL_law_203 : decode cL_law 203 = .ok (.iconst 0, 1) := by decide +kernel
theorem dL_law_204 : decode cL_law 204 = .ok (.ireturn, 1) := by decide +kernel
theorem dL_law_205 : decode cL_law 205 = .ok (.aload_n 1, 1) := by decide +kernel
theorem dL_law_206 : decode cL_law 206 = .ok (.aload_n 0, 1) := by decide +kernel
theorem dL_law_207 : decode cL_law 207 = .ok (.iload_n 3, 1) := by decide +kernel
theorem dL_law_208 : decode cL_law 208 = .ok (.iconst 1, 1) := by decide +kernel
theorem dL_law_209 : decode cL_law 209 = .ok (.iadd, 1) := by decide +kernel
theorem dL_law_210 : decode cL_law 210 = .ok (.iaload, 1) := by decide +kernel
theorem dL_law_211 : decode cL_law 211 = .ok (.aload_n 0, 1) := by decide +kernel
theorem dL_law_212 : decode cL_law 212 = .ok (.iload_n 3, 1) := by decide +kernel
theorem dL_law_213 : decode cL_law 213 = .ok (.iconst 2, 1) := by decide +kernel
theorem dL_law_214 : decode cL_law 214 = .ok (.iadd, 1) := by decide +kernel
theorem dL_law_215 : decode cL_law 215 = .ok (.iaload, 1) := by decide +kernel
theorem dL_law_216 : decode cL_law 216 = .ok (.aload_n 0, 1) := by decide +kernel
theorem dL_law_217 : decode cL_law 217 = .ok (.iload_n 3, 1) := by decide +kernel
theorem dL_law_218 : decode cL_law 218 = .ok (.iconst 3, 1) := by decide +kernel
theorem dL_law_219 : decode cL_law 219 = .ok (.iadd, 1) := by decide +kernel
theorem dL_law_220 : decode cL_law 220 = .ok (.iaload, 1) := by decide +kernel
theorem dL_law_221 : decode cL_law 221 = .ok (.invokevirtual 18, 3) := by decide +kernel
theorem dL_law_224 : decode cL_law 224 = .ok (.aload_n 2, 1) := by decide +kernel
theorem dL_law_225 : decode cL_law 225 = .ok (.aload_n 0, 1) := by decide +kernel
theorem dL_law_226 : decode cL_law 226 = .ok (.iload_n 3, 1) := by decide +kernel
theorem dL_law_227 : decode cL_law 227 = .ok (.iconst 1, 1) := by decide +kernel
theorem dL_law_228 : decode cL_law 228 = .ok (.iadd, 1) := by decide +kernel
theorem dL_law_229 : decode cL_law 229 = .ok (.iaload, 1) := by decide +kernel
theorem dL_law_230 : decode cL_law 230 = .ok (.aload_n 0, 1) := by decide +kernel
theorem dL_law_231 : decode cL_law 231 = .ok (.iload_n 3, 1) := by decide +kernel
theorem dL_law_232 : decode cL_law 232 = .ok (.iconst 2, 1) := by decide +kernel
theorem dL_law_233 : decode cL_law 233 = .ok (.iadd, 1) := by decide +kernel
theorem dL_law_234 : decode cL_law 234 = .ok (.iaload, 1) := by decide +kernel
theorem dL_law_235 : decode cL_law 235 = .ok (.aload_n 0, 1) := by decide +kernel
theorem dL_law_236 : decode cL_law 236 = .ok (.iload_n 3, 1) := by decide +kernel
theorem dL_law_237 : decode cL_law 237 = .ok (.iconst 3, 1) := by decide +kernel
theorem dL_law_238 : decode cL_law 238 = .ok (.iadd, 1) := by decide +kernel
theorem dL_law_239 : decode cL_law 239 = .ok (.iaload, 1) := by decide +kernel
theorem dL_law_240 : decode cL_law 240 = .ok (.invokevirtual 22, 3) := by decide +kernel
theorem dL_law_243 : decode cL_law 243 = .ok (.if_icmp .eq 1045, 3) := by decide +kernel
theorem dL_law_246 : decode cL_law 246 = .ok (.iconst 0, 1) := by decide +kernel
theorem dL_law_247 : decode cL_law 247 = .ok (.ireturn, 1) := by decide +kernel
theorem dL_law_248 : decode cL_law 248 = .ok (.aload_n 1, 1) := by decide +kernel
theorem dL_law_249 : decode cL_law 249 = .ok (.aload_n 0, 1) := by decide +kernel
theorem dL_law_250 : decode cL_law 250 = .ok (.iload_n 3, 1) := by decide +kernel
theorem dL_law_251 : decode cL_law 251 = .ok (.iconst 1, 1) := by decide +kernel
theorem dL_law_252 : decode cL_law 252 = .ok (.iadd, 1) := by decide +kernel
theorem dL_law_253 : decode cL_law 253 = .ok (.iaload, 1) := by decide +kernel
theorem dL_law_254 : decode cL_law 254 = .ok (.aload_n 0, 1) := by decide +kernel
theorem dL_law_255 : decode cL_law 255 = .ok (.iload_n 3, 1) := by decide +kernel
theorem dL_law_256 : decode cL_law 256 = .ok (.iconst 2, 1) := by decide +kernel
theorem dL_law_257 : decode cL_law 257 = .ok (.iadd, 1) := by decide +kernel
theorem dL_law_258 : decode cL_law 258 = .ok (.iaload, 1) := by decide +kernel
theorem dL_law_259 : decode cL_law 259 = .ok (.ifCond .eq 7, 3) := by decide +kernel
theorem dL_law_262 : decode cL_law 262 = .ok (.iconst 1, 1) := by decide +kernel
theorem dL_law_263 : decode cL_law 263 = .ok (.goto 4, 3) := by decide +kernel
theorem dL_law_266 : decode cL_law 266 = .ok (.iconst 0, 1) := by decide +kernel
theorem dL_law_267 : decode cL_law 267 = .ok (.invokevirtual 23, 3) := by decide +kernel
theorem dL_law_270 : decode cL_law 270 = .ok (.aload_n 2, 1) := by decide +kernel
theorem dL_law_271 : decode cL_law 271 = .ok (.aload_n 0, 1) := by decide +kernel
theorem dL_law_272 : decode cL_law 272 = .ok (.iload_n 3, 1) := by decide +kernel
theorem dL_law_273 : decode cL_law 273 = .ok (.iconst 1, 1) := by decide +kernel
theorem dL_law_274 : decode cL_law 274 = .ok (.iadd, 1) := by decide +kernel
theorem dL_law_275 : decode cL_law 275 = .ok (.iaload, 1) := by decide +kernel
theorem dL_law_276 : decode cL_law 276 = .ok (.aload_n 0, 1) := by decide +kernel
theorem dL_law_277 : decode cL_law 277 = .ok (.iload_n 3, 1) := by decide +kernel
theorem dL_law_278 : decode cL_law 278 = .ok (.iconst 2, 1) := by decide +kernel
theorem dL_law_279 : decode cL_law 279 = .ok (.iadd, 1) := by decide +kernel
theorem dL_law_280 : decode cL_law 280 = .ok (.iaload, 1) := by decide +kernel
theorem dL_law_281 : decode cL_law 281 = .ok (.ifCond .eq 7, 3) := by decide +kernel
theorem dL_law_284 : decode cL_law 284 = .ok (.iconst 1, 1) := by decide +kernel
theorem dL_law_285 : decode cL_law 285 = .ok (.goto 4, 3) := by decide +kernel
theorem dL_law_288 : decode cL_law 288 = .ok (.iconst 0, 1) := by decide +kernel
theorem dL_law_289 : decode cL_law 289 = .ok (.invokevirtual 27, 3) := by decide +kernel
theorem dL_law_292 : decode cL_law 292 = .ok (.if_icmp .eq 996, 3) := by decide +kernel
theorem dL_law_295 : decode cL_law 295 = .ok (.iconst 0, 1) := by decide +kernel
theorem dL_law_296 : decode cL_law 296 = .ok (.ireturn, 1) := by decide +kernel
theorem dL_law_297 : decode cL_law 297 = .ok (.aload_n 1, 1) := by decide +kernel
theorem dL_law_298 : decode cL_law 298 = .ok (.aload_n 0, 1) := by decide +kernel
theorem dL_law_299 : decode cL_law 299 = .ok (.iload_n 3, 1) := by decide +kernel
theorem dL_law_300 : decode cL_law 300 = .ok (.iconst 1, 1) := by decide +kernel
theorem dL_law_301 : decode cL_law 301 = .ok (.iadd, 1) := by decide +kernel
theorem dL_law_302 : decode cL_law 302 = .ok (.iaload, 1) := by decide +kernel
theorem dL_law_303 : decode cL_law 303 = .ok (.invokevirtual 28, 3) := by decide +kernel
theorem dL_law_306 : decode cL_law 306 = .ok (.aload_n 2, 1) := by decide +kernel
theorem dL_law_307 : decode cL_law 307 = .ok (.aload_n 0, 1) := by decide +kernel
theorem dL_law_308 : decode cL_law 308 = .ok (.iload_n 3, 1) := by decide +kernel
theorem dL_law_309 : decode cL_law 309 = .ok (.iconst 1, 1) := by decide +kernel
theorem dL_law_310 : decode cL_law 310 = .ok (.iadd, 1) := by decide +kernel
theorem dL_law_311 : decode cL_law 311 = .ok (.iaload, 1) := by decide +kernel
theorem dL_law_312 : decode cL_law 312 = .ok (.invokevirtual 32, 3) := by decide +kernel
theorem dL_law_315 : decode cL_law 315 = .ok (.if_icmp .eq 973, 3) := by decide +kernel
theorem dL_law_318 : decode cL_law 318 = .ok (.iconst 0, 1) := by decide +kernel
theorem dL_law_319 : decode cL_law 319 = .ok (.ireturn, 1) := by decide +kernel
theorem dL_law_320 : decode cL_law 320 = .ok (.aload_n 1, 1) := by decide +kernel
theorem dL_law_321 : decode cL_law 321 = .ok (.aload_n 0, 1) := by decide +kernel
theorem dL_law_322 : decode cL_law 322 = .ok (.iload_n 3, 1) := by decide +kernel
theorem dL_law_323 : decode cL_law 323 = .ok (.iconst 1, 1) := by decide +kernel
theorem dL_law_324 : decode cL_law 324 = .ok (.iadd, 1) := by decide +kernel
theorem dL_law_325 : decode cL_law 325 = .ok (.iaload, 1) := by decide +kernel
theorem dL_law_326 : decode cL_law 326 = .ok (.aload_n 0, 1) := by decide +kernel
theorem dL_law_327 : decode cL_law 327 = .ok (.iload_n 3, 1) := by decide +kernel
theorem dL_law_328 : decode cL_law 328 = .ok (.iconst 2, 1) := by decide +kernel
theorem dL_law_329 : decode cL_law 329 = .ok (.iadd, 1) := by decide +kernel
theorem dL_law_330 : decode cL_law 330 = .ok (.iaload, 1) := by decide +kernel
theorem dL_law_331 : decode cL_law 331 = .ok (.invokevirtual 33, 3) := by decide +kernel
theorem dL_law_334 : decode cL_law 334 = .ok (.aload_n 2, 1) := by decide +kernel
theorem dL_law_335 : decode cL_law 335 = .ok (.aload_n 0, 1) := by decide +kernel
theorem dL_law_336 : decode cL_law 336 = .ok (.iload_n 3, 1) := by decide +kernel
theorem dL_law_337 : decode cL_law 337 = .ok (.iconst 1, 1) := by decide +kernel
theorem dL_law_338 : decode cL_law 338 = .ok (.iadd, 1) := by decide +kernel
theorem dL_law_339 : decode cL_law 339 = .ok (.iaload, 1) := by decide +kernel
theorem dL_law_340 : decode cL_law 340 = .ok (.aload_n 0, 1) := by decide +kernel
theorem dL_law_341 : decode cL_law 341 = .ok (.iload_n 3, 1) := by decide +kernel
theorem dL_law_342 : decode cL_law 342 = .ok (.iconst 2, 1) := by decide +kernel
theorem dL_law_343 : decode cL_law 343 = .ok (.iadd, 1) := by decide +kernel
theorem dL_law_344 : decode cL_law 344 = .ok (.iaload, 1) := by decide +kernel
theorem dL_law_345 : decode cL_law 345 = .ok (.invokevirtual 36, 3) := by decide +kernel
theorem dL_law_348 : decode cL_law 348 = .ok (.if_icmp .eq 940, 3) := by decide +kernel
theorem dL_law_351 : decode cL_law 351 = .ok (.iconst 0, 1) := by decide +kernel
theorem dL_law_352 : decode cL_law 352 = .ok (.ireturn, 1) := by decide +kernel
theorem dL_law_353 : decode cL_law 353 = .ok (.aload_n 1, 1) := by decide +kernel
theorem dL_law_354 : decode cL_law 354 = .ok (.aload_n 0, 1) := by decide +kernel
theorem dL_law_355 : decode cL_law 355 = .ok (.iload_n 3, 1) := by decide +kernel
theorem dL_law_356 : decode cL_law 356 = .ok (.iconst 1, 1) := by decide +kernel
theorem dL_law_357 : decode cL_law 357 = .ok (.iadd, 1) := by decide +kernel
theorem dL_law_358 : decode cL_law 358 = .ok (.iaload, 1) := by decide +kernel
theorem dL_law_359 : decode cL_law 359 = .ok (.aload_n 0, 1) := by decide +kernel
theorem dL_law_360 : decode cL_law 360 = .ok (.iload_n 3, 1) := by decide +kernel
theorem dL_law_361 : decode cL_law 361 = .ok (.iconst 2, 1) := by decide +kernel
theorem dL_law_362 : decode cL_law 362 = .ok (.iadd, 1) := by decide +kernel
theorem dL_law_363 : decode cL_law 363 = .ok (.iaload, 1) := by decide +kernel
theorem dL_law_364 : decode cL_law 364 = .ok (.invokevirtual 37, 3) := by decide +kernel
theorem dL_law_367 : decode cL_law 367 = .ok (.aload_n 2, 1) := by decide +kernel
theorem dL_law_368 : decode cL_law 368 = .ok (.aload_n 0, 1) := by decide +kernel
theorem dL_law_369 : decode cL_law 369 = .ok (.iload_n 3, 1) := by decide +kernel
theorem dL_law_370 : decode cL_law 370 = .ok (.iconst 1, 1) := by decide +kernel
theorem dL_law_371 : decode cL_law 371 = .ok (.iadd, 1) := by decide +kernel
theorem dL_law_372 : decode cL_law 372 = .ok (.iaload, 1) := by decide +kernel
theorem dL_law_373 : decode cL_law 373 = .ok (.aload_n 0, 1) := by decide +kernel
theorem dL_law_374 : decode cL_law 374 = .ok (.iload_n 3, 1) := by decide +kernel
theorem dL_law_375 : decode cL_law 375 = .ok (.iconst 2, 1) := by decide +kernel
theorem dL_law_376 : decode cL_law 376 = .ok (.iadd, 1) := by decide +kernel
theorem dL_law_377 : decode cL_law 377 = .ok (.iaload, 1) := by decide +kernel
theorem dL_law_378 : decode cL_law 378 = .ok (.invokevirtual 40, 3) := by decide +kernel
theorem dL_law_381 : decode cL_law 381 = .ok (.if_icmp .eq 907, 3) := by decide +kernel
theorem dL_law_384 : decode cL_law 384 = .ok (.iconst 0, 1) := by decide +kernel
theorem dL_law_385 : decode cL_law 385 = .ok (.ireturn, 1) := by decide +kernel
theorem dL_law_386 : decode cL_law 386 = .ok (.aload_n 1, 1) := by decide +kernel
theorem dL_law_387 : decode cL_law 387 = .ok (.aload_n 0, 1) := by decide +kernel
theorem dL_law_388 : decode cL_law 388 = .ok (.iload_n 3, 1) := by decide +kernel
theorem dL_law_389 : decode cL_law 389 = .ok (.iconst 1, 1) := by decide +kernel
theorem dL_law_390 : decode cL_law 390 = .ok (.iadd, 1) := by decide +kernel
theorem dL_law_391 : decode cL_law 391 = .ok (.iaload, 1) := by decide +kernel
theorem dL_law_392 : decode cL_law 392 = .ok (.aload_n 0, 1) := by decide +kernel
theorem dL_law_393 : decode cL_law 393 = .ok (.iload_n 3, 1) := by decide +kernel
theorem dL_law_394 : decode cL_law 394 = .ok (.iconst 2, 1) := by decide +kernel
theorem dL_law_395 : decode cL_law 395 = .ok (.iadd, 1) := by decide +kernel
theorem dL_law_396 : decode cL_law 396 = .ok (.iaload, 1) := by decide +kernel
theorem dL_law_397 : decode cL_law 397 = .ok (.invokevirtual 41, 3) := by decide +kernel
theorem dL_law_400 : decode cL_law 400 = .ok (.aload_n 2, 1) := by decide +kernel
theorem dL_law_401 : decode cL_law 401 = .ok (.aload_n 0, 1) := by decide +kernel
theorem dL_law_402 : decode cL_law 402 = .ok (.iload_n 3, 1) := by decide +kernel
theorem dL_law_403 : decode cL_law 403 = .ok (.iconst 1, 1) := by decide +kernel
theorem dL_law_404 : decode cL_law 404 = .ok (.iadd, 1) := by decide +kernel
theorem dL_law_405 : decode cL_law 405 = .ok (.iaload, 1) := by decide +kernel
theorem dL_law_406 : decode cL_law 406 = .ok (.aload_n 0, 1) := by decide +kernel
theorem dL_law_407 : decode cL_law 407 = .ok (.iload_n 3, 1) := by decide +kernel
theorem dL_law_408 : decode cL_law 408 = .ok (.iconst 2, 1) := by decide +kernel
theorem dL_law_409 : decode cL_law 409 = .ok (.iadd, 1) := by decide +kernel
theorem dL_law_410 : decode cL_law 410 = .ok (.iaload, 1) := by decide +kernel
theorem dL_law_411 : decode cL_law 411 = .ok (.invokevirtual 44, 3) := by decide +kernel
theorem dL_law_414 : decode cL_law 414 = .ok (.if_icmp .eq 874, 3) := by decide +kernel
theorem dL_law_417 : decode cL_law 417 = .ok (.iconst 0, 1) := by decide +kernel
theorem dL_law_418 : decode cL_law 418 = .ok (.ireturn, 1) := by decide +kernel
theorem dL_law_419 : decode cL_law 419 = .ok (.aload_n 1, 1) := by decide +kernel
theorem dL_law_420 : decode cL_law 420 = .ok (.aload_n 0, 1) := by decide +kernel
theorem dL_law_421 : decode cL_law 421 = .ok (.iload_n 3, 1) := by decide +kernel
theorem dL_law_422 : decode cL_law 422 = .ok (.iconst 1, 1) := by decide +kernel
theorem dL_law_423 : decode cL_law 423 = .ok (.iadd, 1) := by decide +kernel
theorem dL_law_424 : decode cL_law 424 = .ok (.iaload, 1) := by decide +kernel
theorem dL_law_425 : decode cL_law 425 = .ok (.aload_n 0, 1) := by decide +kernel
theorem dL_law_426 : decode cL_law 426 = .ok (.iload_n 3, 1) := by decide +kernel
theorem dL_law_427 : decode cL_law 427 = .ok (.iconst 2, 1) := by decide +kernel
theorem dL_law_428 : decode cL_law 428 = .ok (.iadd, 1) := by decide +kernel
theorem dL_law_429 : decode cL_law 429 = .ok (.iaload, 1) := by decide +kernel
theorem dL_law_430 : decode cL_law 430 = .ok (.invokevirtual 45, 3) := by decide +kernel
theorem dL_law_433 : decode cL_law 433 = .ok (.aload_n 2, 1) := by decide +kernel
theorem dL_law_434 : decode cL_law 434 = .ok (.aload_n 0, 1) := by decide +kernel
theorem dL_law_435 : decode cL_law 435 = .ok (.iload_n 3, 1) := by decide +kernel
theorem dL_law_436 : decode cL_law 436 = .ok (.iconst 1, 1) := by decide +kernel
theorem dL_law_437 : decode cL_law 437 = .ok (.iadd, 1) := by decide +kernel
theorem dL_law_438 : decode cL_law 438 = .ok (.iaload, 1) := by decide +kernel
theorem dL_law_439 : decode cL_law 439 = .ok (.aload_n 0, 1) := by decide +kernel
theorem dL_law_440 : decode cL_law 440 = .ok (.iload_n 3, 1) := by decide +kernel
theorem dL_law_441 : decode cL_law 441 = .ok (.iconst 2, 1) := by decide +kernel
theorem dL_law_442 : decode cL_law 442 = .ok (.iadd, 1) := by decide +kernel
theorem dL_law_443 : decode cL_law 443 = .ok (.iaload, 1) := by decide +kernel
theorem dL_law_444 : decode cL_law 444 = .ok (.invokevirtual 48, 3) := by decide +kernel
theorem dL_law_447 : decode cL_law 447 = .ok (.if_icmp .eq 841, 3) := by decide +kernel
theorem dL_law_450 : decode cL_law 450 = .ok (.iconst 0, 1) := by decide +kernel
theorem dL_law_451 : decode cL_law 451 = .ok (.ireturn, 1) := by decide +kernel
theorem dL_law_452 : decode cL_law 452 = .ok (.aload_n 1, 1) := by decide +kernel
theorem dL_law_453 : decode cL_law 453 = .ok (.aload_n 0, 1) := by decide +kernel
theorem dL_law_454 : decode cL_law 454 = .ok (.iload_n 3, 1) := by decide +kernel
theorem dL_law_455 : decode cL_law 455 = .ok (.iconst 1, 1) := by decide +kernel
theorem dL_law_456 : decode cL_law 456 = .ok (.iadd, 1) := by decide +kernel
theorem dL_law_457 : decode cL_law 457 = .ok (.iaload, 1) := by decide +kernel
theorem dL_law_458 : decode cL_law 458 = .ok (.aload_n 0, 1) := by decide +kernel
theorem dL_law_459 : decode cL_law 459 = .ok (.iload_n 3, 1) := by decide +kernel
theorem dL_law_460 : decode cL_law 460 = .ok (.iconst 2, 1) := by decide +kernel
theorem dL_law_461 : decode cL_law 461 = .ok (.iadd, 1) := by decide +kernel
theorem dL_law_462 : decode cL_law 462 = .ok (.iaload, 1) := by decide +kernel
theorem dL_law_463 : decode cL_law 463 = .ok (.aload_n 0, 1) := by decide +kernel
theorem dL_law_464 : decode cL_law 464 = .ok (.iload_n 3, 1) := by decide +kernel
theorem dL_law_465 : decode cL_law 465 = .ok (.iconst 3, 1) := by decide +kernel
theorem dL_law_466 : decode cL_law 466 = .ok (.iadd, 1) := by decide +kernel
theorem dL_law_467 : decode cL_law 467 = .ok (.iaload, 1) := by decide +kernel
theorem dL_law_468 : decode cL_law 468 = .ok (.invokevirtual 49, 3) := by decide +kernel
theorem dL_law_471 : decode cL_law 471 = .ok (.aload_n 2, 1) := by decide +kernel
theorem dL_law_472 : decode cL_law 472 = .ok (.aload_n 0, 1) := by decide +kernel
theorem dL_law_473 : decode cL_law 473 = .ok (.iload_n 3, 1) := by decide +kernel
theorem dL_law_474 : decode cL_law 474 = .ok (.iconst 1, 1) := by decide +kernel
theorem dL_law_475 : decode cL_law 475 = .ok (.iadd, 1) := by decide +kernel
theorem dL_law_476 : decode cL_law 476 = .ok (.iaload, 1) := by decide +kernel
theorem dL_law_477 : decode cL_law 477 = .ok (.aload_n 0, 1) := by decide +kernel
theorem dL_law_478 : decode cL_law 478 = .ok (.iload_n 3, 1) := by decide +kernel
theorem dL_law_479 : decode cL_law 479 = .ok (.iconst 2, 1) := by decide +kernel
theorem dL_law_480 : decode cL_law 480 = .ok (.iadd, 1) := by decide +kernel
theorem dL_law_481 : decode cL_law 481 = .ok (.iaload, 1) := by decide +kernel
theorem dL_law_482 : decode cL_law 482 = .ok (.aload_n 0, 1) := by decide +kernel
theorem dL_law_483 : decode cL_law 483 = .ok (.iload_n 3, 1) := by decide +kernel
theorem dL_law_484 : decode cL_law 484 = .ok (.iconst 3, 1) := by decide +kernel
theorem dL_law_485 : decode cL_law 485 = .ok (.iadd, 1) := by decide +kernel
theorem dL_law_486 : decode cL_law 486 = .ok (.iaload, 1) := by decide +kernel
theorem dL_law_487 : decode cL_law 487 = .ok (.invokevirtual 52, 3) := by decide +kernel
theorem dL_law_490 : decode cL_law 490 = .ok (.if_icmp .eq 798, 3) := by decide +kernel
theorem dL_law_493 : decode cL_law 493 = .ok (.iconst 0, 1) := by decide +kernel
theorem dL_law_494 : decode cL_law 494 = .ok (.ireturn, 1) := by decide +kernel
theorem dL_law_495 : decode cL_law 495 = .ok (.aload_n 1, 1) := by decide +kernel
theorem dL_law_496 : decode cL_law 496 = .ok (.aload_n 0, 1) := by decide +kernel
theorem dL_law_497 : decode cL_law 497 = .ok (.iload_n 3, 1) := by decide +kernel
theorem dL_law_498 : decode cL_law 498 = .ok (.iconst 1, 1) := by decide +kernel
theorem dL_law_499 : decode cL_law 499 = .ok (.iadd, 1) := by decide +kernel
theorem dL_law_500 : decode cL_law 500 = .ok (.iaload, 1) := by decide +kernel
theorem dL_law_501 : decode cL_law 501 = .ok (.aload_n 0, 1) := by decide +kernel
theorem dL_law_502 : decode cL_law 502 = .ok (.iload_n 3, 1) := by decide +kernel
theorem dL_law_503 : decode cL_law 503 = .ok (.iconst 2, 1) := by decide +kernel
theorem dL_law_504 : decode cL_law 504 = .ok (.iadd, 1) := by decide +kernel
theorem dL_law_505 : decode cL_law 505 = .ok (.iaload, 1) := by decide +kernel
theorem dL_law_506 : decode cL_law 506 = .ok (.aload_n 0, 1) := by decide +kernel
theorem dL_law_507 : decode cL_law 507 = .ok (.iload_n 3, 1) := by decide +kernel
theorem dL_law_508 : decode cL_law 508 = .ok (.iconst 3, 1) := by decide +kernel
theorem dL_law_509 : decode cL_law 509 = .ok (.iadd, 1) := by decide +kernel
theorem dL_law_510 : decode cL_law 510 = .ok (.iaload, 1) := by decide +kernel
theorem dL_law_511 : decode cL_law 511 = .ok (.aload_n 0, 1) := by decide +kernel
theorem dL_law_512 : decode cL_law 512 = .ok (.iload_n 3, 1) := by decide +kernel
theorem dL_law_513 : decode cL_law 513 = .ok (.iconst 4, 1) := by decide +kernel
theorem dL_law_514 : decode cL_law 514 = .ok (.iadd, 1) := by decide +kernel
theorem dL_law_515 : decode cL_law 515 = .ok (.iaload, 1) := by decide +kernel
theorem dL_law_516 : decode cL_law 516 = .ok (.invokevirtual 53, 3) := by decide +kernel
theorem dL_law_519 : decode cL_law 519 = .ok (.aload_n 2, 1) := by decide +kernel
theorem dL_law_520 : decode cL_law 520 = .ok (.aload_n 0, 1) := by decide +kernel
theorem dL_law_521 : decode cL_law 521 = .ok (.iload_n 3, 1) := by decide +kernel
theorem dL_law_522 : decode cL_law 522 = .ok (.iconst 1, 1) := by decide +kernel
theorem dL_law_523 : decode cL_law 523 = .ok (.iadd, 1) := by decide +kernel
theorem dL_law_524 : decode cL_law 524 = .ok (.iaload, 1) := by decide +kernel
theorem dL_law_525 : decode cL_law 525 = .ok (.aload_n 0, 1) := by decide +kernel
theorem dL_law_526 : decode cL_law 526 = .ok (.iload_n 3, 1) := by decide +kernel
theorem dL_law_527 : decode cL_law 527 = .ok (.iconst 2, 1) := by decide +kernel
theorem dL_law_528 : decode cL_law 528 = .ok (.iadd, 1) := by decide +kernel
theorem dL_law_529 : decode cL_law 529 = .ok (.iaload, 1) := by decide +kernel
theorem dL_law_530 : decode cL_law 530 = .ok (.aload_n 0, 1) := by decide +kernel
theorem dL_law_531 : decode cL_law 531 = .ok (.iload_n 3, 1) := by decide +kernel
theorem dL_law_532 : decode cL_law 532 = .ok (.iconst 3, 1) := by decide +kernel
theorem dL_law_533 : decode cL_law 533 = .ok (.iadd, 1) := by decide +kernel
theorem dL_law_534 : decode cL_law 534 = .ok (.iaload, 1) := by decide +kernel
theorem dL_law_535 : decode cL_law 535 = .ok (.aload_n 0, 1) := by decide +kernel
theorem dL_law_536 : decode cL_law 536 = .ok (.iload_n 3, 1) := by decide +kernel
theorem dL_law_537 : decode cL_law 537 = .ok (.iconst 4, 1) := by decide +kernel
theorem dL_law_538 : decode cL_law 538 = .ok (.iadd, 1) := by decide +kernel
theorem dL_law_539 : decode cL_law 539 = .ok (.iaload, 1) := by decide +kernel
theorem dL_law_540 : decode cL_law 540 = .ok (.invokevirtual 57, 3) := by decide +kernel
theorem dL_law_543 : decode cL_law 543 = .ok (.if_icmp .eq 745, 3) := by decide +kernel
theorem dL_law_546 : decode cL_law 546 = .ok (.iconst 0, 1) := by decide +kernel
theorem dL_law_547 : decode cL_law 547 = .ok (.ireturn, 1) := by decide +kernel
theorem dL_law_548 : decode cL_law 548 = .ok (.aload_n 1, 1) := by decide +kernel
theorem dL_law_549 : decode cL_law 549 = .ok (.aload_n 0, 1) := by decide +kernel
theorem dL_law_550 : decode cL_law 550 = .ok (.iload_n 3, 1) := by decide +kernel
theorem dL_law_551 : decode cL_law 551 = .ok (.iconst 1, 1) := by decide +kernel
theorem dL_law_552 : decode cL_law 552 = .ok (.iadd, 1) := by decide +kernel
theorem dL_law_553 : decode cL_law 553 = .ok (.iaload, 1) := by decide +kernel
theorem dL_law_554 : decode cL_law 554 = .ok (.aload_n 0, 1) := by decide +kernel
theorem dL_law_555 : decode cL_law 555 = .ok (.iload_n 3, 1) := by decide +kernel
theorem dL_law_556 : decode cL_law 556 = .ok (.iconst 2, 1) := by decide +kernel
theorem dL_law_557 : decode cL_law 557 = .ok (.iadd, 1) := by decide +kernel
theorem dL_law_558 : decode cL_law 558 = .ok (.iaload, 1) := by decide +kernel
theorem dL_law_559 : decode cL_law 559 = .ok (.aload_n 0, 1) := by decide +kernel
theorem dL_law_560 : decode cL_law 560 = .ok (.iload_n 3, 1) := by decide +kernel
theorem dL_law_561 : decode cL_law 561 = .ok (.iconst 3, 1) := by decide +kernel
theorem dL_law_562 : decode cL_law 562 = .ok (.iadd, 1) := by decide +kernel
theorem dL_law_563 : decode cL_law 563 = .ok (.iaload, 1) := by decide +kernel
theorem dL_law_564 : decode cL_law 564 = .ok (.aload_n 0, 1) := by decide +kernel
theorem dL_law_565 : decode cL_law 565 = .ok (.iload_n 3, 1) := by decide +kernel
theorem dL_law_566 : decode cL_law 566 = .ok (.iconst 4, 1) := by decide +kernel
theorem dL_law_567 : decode cL_law 567 = .ok (.iadd, 1) := by decide +kernel
theorem dL_law_568 : decode cL_law 568 = .ok (.iaload, 1) := by decide +kernel
theorem dL_law_569 : decode cL_law 569 = .ok (.aload_n 0, 1) := by decide +kernel
theorem dL_law_570 : decode cL_law 570 = .ok (.iload_n 3, 1) := by decide +kernel
theorem dL_law_571 : decode cL_law 571 = .ok (.iconst 5, 1) := by decide +kernel
theorem dL_law_572 : decode cL_law 572 = .ok (.iadd, 1) := by decide +kernel
theorem dL_law_573 : decode cL_law 573 = .ok (.iaload, 1) := by decide +kernel
theorem dL_law_574 : decode cL_law 574 = .ok (.invokevirtual 58, 3) := by decide +kernel
theorem dL_law_577 : decode cL_law 577 = .ok (.aload_n 2, 1) := by decide +kernel
theorem dL_law_578 : decode cL_law 578 = .ok (.aload_n 0, 1) := by decide +kernel
theorem dL_law_579 : decode cL_law 579 = .ok (.iload_n 3, 1) := by decide +kernel
theorem dL_law_580 : decode cL_law 580 = .ok (.iconst 1, 1) := by decide +kernel
theorem dL_law_581 : decode cL_law 581 = .ok (.iadd, 1) := by decide +kernel
theorem dL_law_582 : decode cL_law 582 = .ok (.iaload, 1) := by decide +kernel
theorem dL_law_583 : decode cL_law 583 = .ok (.aload_n 0, 1) := by decide +kernel
theorem dL_law_584 : decode cL_law 584 = .ok (.iload_n 3, 1) := by decide +kernel
theorem dL_law_585 : decode cL_law 585 = .ok (.iconst 2, 1) := by decide +kernel
theorem dL_law_586 : decode cL_law 586 = .ok (.iadd, 1) := by decide +kernel
theorem dL_law_587 : decode cL_law 587 = .ok (.iaload, 1) := by decide +kernel
theorem dL_law_588 : decode cL_law 588 = .ok (.aload_n 0, 1) := by decide +kernel
theorem dL_law_589 : decode cL_law 589 = .ok (.iload_n 3, 1) := by decide +kernel
theorem dL_law_590 : decode cL_law 590 = .ok (.iconst 3, 1) := by decide +kernel
theorem dL_law_591 : decode cL_law 591 = .ok (.iadd, 1) := by decide +kernel
theorem dL_law_592 : decode cL_law 592 = .ok (.iaload, 1) := by decide +kernel
theorem dL_law_593 : decode cL_law 593 = .ok (.aload_n 0, 1) := by decide +kernel
theorem dL_law_594 : decode cL_law 594 = .ok (.iload_n 3, 1) := by decide +kernel
theorem dL_law_595 : decode cL_law 595 = .ok (.iconst 4, 1) := by decide +kernel
theorem dL_law_596 : decode cL_law 596 = .ok (.iadd, 1) := by decide +kernel
theorem dL_law_597 : decode cL_law 597 = .ok (.iaload, 1) := by decide +kernel
theorem dL_law_598 : decode cL_law 598 = .ok (.aload_n 0, 1) := by decide +kernel
theorem dL_law_599 : decode cL_law 599 = .ok (.iload_n 3, 1) := by decide +kernel
theorem dL_law_600 : decode cL_law 600 = .ok (.iconst 5, 1) := by decide +kernel
theorem dL_law_601 : decode cL_law 601 = .ok (.iadd, 1) := by decide +kernel
theorem dL_law_602 : decode cL_law 602 = .ok (.iaload, 1) := by decide +kernel
theorem dL_law_603 : decode cL_law 603 = .ok (.invokevirtual 62, 3) := by decide +kernel
theorem dL_law_606 : decode cL_law 606 = .ok (.if_icmp .eq 682, 3) := by decide +kernel
theorem dL_law_609 : decode cL_law 609 = .ok (.iconst 0, 1) := by decide +kernel
theorem dL_law_610 : decode cL_law 610 = .ok (.ireturn, 1) := by decide +kernel
theorem dL_law_611 : decode cL_law 611 = .ok (.aload_n 1, 1) := by decide +kernel
theorem dL_law_612 : decode cL_law 612 = .ok (.aload_n 0, 1) := by decide +kernel
theorem dL_law_613 : decode cL_law 613 = .ok (.iload_n 3, 1) := by decide +kernel
theorem dL_law_614 : decode cL_law 614 = .ok (.iconst 1, 1) := by decide +kernel
theorem dL_law_615 : decode cL_law 615 = .ok (.iadd, 1) := by decide +kernel
theorem dL_law_616 : decode cL_law 616 = .ok (.iaload, 1) := by decide +kernel
theorem dL_law_617 : decode cL_law 617 = .ok (.aload_n 0, 1) := by decide +kernel
theorem dL_law_618 : decode cL_law 618 = .ok (.iload_n 3, 1) := by decide +kernel
theorem dL_law_619 : decode cL_law 619 = .ok (.iconst 2, 1) := by decide +kernel
theorem dL_law_620 : decode cL_law 620 = .ok (.iadd, 1) := by decide +kernel
theorem dL_law_621 : decode cL_law 621 = .ok (.iaload, 1) := by decide +kernel
theorem dL_law_622 : decode cL_law 622 = .ok (.aload_n 0, 1) := by decide +kernel
theorem dL_law_623 : decode cL_law 623 = .ok (.iload_n 3, 1) := by decide +kernel
theorem dL_law_624 : decode cL_law 624 = .ok (.iconst 3, 1) := by decide +kernel
theorem dL_law_625 : decode cL_law 625 = .ok (.iadd, 1) := by decide +kernel
theorem dL_law_626 : decode cL_law 626 = .ok (.iaload, 1) := by decide +kernel
theorem dL_law_627 : decode cL_law 627 = .ok (.aload_n 0, 1) := by decide +kernel
theorem dL_law_628 : decode cL_law 628 = .ok (.iload_n 3, 1) := by decide +kernel
theorem dL_law_629 : decode cL_law 629 = .ok (.iconst 4, 1) := by decide +kernel
theorem dL_law_630 : decode cL_law 630 = .ok (.iadd, 1) := by decide +kernel
theorem dL_law_631 : decode cL_law 631 = .ok (.iaload, 1) := by decide +kernel
theorem dL_law_632 : decode cL_law 632 = .ok (.invokevirtual 63, 3) := by decide +kernel
theorem dL_law_635 : decode cL_law 635 = .ok (.aload_n 2, 1) := by decide +kernel
theorem dL_law_636 : decode cL_law 636 = .ok (.aload_n 0, 1) := by decide +kernel
theorem dL_law_637 : decode cL_law 637 = .ok (.iload_n 3, 1) := by decide +kernel
theorem dL_law_638 : decode cL_law 638 = .ok (.iconst 1, 1) := by decide +kernel
theorem dL_law_639 : decode cL_law 639 = .ok (.iadd, 1) := by decide +kernel
theorem dL_law_640 : decode cL_law 640 = .ok (.iaload, 1) := by decide +kernel
theorem dL_law_641 : decode cL_law 641 = .ok (.aload_n 0, 1) := by decide +kernel
theorem dL_law_642 : decode cL_law 642 = .ok (.iload_n 3, 1) := by decide +kernel
theorem dL_law_643 : decode cL_law 643 = .ok (.iconst 2, 1) := by decide +kernel
theorem dL_law_644 : decode cL_law 644 = .ok (.iadd, 1) := by decide +kernel
theorem dL_law_645 : decode cL_law 645 = .ok (.iaload, 1) := by decide +kernel
theorem dL_law_646 : decode cL_law 646 = .ok (.aload_n 0, 1) := by decide +kernel
theorem dL_law_647 : decode cL_law 647 = .ok (.iload_n 3, 1) := by decide +kernel
theorem dL_law_648 : decode cL_law 648 = .ok (.iconst 3, 1) := by decide +kernel
theorem dL_law_649 : decode cL_law 649 = .ok (.iadd, 1) := by decide +kernel
theorem dL_law_650 : decode cL_law 650 = .ok (.iaload, 1) := by decide +kernel
theorem dL_law_651 : decode cL_law 651 = .ok (.aload_n 0, 1) := by decide +kernel
theorem dL_law_652 : decode cL_law 652 = .ok (.iload_n 3, 1) := by decide +kernel
theorem dL_law_653 : decode cL_law 653 = .ok (.iconst 4, 1) := by decide +kernel
theorem dL_law_654 : decode cL_law 654 = .ok (.iadd, 1) := by decide +kernel
theorem dL_law_655 : decode cL_law 655 = .ok (.iaload, 1) := by decide +kernel
theorem dL_law_656 : decode cL_law 656 = .ok (.invokevirtual 67, 3) := by decide +kernel
theorem dL_law_659 : decode cL_law 659 = .ok (.lcmp, 1) := by decide +kernel
theorem dL_law_660 : decode cL_law 660 = .ok (.ifCond .eq 628, 3) := by decide +kernel
theorem dL_law_663 : decode cL_law 663 = .ok (.iconst 0, 1) := by decide +kernel
theorem dL_law_664 : decode cL_law 664 = .ok (.ireturn, 1) := by decide +kernel
theorem dL_law_665 : decode cL_law 665 = .ok (.aload_n 1, 1) := by decide +kernel
theorem dL_law_666 : decode cL_law 666 = .ok (.aload_n 0, 1) := by decide +kernel
theorem dL_law_667 : decode cL_law 667 = .ok (.iload_n 3, 1) := by decide +kernel
theorem dL_law_668 : decode cL_law 668 = .ok (.iconst 1, 1) := by decide +kernel
theorem dL_law_669 : decode cL_law 669 = .ok (.iadd, 1) := by decide +kernel
theorem dL_law_670 : decode cL_law 670 = .ok (.iaload, 1) := by decide +kernel
theorem dL_law_671 : decode cL_law 671 = .ok (.aload_n 0, 1) := by decide +kernel
theorem dL_law_672 : decode cL_law 672 = .ok (.iload_n 3, 1) := by decide +kernel
theorem dL_law_673 : decode cL_law 673 = .ok (.iconst 2, 1) := by decide +kernel
theorem dL_law_674 : decode cL_law 674 = .ok (.iadd, 1) := by decide +kernel
theorem dL_law_675 : decode cL_law 675 = .ok (.iaload, 1) := by decide +kernel
theorem dL_law_676 : decode cL_law 676 = .ok (.aload_n 0, 1) := by decide +kernel
theorem dL_law_677 : decode cL_law 677 = .ok (.iload_n 3, 1) := by decide +kernel
theorem dL_law_678 : decode cL_law 678 = .ok (.iconst 3, 1) := by decide +kernel
theorem dL_law_679 : decode cL_law 679 = .ok (.iadd, 1) := by decide +kernel
theorem dL_law_680 : decode cL_law 680 = .ok (.iaload, 1) := by decide +kernel
theorem dL_law_681 : decode cL_law 681 = .ok (.aload_n 0, 1) := by decide +kernel
theorem dL_law_682 : decode cL_law 682 = .ok (.iload_n 3, 1) := by decide +kernel
theorem dL_law_683 : decode cL_law 683 = .ok (.iconst 4, 1) := by decide +kernel
theorem dL_law_684 : decode cL_law 684 = .ok (.iadd, 1) := by decide +kernel
theorem dL_law_685 : decode cL_law 685 = .ok (.iaload, 1) := by decide +kernel
theorem dL_law_686 : decode cL_law 686 = .ok (.invokevirtual 68, 3) := by decide +kernel
theorem dL_law_689 : decode cL_law 689 = .ok (.aload_n 2, 1) := by decide +kernel
theorem dL_law_690 : decode cL_law 690 = .ok (.aload_n 0, 1) := by decide +kernel
theorem dL_law_691 : decode cL_law 691 = .ok (.iload_n 3, 1) := by decide +kernel
theorem dL_law_692 : decode cL_law 692 = .ok (.iconst 1, 1) := by decide +kernel
theorem dL_law_693 : decode cL_law 693 = .ok (.iadd, 1) := by decide +kernel
theorem dL_law_694 : decode cL_law 694 = .ok (.iaload, 1) := by decide +kernel
theorem dL_law_695 : decode cL_law 695 = .ok (.aload_n 0, 1) := by decide +kernel
theorem dL_law_696 : decode cL_law 696 = .ok (.iload_n 3, 1) := by decide +kernel
theorem dL_law_697 : decode cL_law 697 = .ok (.iconst 2, 1) := by decide +kernel
theorem dL_law_698 : decode cL_law 698 = .ok (.iadd, 1) := by decide +kernel
theorem dL_law_699 : decode cL_law 699 = .ok (.iaload, 1) := by decide +kernel
theorem dL_law_700 : decode cL_law 700 = .ok (.aload_n 0, 1) := by decide +kernel
theorem dL_law_701 : decode cL_law 701 = .ok (.iload_n 3, 1) := by decide +kernel
theorem dL_law_702 : decode cL_law 702 = .ok (.iconst 3, 1) := by decide +kernel
theorem dL_law_703 : decode cL_law 703 = .ok (.iadd, 1) := by decide +kernel
theorem dL_law_704 : decode cL_law 704 = .ok (.iaload, 1) := by decide +kernel
theorem dL_law_705 : decode cL_law 705 = .ok (.aload_n 0, 1) := by decide +kernel
theorem dL_law_706 : decode cL_law 706 = .ok (.iload_n 3, 1) := by decide +kernel
theorem dL_law_707 : decode cL_law 707 = .ok (.iconst 4, 1) := by decide +kernel
theorem dL_law_708 : decode cL_law 708 = .ok (.iadd, 1) := by decide +kernel
theorem dL_law_709 : decode cL_law 709 = .ok (.iaload, 1) := by decide +kernel
theorem dL_law_710 : decode cL_law 710 = .ok (.invokevirtual 71, 3) := by decide +kernel
theorem dL_law_713 : decode cL_law 713 = .ok (.if_icmp .eq 575, 3) := by decide +kernel
theorem dL_law_716 : decode cL_law 716 = .ok (.iconst 0, 1) := by decide +kernel
theorem dL_law_717 : decode cL_law 717 = .ok (.ireturn, 1) := by decide +kernel
theorem dL_law_718 : decode cL_law 718 = .ok (.aload_n 1, 1) := by decide +kernel
theorem dL_law_719 : decode cL_law 719 = .ok (.aload_n 0, 1) := by decide +kernel
theorem dL_law_720 : decode cL_law 720 = .ok (.iload_n 3, 1) := by decide +kernel
theorem dL_law_721 : decode cL_law 721 = .ok (.iconst 1, 1) := by decide +kernel
theorem dL_law_722 : decode cL_law 722 = .ok (.iadd, 1) := by decide +kernel
theorem dL_law_723 : decode cL_law 723 = .ok (.iaload, 1) := by decide +kernel
theorem dL_law_724 : decode cL_law 724 = .ok (.aload_n 0, 1) := by decide +kernel
theorem dL_law_725 : decode cL_law 725 = .ok (.iload_n 3, 1) := by decide +kernel
theorem dL_law_726 : decode cL_law 726 = .ok (.iconst 2, 1) := by decide +kernel
theorem dL_law_727 : decode cL_law 727 = .ok (.iadd, 1) := by decide +kernel
theorem dL_law_728 : decode cL_law 728 = .ok (.iaload, 1) := by decide +kernel
theorem dL_law_729 : decode cL_law 729 = .ok (.aload_n 0, 1) := by decide +kernel
theorem dL_law_730 : decode cL_law 730 = .ok (.iload_n 3, 1) := by decide +kernel
theorem dL_law_731 : decode cL_law 731 = .ok (.iconst 3, 1) := by decide +kernel
theorem dL_law_732 : decode cL_law 732 = .ok (.iadd, 1) := by decide +kernel
theorem dL_law_733 : decode cL_law 733 = .ok (.iaload, 1) := by decide +kernel
theorem dL_law_734 : decode cL_law 734 = .ok (.invokevirtual 72, 3) := by decide +kernel
theorem dL_law_737 : decode cL_law 737 = .ok (.aload_n 2, 1) := by decide +kernel
theorem dL_law_738 : decode cL_law 738 = .ok (.aload_n 0, 1) := by decide +kernel
theorem dL_law_739 : decode cL_law 739 = .ok (.iload_n 3, 1) := by decide +kernel
theorem dL_law_740 : decode cL_law 740 = .ok (.iconst 1, 1) := by decide +kernel
theorem dL_law_741 : decode cL_law 741 = .ok (.iadd, 1) := by decide +kernel
theorem dL_law_742 : decode cL_law 742 = .ok (.iaload, 1) := by decide +kernel
theorem dL_law_743 : decode cL_law 743 = .ok (.aload_n 0, 1) := by decide +kernel
theorem dL_law_744 : decode cL_law 744 = .ok (.iload_n 3, 1) := by decide +kernel
theorem dL_law_745 : decode cL_law 745 = .ok (.iconst 2, 1) := by decide +kernel
theorem dL_law_746 : decode cL_law 746 = .ok (.iadd, 1) := by decide +kernel
theorem dL_law_747 : decode cL_law 747 = .ok (.iaload, 1) := by decide +kernel
theorem dL_law_748 : decode cL_law 748 = .ok (.aload_n 0, 1) := by decide +kernel
theorem dL_law_749 : decode cL_law 749 = .ok (.iload_n 3, 1) := by decide +kernel
theorem dL_law_750 : decode cL_law 750 = .ok (.iconst 3, 1) := by decide +kernel
theorem dL_law_751 : decode cL_law 751 = .ok (.iadd, 1) := by decide +kernel
theorem dL_law_752 : decode cL_law 752 = .ok (.iaload, 1) := by decide +kernel
theorem dL_law_753 : decode cL_law 753 = .ok (.invokevirtual 75, 3) := by decide +kernel
theorem dL_law_756 : decode cL_law 756 = .ok (.if_icmp .eq 532, 3) := by decide +kernel
theorem dL_law_759 : decode cL_law 759 = .ok (.iconst 0, 1) := by decide +kernel
theorem dL_law_760 : decode cL_law 760 = .ok (.ireturn, 1) := by decide +kernel
theorem dL_law_761 : decode cL_law 761 = .ok (.aload_n 1, 1) := by decide +kernel
theorem dL_law_762 : decode cL_law 762 = .ok (.aload_n 0, 1) := by decide +kernel
theorem dL_law_763 : decode cL_law 763 = .ok (.iload_n 3, 1) := by decide +kernel
theorem dL_law_764 : decode cL_law 764 = .ok (.iconst 1, 1) := by decide +kernel
theorem dL_law_765 : decode cL_law 765 = .ok (.iadd, 1) := by decide +kernel
theorem dL_law_766 : decode cL_law 766 = .ok (.iaload, 1) := by decide +kernel
theorem dL_law_767 : decode cL_law 767 = .ok (.aload_n 0, 1) := by decide +kernel
theorem dL_law_768 : decode cL_law 768 = .ok (.iload_n 3, 1) := by decide +kernel
theorem dL_law_769 : decode cL_law 769 = .ok (.iconst 2, 1) := by decide +kernel
theorem dL_law_770 : decode cL_law 770 = .ok (.iadd, 1) := by decide +kernel
theorem dL_law_771 : decode cL_law 771 = .ok (.iaload, 1) := by decide +kernel
theorem dL_law_772 : decode cL_law 772 = .ok (.invokevirtual 76, 3) := by decide +kernel
theorem dL_law_775 : decode cL_law 775 = .ok (.aload_n 2, 1) := by decide +kernel
theorem dL_law_776 : decode cL_law 776 = .ok (.aload_n 0, 1) := by decide +kernel
theorem dL_law_777 : decode cL_law 777 = .ok (.iload_n 3, 1) := by decide +kernel
theorem dL_law_778 : decode cL_law 778 = .ok (.iconst 1, 1) := by decide +kernel
theorem dL_law_779 : decode cL_law 779 = .ok (.iadd, 1) := by decide +kernel
theorem dL_law_780 : decode cL_law 780 = .ok (.iaload, 1) := by decide +kernel
theorem dL_law_781 : decode cL_law 781 = .ok (.aload_n 0, 1) := by decide +kernel
theorem dL_law_782 : decode cL_law 782 = .ok (.iload_n 3, 1) := by decide +kernel
theorem dL_law_783 : decode cL_law 783 = .ok (.iconst 2, 1) := by decide +kernel
theorem dL_law_784 : decode cL_law 784 = .ok (.iadd, 1) := by decide +kernel
theorem dL_law_785 : decode cL_law 785 = .ok (.iaload, 1) := by decide +kernel
theorem dL_law_786 : decode cL_law 786 = .ok (.invokevirtual 79, 3) := by decide +kernel
theorem dL_law_789 : decode cL_law 789 = .ok (.if_icmp .eq 499, 3) := by decide +kernel
theorem dL_law_792 : decode cL_law 792 = .ok (.iconst 0, 1) := by decide +kernel
theorem dL_law_793 : decode cL_law 793 = .ok (.ireturn, 1) := by decide +kernel
theorem dL_law_794 : decode cL_law 794 = .ok (.aload_n 1, 1) := by decide +kernel
theorem dL_law_795 : decode cL_law 795 = .ok (.aload_n 0, 1) := by decide +kernel
theorem dL_law_796 : decode cL_law 796 = .ok (.iload_n 3, 1) := by decide +kernel
theorem dL_law_797 : decode cL_law 797 = .ok (.iconst 1, 1) := by decide +kernel
theorem dL_law_798 : decode cL_law 798 = .ok (.iadd, 1) := by decide +kernel
theorem dL_law_799 : decode cL_law 799 = .ok (.iaload, 1) := by decide +kernel
theorem dL_law_800 : decode cL_law 800 = .ok (.aload_n 0, 1) := by decide +kernel
theorem dL_law_801 : decode cL_law 801 = .ok (.iload_n 3, 1) := by decide +kernel
theorem dL_law_802 : decode cL_law 802 = .ok (.iconst 2, 1) := by decide +kernel
theorem dL_law_803 : decode cL_law 803 = .ok (.iadd, 1) := by decide +kernel
theorem dL_law_804 : decode cL_law 804 = .ok (.iaload, 1) := by decide +kernel
theorem dL_law_805 : decode cL_law 805 = .ok (.aload_n 0, 1) := by decide +kernel
theorem dL_law_806 : decode cL_law 806 = .ok (.iload_n 3, 1) := by decide +kernel
theorem dL_law_807 : decode cL_law 807 = .ok (.iconst 3, 1) := by decide +kernel
theorem dL_law_808 : decode cL_law 808 = .ok (.iadd, 1) := by decide +kernel
theorem dL_law_809 : decode cL_law 809 = .ok (.iaload, 1) := by decide +kernel
theorem dL_law_810 : decode cL_law 810 = .ok (.invokevirtual 80, 3) := by decide +kernel
theorem dL_law_813 : decode cL_law 813 = .ok (.aload_n 2, 1) := by decide +kernel
theorem dL_law_814 : decode cL_law 814 = .ok (.aload_n 0, 1) := by decide +kernel
theorem dL_law_815 : decode cL_law 815 = .ok (.iload_n 3, 1) := by decide +kernel
theorem dL_law_816 : decode cL_law 816 = .ok (.iconst 1, 1) := by decide +kernel
theorem dL_law_817 : decode cL_law 817 = .ok (.iadd, 1) := by decide +kernel
theorem dL_law_818 : decode cL_law 818 = .ok (.iaload, 1) := by decide +kernel
theorem dL_law_819 : decode cL_law 819 = .ok (.aload_n 0, 1) := by decide +kernel
theorem dL_law_820 : decode cL_law 820 = .ok (.iload_n 3, 1) := by decide +kernel
theorem dL_law_821 : decode cL_law 821 = .ok (.iconst 2, 1) := by decide +kernel
theorem dL_law_822 : decode cL_law 822 = .ok (.iadd, 1) := by decide +kernel
theorem dL_law_823 : decode cL_law 823 = .ok (.iaload, 1) := by decide +kernel
theorem dL_law_824 : decode cL_law 824 = .ok (.aload_n 0, 1) := by decide +kernel
theorem dL_law_825 : decode cL_law 825 = .ok (.iload_n 3, 1) := by decide +kernel
theorem dL_law_826 : decode cL_law 826 = .ok (.iconst 3, 1) := by decide +kernel
theorem dL_law_827 : decode cL_law 827 = .ok (.iadd, 1) := by decide +kernel
theorem dL_law_828 : decode cL_law 828 = .ok (.iaload, 1) := by decide +kernel
theorem dL_law_829 : decode cL_law 829 = .ok (.invokevirtual 83, 3) := by decide +kernel
theorem dL_law_832 : decode cL_law 832 = .ok (.if_icmp .eq 456, 3) := by decide +kernel
theorem dL_law_835 : decode cL_law 835 = .ok (.iconst 0, 1) := by decide +kernel
theorem dL_law_836 : decode cL_law 836 = .ok (.ireturn, 1) := by decide +kernel
theorem dL_law_837 : decode cL_law 837 = .ok (.aload_n 1, 1) := by decide +kernel
theorem dL_law_838 : decode cL_law 838 = .ok (.aload_n 0, 1) := by decide +kernel
theorem dL_law_839 : decode cL_law 839 = .ok (.iload_n 3, 1) := by decide +kernel
theorem dL_law_840 : decode cL_law 840 = .ok (.iconst 1, 1) := by decide +kernel
theorem dL_law_841 : decode cL_law 841 = .ok (.iadd, 1) := by decide +kernel
theorem dL_law_842 : decode cL_law 842 = .ok (.iaload, 1) := by decide +kernel
theorem dL_law_843 : decode cL_law 843 = .ok (.aload_n 0, 1) := by decide +kernel
theorem dL_law_844 : decode cL_law 844 = .ok (.iload_n 3, 1) := by decide +kernel
theorem dL_law_845 : decode cL_law 845 = .ok (.iconst 2, 1) := by decide +kernel
theorem dL_law_846 : decode cL_law 846 = .ok (.iadd, 1) := by decide +kernel
theorem dL_law_847 : decode cL_law 847 = .ok (.iaload, 1) := by decide +kernel
theorem dL_law_848 : decode cL_law 848 = .ok (.aload_n 0, 1) := by decide +kernel
theorem dL_law_849 : decode cL_law 849 = .ok (.iload_n 3, 1) := by decide +kernel
theorem dL_law_850 : decode cL_law 850 = .ok (.iconst 3, 1) := by decide +kernel
theorem dL_law_851 : decode cL_law 851 = .ok (.iadd, 1) := by decide +kernel
theorem dL_law_852 : decode cL_law 852 = .ok (.iaload, 1) := by decide +kernel
theorem dL_law_853 : decode cL_law 853 = .ok (.aload_n 0, 1) := by decide +kernel
theorem dL_law_854 : decode cL_law 854 = .ok (.iload_n 3, 1) := by decide +kernel
theorem dL_law_855 : decode cL_law 855 = .ok (.iconst 4, 1) := by decide +kernel
theorem dL_law_856 : decode cL_law 856 = .ok (.iadd, 1) := by decide +kernel
theorem dL_law_857 : decode cL_law 857 = .ok (.iaload, 1) := by decide +kernel
theorem dL_law_858 : decode cL_law 858 = .ok (.invokevirtual 84, 3) := by decide +kernel
theorem dL_law_861 : decode cL_law 861 = .ok (.aload_n 2, 1) := by decide +kernel
theorem dL_law_862 : decode cL_law 862 = .ok (.aload_n 0, 1) := by decide +kernel
theorem dL_law_863 : decode cL_law 863 = .ok (.iload_n 3, 1) := by decide +kernel
theorem dL_law_864 : decode cL_law 864 = .ok (.iconst 1, 1) := by decide +kernel
theorem dL_law_865 : decode cL_law 865 = .ok (.iadd, 1) := by decide +kernel
theorem dL_law_866 : decode cL_law 866 = .ok (.iaload, 1) := by decide +kernel
theorem dL_law_867 : decode cL_law 867 = .ok (.aload_n 0, 1) := by decide +kernel
theorem dL_law_868 : decode cL_law 868 = .ok (.iload_n 3, 1) := by decide +kernel
theorem dL_law_869 : decode cL_law 869 = .ok (.iconst 2, 1) := by decide +kernel
theorem dL_law_870 : decode cL_law 870 = .ok (.iadd, 1) := by decide +kernel
theorem dL_law_871 : decode cL_law 871 = .ok (.iaload, 1) := by decide +kernel
theorem dL_law_872 : decode cL_law 872 = .ok (.aload_n 0, 1) := by decide +kernel
theorem dL_law_873 : decode cL_law 873 = .ok (.iload_n 3, 1) := by decide +kernel
theorem dL_law_874 : decode cL_law 874 = .ok (.iconst 3, 1) := by decide +kernel
theorem dL_law_875 : decode cL_law 875 = .ok (.iadd, 1) := by decide +kernel
theorem dL_law_876 : decode cL_law 876 = .ok (.iaload, 1) := by decide +kernel
theorem dL_law_877 : decode cL_law 877 = .ok (.aload_n 0, 1) := by decide +kernel
theorem dL_law_878 : decode cL_law 878 = .ok (.iload_n 3, 1) := by decide +kernel
theorem dL_law_879 : decode cL_law 879 = .ok (.iconst 4, 1) := by decide +kernel
theorem dL_law_880 : decode cL_law 880 = .ok (.iadd, 1) := by decide +kernel
theorem dL_law_881 : decode cL_law 881 = .ok (.iaload, 1) := by decide +kernel
theorem dL_law_882 : decode cL_law 882 = .ok (.invokevirtual 87, 3) := by decide +kernel
theorem dL_law_885 : decode cL_law 885 = .ok (.if_icmp .eq 403, 3) := by decide +kernel
theorem dL_law_888 : decode cL_law 888 = .ok (.iconst 0, 1) := by decide +kernel
theorem dL_law_889 : decode cL_law 889 = .ok (.ireturn, 1) := by decide +kernel
theorem dL_law_890 : decode cL_law 890 = .ok (.aload_n 1, 1) := by decide +kernel
theorem dL_law_891 : decode cL_law 891 = .ok (.aload_n 0, 1) := by decide +kernel
theorem dL_law_892 : decode cL_law 892 = .ok (.iload_n 3, 1) := by decide +kernel
theorem dL_law_893 : decode cL_law 893 = .ok (.iconst 1, 1) := by decide +kernel
theorem dL_law_894 : decode cL_law 894 = .ok (.iadd, 1) := by decide +kernel
theorem dL_law_895 : decode cL_law 895 = .ok (.iaload, 1) := by decide +kernel
theorem dL_law_896 : decode cL_law 896 = .ok (.aload_n 0, 1) := by decide +kernel
theorem dL_law_897 : decode cL_law 897 = .ok (.iload_n 3, 1) := by decide +kernel
theorem dL_law_898 : decode cL_law 898 = .ok (.iconst 2, 1) := by decide +kernel
theorem dL_law_899 : decode cL_law 899 = .ok (.iadd, 1) := by decide +kernel
theorem dL_law_900 : decode cL_law 900 = .ok (.iaload, 1) := by decide +kernel
theorem dL_law_901 : decode cL_law 901 = .ok (.invokevirtual 88, 3) := by decide +kernel
theorem dL_law_904 : decode cL_law 904 = .ok (.aload_n 2, 1) := by decide +kernel
theorem dL_law_905 : decode cL_law 905 = .ok (.aload_n 0, 1) := by decide +kernel
theorem dL_law_906 : decode cL_law 906 = .ok (.iload_n 3, 1) := by decide +kernel
theorem dL_law_907 : decode cL_law 907 = .ok (.iconst 1, 1) := by decide +kernel
theorem dL_law_908 : decode cL_law 908 = .ok (.iadd, 1) := by decide +kernel
theorem dL_law_909 : decode cL_law 909 = .ok (.iaload, 1) := by decide +kernel
theorem dL_law_910 : decode cL_law 910 = .ok (.aload_n 0, 1) := by decide +kernel
theorem dL_law_911 : decode cL_law 911 = .ok (.iload_n 3, 1) := by decide +kernel
theorem dL_law_912 : decode cL_law 912 = .ok (.iconst 2, 1) := by decide +kernel
theorem dL_law_913 : decode cL_law 913 = .ok (.iadd, 1) := by decide +kernel
theorem dL_law_914 : decode cL_law 914 = .ok (.iaload, 1) := by decide +kernel
theorem dL_law_915 : decode cL_law 915 = .ok (.invokevirtual 91, 3) := by decide +kernel
theorem dL_law_918 : decode cL_law 918 = .ok (.if_icmp .eq 370, 3) := by decide +kernel
theorem dL_law_921 : decode cL_law 921 = .ok (.iconst 0, 1) := by decide +kernel
theorem dL_law_922 : decode cL_law 922 = .ok (.ireturn, 1) := by decide +kernel
theorem dL_law_923 : decode cL_law 923 = .ok (.aload_n 1, 1) := by decide +kernel
theorem dL_law_924 : decode cL_law 924 = .ok (.invokevirtual 92, 3) := by decide +kernel
theorem dL_law_927 : decode cL_law 927 = .ok (.aload_n 2, 1) := by decide +kernel
theorem dL_law_928 : decode cL_law 928 = .ok (.invokevirtual 96, 3) := by decide +kernel
theorem dL_law_931 : decode cL_law 931 = .ok (.if_icmp .eq 357, 3) := by decide +kernel
theorem dL_law_934 : decode cL_law 934 = .ok (.iconst 0, 1) := by decide +kernel
theorem dL_law_935 : decode cL_law 935 = .ok (.ireturn, 1) := by decide +kernel
theorem dL_law_936 : decode cL_law 936 = .ok (.aload_n 1, 1) := by decide +kernel
theorem dL_law_937 : decode cL_law 937 = .ok (.invokevirtual 97, 3) := by decide +kernel
theorem dL_law_940 : decode cL_law 940 = .ok (.aload_n 2, 1) := by decide +kernel
theorem dL_law_941 : decode cL_law 941 = .ok (.invokevirtual 100, 3) := by decide +kernel
theorem dL_law_944 : decode cL_law 944 = .ok (.if_icmp .eq 344, 3) := by decide +kernel
theorem dL_law_947 : decode cL_law 947 = .ok (.iconst 0, 1) := by decide +kernel
theorem dL_law_948 : decode cL_law 948 = .ok (.ireturn, 1) := by decide +kernel
theorem dL_law_949 : decode cL_law 949 = .ok (.aload_n 1, 1) := by decide +kernel
theorem dL_law_950 : decode cL_law 950 = .ok (.aload_n 0, 1) := by decide +kernel
theorem dL_law_951 : decode cL_law 951 = .ok (.iload_n 3, 1) := by decide +kernel
theorem dL_law_952 : decode cL_law 952 = .ok (.iconst 1, 1) := by decide +kernel
theorem dL_law_953 : decode cL_law 953 = .ok (.iadd, 1) := by decide +kernel
theorem dL_law_954 : decode cL_law 954 = .ok (.iaload, 1) := by decide +kernel
theorem dL_law_955 : decode cL_law 955 = .ok (.invokevirtual 101, 3) := by decide +kernel
theorem dL_law_958 : decode cL_law 958 = .ok (.aload_n 2, 1) := by decide +kernel
theorem dL_law_959 : decode cL_law 959 = .ok (.aload_n 0, 1) := by decide +kernel
theorem dL_law_960 : decode cL_law 960 = .ok (.iload_n 3, 1) := by decide +kernel
theorem dL_law_961 : decode cL_law 961 = .ok (.iconst 1, 1) := by decide +kernel
theorem dL_law_962 : decode cL_law 962 = .ok (.iadd, 1) := by decide +kernel
theorem dL_law_963 : decode cL_law 963 = .ok (.iaload, 1) := by decide +kernel
theorem dL_law_964 : decode cL_law 964 = .ok (.invokevirtual 104, 3) := by decide +kernel
theorem dL_law_967 : decode cL_law 967 = .ok (.if_icmp .eq 321, 3) := by decide +kernel
theorem dL_law_970 : decode cL_law 970 = .ok (.iconst 0, 1) := by decide +kernel
theorem dL_law_971 : decode cL_law 971 = .ok (.ireturn, 1) := by decide +kernel
theorem dL_law_972 : decode cL_law 972 = .ok (.aload_n 1, 1) := by decide +kernel
theorem dL_law_973 : decode cL_law 973 = .ok (.aload_n 0, 1) := by decide +kernel
theorem dL_law_974 : decode cL_law 974 = .ok (.iload_n 3, 1) := by decide +kernel
theorem dL_law_975 : decode cL_law 975 = .ok (.iconst 1, 1) := by decide +kernel
theorem dL_law_976 : decode cL_law 976 = .ok (.iadd, 1) := by decide +kernel
theorem dL_law_977 : decode cL_law 977 = .ok (.iaload, 1) := by decide +kernel
theorem dL_law_978 : decode cL_law 978 = .ok (.invokevirtual 105, 3) := by decide +kernel
theorem dL_law_981 : decode cL_law 981 = .ok (.aload_n 2, 1) := by decide +kernel
theorem dL_law_982 : decode cL_law 982 = .ok (.aload_n 0, 1) := by decide +kernel
theorem dL_law_983 : decode cL_law 983 = .ok (.iload_n 3, 1) := by decide +kernel
theorem dL_law_984 : decode cL_law 984 = .ok (.iconst 1, 1) := by decide +kernel
theorem dL_law_985 : decode cL_law 985 = .ok (.iadd, 1) := by decide +kernel
theorem dL_law_986 : decode cL_law 986 = .ok (.iaload, 1) := by decide +kernel
theorem dL_law_987 : decode cL_law 987 = .ok (.invokevirtual 108, 3) := by decide +kernel
theorem dL_law_990 : decode cL_law 990 = .ok (.if_icmp .eq 298, 3) := by decide +kernel
theorem dL_law_993 : decode cL_law 993 = .ok (.iconst 0, 1) := by decide +kernel
theorem dL_law_994 : decode cL_law 994 = .ok (.ireturn, 1) := by decide +kernel
theorem dL_law_995 : decode cL_law 995 = .ok (.aload_n 1, 1) := by decide +kernel
theorem dL_law_996 : decode cL_law 996 = .ok (.invokevirtual 109, 3) := by decide +kernel
theorem dL_law_999 : decode cL_law 999 = .ok (.aload_n 2, 1) := by decide +kernel
theorem dL_law_1000 : decode cL_law 1000 = .ok (.invokevirtual 112, 3) := by decide +kernel
theorem dL_law_1003 : decode cL_law 1003 = .ok (.if_icmp .eq 285, 3) := by decide +kernel
theorem dL_law_1006 : decode cL_law 1006 = .ok (.iconst 0, 1) := by decide +kernel
theorem dL_law_1007 : decode cL_law 1007 = .ok (.ireturn, 1) := by decide +kernel
theorem dL_law_1008 : decode cL_law 1008 = .ok (.aload_n 1, 1) := by decide +kernel
theorem dL_law_1009 : decode cL_law 1009 = .ok (.aload_n 0, 1) := by decide +kernel
theorem dL_law_1010 : decode cL_law 1010 = .ok (.iload_n 3, 1) := by decide +kernel
theorem dL_law_1011 : decode cL_law 1011 = .ok (.iconst 1, 1) := by decide +kernel
theorem dL_law_1012 : decode cL_law 1012 = .ok (.iadd, 1) := by decide +kernel
theorem dL_law_1013 : decode cL_law 1013 = .ok (.iaload, 1) := by decide +kernel
theorem dL_law_1014 : decode cL_law 1014 = .ok (.invokevirtual 113, 3) := by decide +kernel
theorem dL_law_1017 : decode cL_law 1017 = .ok (.aload_n 2, 1) := by decide +kernel
theorem dL_law_1018 : decode cL_law 1018 = .ok (.aload_n 0, 1) := by decide +kernel
theorem dL_law_1019 : decode cL_law 1019 = .ok (.iload_n 3, 1) := by decide +kernel
theorem dL_law_1020 : decode cL_law 1020 = .ok (.iconst 1, 1) := by decide +kernel
theorem dL_law_1021 : decode cL_law 1021 = .ok (.iadd, 1) := by decide +kernel
theorem dL_law_1022 : decode cL_law 1022 = .ok (.iaload, 1) := by decide +kernel
theorem dL_law_1023 : decode cL_law 1023 = .ok (.invokevirtual 116, 3) := by decide +kernel
theorem dL_law_1026 : decode cL_law 1026 = .ok (.if_icmp .eq 262, 3) := by decide +kernel
theorem dL_law_1029 : decode cL_law 1029 = .ok (.iconst 0, 1) := by decide +kernel
theorem dL_law_1030 : decode cL_law 1030 = .ok (.ireturn, 1) := by decide +kernel
theorem dL_law_1031 : decode cL_law 1031 = .ok (.aload_n 1, 1) := by decide +kernel
theorem dL_law_1032 : decode cL_law 1032 = .ok (.aload_n 0, 1) := by decide +kernel
theorem dL_law_1033 : decode cL_law 1033 = .ok (.iload_n 3, 1) := by decide +kernel
theorem dL_law_1034 : decode cL_law 1034 = .ok (.iconst 1, 1) := by decide +kernel
theorem dL_law_1035 : decode cL_law 1035 = .ok (.iadd, 1) := by decide +kernel
theorem dL_law_1036 : decode cL_law 1036 = .ok (.iaload, 1) := by decide +kernel
theorem dL_law_1037 : decode cL_law 1037 = .ok (.aload_n 0, 1) := by decide +kernel
theorem dL_law_1038 : decode cL_law 1038 = .ok (.iload_n 3, 1) := by decide +kernel
theorem dL_law_1039 : decode cL_law 1039 = .ok (.iconst 2, 1) := by decide +kernel
theorem dL_law_1040 : decode cL_law 1040 = .ok (.iadd, 1) := by decide +kernel
theorem dL_law_1041 : decode cL_law 1041 = .ok (.iaload, 1) := by decide +kernel
theorem dL_law_1042 : decode cL_law 1042 = .ok (.invokevirtual 117, 3) := by decide +kernel
theorem dL_law_1045 : decode cL_law 1045 = .ok (.aload_n 2, 1) := by decide +kernel
theorem dL_law_1046 : decode cL_law 1046 = .ok (.aload_n 0, 1) := by decide +kernel
theorem dL_law_1047 : decode cL_law 1047 = .ok (.iload_n 3, 1) := by decide +kernel
theorem dL_law_1048 : decode cL_law 1048 = .ok (.iconst 1, 1) := by decide +kernel
theorem dL_law_1049 : decode cL_law 1049 = .ok (.iadd, 1) := by decide +kernel
theorem dL_law_1050 : decode cL_law 1050 = .ok (.iaload, 1) := by decide +kernel
theorem dL_law_1051 : decode cL_law 1051 = .ok (.aload_n 0, 1) := by decide +kernel
theorem dL_law_1052 : decode cL_law 1052 = .ok (.iload_n 3, 1) := by decide +kernel
theorem dL_law_1053 : decode cL_law 1053 = .ok (.iconst 2, 1) := by decide +kernel
theorem dL_law_1054 : decode cL_law 1054 = .ok (.iadd, 1) := by decide +kernel
theorem dL_law_1055 : decode cL_law 1055 = .ok (.iaload, 1) := by decide +kernel
theorem dL_law_1056 : decode cL_law 1056 = .ok (.invokevirtual 120, 3) := by decide +kernel
theorem dL_law_1059 : decode cL_law 1059 = .ok (.if_icmp .eq 229, 3) := by decide +kernel
theorem dL_law_1062 : decode cL_law 1062 = .ok (.iconst 0, 1) := by decide +kernel
theorem dL_law_1063 : decode cL_law 1063 = .ok (.ireturn, 1) := by decide +kernel
theorem dL_law_1064 : decode cL_law 1064 = .ok (.aload_n 1, 1) := by decide +kernel
theorem dL_law_1065 : decode cL_law 1065 = .ok (.aload_n 0, 1) := by decide +kernel
theorem dL_law_1066 : decode cL_law 1066 = .ok (.iload_n 3, 1) := by decide +kernel
theorem dL_law_1067 : decode cL_law 1067 = .ok (.iconst 1, 1) := by decide +kernel
theorem dL_law_1068 : decode cL_law 1068 = .ok (.iadd, 1) := by decide +kernel
theorem dL_law_1069 : decode cL_law 1069 = .ok (.iaload, 1) := by decide +kernel
theorem dL_law_1070 : decode cL_law 1070 = .ok (.aload_n 0, 1) := by decide +kernel
theorem dL_law_1071 : decode cL_law 1071 = .ok (.iload_n 3, 1) := by decide +kernel
theorem dL_law_1072 : decode cL_law 1072 = .ok (.iconst 2, 1) := by decide +kernel
theorem dL_law_1073 : decode cL_law 1073 = .ok (.iadd, 1) := by decide +kernel
theorem dL_law_1074 : decode cL_law 1074 = .ok (.iaload, 1) := by decide +kernel
theorem dL_law_1075 : decode cL_law 1075 = .ok (.invokevirtual 121, 3) := by decide +kernel
theorem dL_law_1078 : decode cL_law 1078 = .ok (.aload_n 2, 1) := by decide +kernel
theorem dL_law_1079 : decode cL_law 1079 = .ok (.aload_n 0, 1) := by decide +kernel
theorem dL_law_1080 : decode cL_law 1080 = .ok (.iload_n 3, 1) := by decide +kernel
theorem dL_law_1081 : decode cL_law 1081 = .ok (.iconst 1, 1) := by decide +kernel
theorem dL_law_1082 : decode cL_law 1082 = .ok (.iadd, 1) := by decide +kernel
theorem dL_law_1083 : decode cL_law 1083 = .ok (.iaload, 1) := by decide +kernel
theorem dL_law_1084 : decode cL_law 1084 = .ok (.aload_n 0, 1) := by decide +kernel
theorem dL_law_1085 : decode cL_law 1085 = .ok (.iload_n 3, 1) := by decide +kernel
theorem dL_law_1086 : decode cL_law 1086 = .ok (.iconst 2, 1) := by decide +kernel
theorem dL_law_1087 : decode cL_law 1087 = .ok (.iadd, 1) := by decide +kernel
theorem dL_law_1088 : decode cL_law 1088 = .ok (.iaload, 1) := by decide +kernel
theorem dL_law_1089 : decode cL_law 1089 = .ok (.invokevirtual 124, 3) := by decide +kernel
theorem dL_law_1092 : decode cL_law 1092 = .ok (.if_icmp .eq 196, 3) := by decide +kernel
theorem dL_law_1095 : decode cL_law 1095 = .ok (.iconst 0, 1) := by decide +kernel
theorem dL_law_1096 : decode cL_law 1096 = .ok (.ireturn, 1) := by decide +kernel
theorem dL_law_1097 : decode cL_law 1097 = .ok (.aload_n 1, 1) := by decide +kernel
theorem dL_law_1098 : decode cL_law 1098 = .ok (.aload_n 0, 1) := by decide +kernel
theorem dL_law_1099 : decode cL_law 1099 = .ok (.iload_n 3, 1) := by decide +kernel
theorem dL_law_1100 : decode cL_law 1100 = .ok (.iconst 1, 1) := by decide +kernel
theorem dL_law_1101 : decode cL_law 1101 = .ok (.iadd, 1) := by decide +kernel
theorem dL_law_1102 : decode cL_law 1102 = .ok (.iaload, 1) := by decide +kernel
theorem dL_law_1103 : decode cL_law 1103 = .ok (.aload_n 0, 1) := by decide +kernel
theorem dL_law_1104 : decode cL_law 1104 = .ok (.iload_n 3, 1) := by decide +kernel
theorem dL_law_1105 : decode cL_law 1105 = .ok (.iconst 2, 1) := by decide +kernel
theorem dL_law_1106 : decode cL_law 1106 = .ok (.iadd, 1) := by decide +kernel
theorem dL_law_1107 : decode cL_law 1107 = .ok (.iaload, 1) := by decide +kernel
theorem dL_law_1108 : decode cL_law 1108 = .ok (.aload_n 0, 1) := by decide +kernel
theorem dL_law_1109 : decode cL_law 1109 = .ok (.iload_n 3, 1) := by decide +kernel
theorem dL_law_1110 : decode cL_law 1110 = .ok (.iconst 3, 1) := by decide +kernel
theorem dL_law_1111 : decode cL_law 1111 = .ok (.iadd, 1) := by decide +kernel
theorem dL_law_1112 : decode cL_law 1112 = .ok (.iaload, 1) := by decide +kernel
theorem dL_law_1113 : decode cL_law 1113 = .ok (.invokevirtual 125, 3) := by decide +kernel
theorem dL_law_1116 : decode cL_law 1116 = .ok (.aload_n 2, 1) := by decide +kernel
theorem dL_law_1117 : decode cL_law 1117 = .ok (.aload_n 0, 1) := by decide +kernel
theorem dL_law_1118 : decode cL_law 1118 = .ok (.iload_n 3, 1) := by decide +kernel
theorem dL_law_1119 : decode cL_law 1119 = .ok (.iconst 1, 1) := by decide +kernel
theorem dL_law_1120 : decode cL_law 1120 = .ok (.iadd, 1) := by decide +kernel
theorem dL_law_1121 : decode cL_law 1121 = .ok (.iaload, 1) := by decide +kernel
theorem dL_law_1122 : decode cL_law 1122 = .ok (.aload_n 0, 1) := by decide +kernel
theorem dL_law_1123 : decode cL_law 1123 = .ok (.iload_n 3, 1) := by decide +kernel
theorem dL_law_1124 : decode cL_law 1124 = .ok (.iconst 2, 1) := by decide +kernel
theorem dL_law_1125 : decode cL_law 1125 = .ok (.iadd, 1) := by decide +kernel
theorem dL_law_1126 : decode cL_law 1126 = .ok (.iaload, 1) := by decide +kernel
theorem dL_law_1127 : decode cL_law 1127 = .ok (.aload_n 0, 1) := by decide +kernel
theorem dL_law_1128 : decode cL_law 1128 = .ok (.iload_n 3, 1) := by decide +kernel
theorem dL_law_1129 : decode cL_law 1129 = .ok (.iconst 3, 1) := by decide +kernel
theorem dL_law_1130 : decode cL_law 1130 = .ok (.iadd, 1) := by decide +kernel
theorem dL_law_1131 : decode cL_law 1131 = .ok (.iaload, 1) := by decide +kernel
theorem dL_law_1132 : decode cL_law 1132 = .ok (.invokevirtual 128, 3) := by decide +kernel
theorem dL_law_1135 : decode cL_law 1135 = .ok (.if_icmp .eq 153, 3) := by decide +kernel
theorem dL_law_1138 : decode cL_law 1138 = .ok (.iconst 0, 1) := by decide +kernel
theorem dL_law_1139 : decode cL_law 1139 = .ok (.ireturn, 1) := by decide +kernel
theorem dL_law_1140 : decode cL_law 1140 = .ok (.aload_n 1, 1) := by decide +kernel
theorem dL_law_1141 : decode cL_law 1141 = .ok (.aload_n 0, 1) := by decide +kernel
theorem dL_law_1142 : decode cL_law 1142 = .ok (.iload_n 3, 1) := by decide +kernel
theorem dL_law_1143 : decode cL_law 1143 = .ok (.iconst 1, 1) := by decide +kernel
theorem dL_law_1144 : decode cL_law 1144 = .ok (.iadd, 1) := by decide +kernel
theorem dL_law_1145 : decode cL_law 1145 = .ok (.iaload, 1) := by decide +kernel
theorem dL_law_1146 : decode cL_law 1146 = .ok (.aload_n 0, 1) := by decide +kernel
theorem dL_law_1147 : decode cL_law 1147 = .ok (.iload_n 3, 1) := by decide +kernel
theorem dL_law_1148 : decode cL_law 1148 = .ok (.iconst 2, 1) := by decide +kernel
theorem dL_law_1149 : decode cL_law 1149 = .ok (.iadd, 1) := by decide +kernel
theorem dL_law_1150 : decode cL_law 1150 = .ok (.iaload, 1) := by decide +kernel
theorem dL_law_1151 : decode cL_law 1151 = .ok (.invokevirtual 129, 3) := by decide +kernel
theorem dL_law_1154 : decode cL_law 1154 = .ok (.aload_n 2, 1) := by decide +kernel
theorem dL_law_1155 : decode cL_law 1155 = .ok (.aload_n 0, 1) := by decide +kernel
theorem dL_law_1156 : decode cL_law 1156 = .ok (.iload_n 3, 1) := by decide +kernel
theorem dL_law_1157 : decode cL_law 1157 = .ok (.iconst 1, 1) := by decide +kernel
theorem dL_law_1158 : decode cL_law 1158 = .ok (.iadd, 1) := by decide +kernel
theorem dL_law_1159 : decode cL_law 1159 = .ok (.iaload, 1) := by decide +kernel
theorem dL_law_1160 : decode cL_law 1160 = .ok (.aload_n 0, 1) := by decide +kernel
theorem dL_law_1161 : decode cL_law 1161 = .ok (.iload_n 3, 1) := by decide +kernel
theorem dL_law_1162 : decode cL_law 1162 = .ok (.iconst 2, 1) := by decide +kernel
theorem dL_law_1163 : decode cL_law 1163 = .ok (.iadd, 1) := by decide +kernel
theorem dL_law_1164 : decode cL_law 1164 = .ok (.iaload, 1) := by decide +kernel
theorem dL_law_1165 : decode cL_law 1165 = .ok (.invokevirtual 132, 3) := by decide +kernel
theorem dL_law_1168 : decode cL_law 1168 = .ok (.if_icmp .eq 120, 3) := by decide +kernel
theorem dL_law_1171 : decode cL_law 1171 = .ok (.iconst 0, 1) := by decide +kernel
theorem dL_law_1172 : decode cL_law 1172 = .ok (.ireturn, 1) := by decide +kernel
theorem dL_law_1173 : decode cL_law 1173 = .ok (.aload_n 1, 1) := by decide +kernel
theorem dL_law_1174 : decode cL_law 1174 = .ok (.aload_n 0, 1) := by decide +kernel
theorem dL_law_1175 : decode cL_law 1175 = .ok (.iload_n 3, 1) := by decide +kernel
theorem dL_law_1176 : decode cL_law 1176 = .ok (.iconst 1, 1) := by decide +kernel
theorem dL_law_1177 : decode cL_law 1177 = .ok (.iadd, 1) := by decide +kernel
theorem dL_law_1178 : decode cL_law 1178 = .ok (.iaload, 1) := by decide +kernel
theorem dL_law_1179 : decode cL_law 1179 = .ok (.aload_n 0, 1) := by decide +kernel
theorem dL_law_1180 : decode cL_law 1180 = .ok (.iload_n 3, 1) := by decide +kernel
theorem dL_law_1181 : decode cL_law 1181 = .ok (.iconst 2, 1) := by decide +kernel
theorem dL_law_1182 : decode cL_law 1182 = .ok (.iadd, 1) := by decide +kernel
theorem dL_law_1183 : decode cL_law 1183 = .ok (.iaload, 1) := by decide +kernel
theorem dL_law_1184 : decode cL_law 1184 = .ok (.ifCond .eq 7, 3) := by decide +kernel
theorem dL_law_1187 : decode cL_law 1187 = .ok (.iconst 1, 1) := by decide +kernel
theorem dL_law_1188 : decode cL_law 1188 = .ok (.goto 4, 3) := by decide +kernel
theorem dL_law_1191 : decode cL_law 1191 = .ok (.iconst 0, 1) := by decide +kernel
theorem dL_law_1192 : decode cL_law 1192 = .ok (.invokevirtual 133, 3) := by decide +kernel
theorem dL_law_1195 : decode cL_law 1195 = .ok (.aload_n 2, 1) := by decide +kernel
theorem dL_law_1196 : decode cL_law 1196 = .ok (.aload_n 0, 1) := by decide +kernel
theorem dL_law_1197 : decode cL_law 1197 = .ok (.iload_n 3, 1) := by decide +kernel
theorem dL_law_1198 : decode cL_law 1198 = .ok (.iconst 1, 1) := by decide +kernel
theorem dL_law_1199 : decode cL_law 1199 = .ok (.iadd, 1) := by decide +kernel
theorem dL_law_1200 : decode cL_law 1200 = .ok (.iaload, 1) := by decide +kernel
theorem dL_law_1201 : decode cL_law 1201 = .ok (.aload_n 0, 1) := by decide +kernel
theorem dL_law_1202 : decode cL_law 1202 = .ok (.iload_n 3, 1) := by decide +kernel
theorem dL_law_1203 : decode cL_law 1203 = .ok (.iconst 2, 1) := by decide +kernel
theorem dL_law_1204 : decode cL_law 1204 = .ok (.iadd, 1) := by decide +kernel
theorem dL_law_1205 : decode cL_law 1205 = .ok (.iaload, 1) := by decide +kernel
theorem dL_law_1206 : decode cL_law 1206 = .ok (.ifCond .eq 7, 3) := by decide +kernel
theorem dL_law_1209 : decode cL_law 1209 = .ok (.iconst 1, 1) := by decide +kernel
theorem dL_law_1210 : decode cL_law 1210 = .ok (.goto 4, 3) := by decide +kernel
theorem dL_law_1213 : decode cL_law 1213 = .ok (.iconst 0, 1) := by decide +kernel
theorem dL_law_1214 : decode cL_law 1214 = .ok (.invokevirtual 136, 3) := by decide +kernel
theorem dL_law_1217 : decode cL_law 1217 = .ok (.if_icmp .eq 71, 3) := by decide +kernel
theorem dL_law_1220 : decode cL_law 1220 = .ok (.iconst 0, 1) := by decide +kernel
theorem dL_law_1221 : decode cL_law 1221 = .ok (.ireturn, 1) := by decide +kernel
theorem dL_law_1222 : decode cL_law 1222 = .ok (.aload_n 1, 1) := by decide +kernel
theorem dL_law_1223 : decode cL_law 1223 = .ok (.aload_n 0, 1) := by decide +kernel
theorem dL_law_1224 : decode cL_law 1224 = .ok (.iload_n 3, 1) := by decide +kernel
theorem dL_law_1225 : decode cL_law 1225 = .ok (.iconst 1, 1) := by decide +kernel
theorem dL_law_1226 : decode cL_law 1226 = .ok (.iadd, 1) := by decide +kernel
theorem dL_law_1227 : decode cL_law 1227 = .ok (.iaload, 1) := by decide +kernel
theorem dL_law_1228 : decode cL_law 1228 = .ok (.aload_n 0, 1) := by decide +kernel
theorem dL_law_1229 : decode cL_law 1229 = .ok (.iload_n 3, 1) := by decide +kernel
theorem dL_law_1230 : decode cL_law 1230 = .ok (.iconst 2, 1) := by decide +kernel
theorem dL_law_1231 : decode cL_law 1231 = .ok (.iadd, 1) := by decide +kernel
theorem dL_law_1232 : decode cL_law 1232 = .ok (.iaload, 1) := by decide +kernel
theorem dL_law_1233 : decode cL_law 1233 = .ok (.aload_n 0, 1) := by decide +kernel
theorem dL_law_1234 : decode cL_law 1234 = .ok (.iload_n 3, 1) := by decide +kernel
theorem dL_law_1235 : decode cL_law 1235 = .ok (.iconst 3, 1) := by decide +kernel
theorem dL_law_1236 : decode cL_law 1236 = .ok (.iadd, 1) := by decide +kernel
theorem dL_law_1237 : decode cL_law 1237 = .ok (.iaload, 1) := by decide +kernel
theorem dL_law_1238 : decode cL_law 1238 = .ok (.invokevirtual 137, 3) := by decide +kernel
theorem dL_law_1241 : decode cL_law 1241 = .ok (.aload_n 2, 1) := by decide +kernel
theorem dL_law_1242 : decode cL_law 1242 = .ok (.aload_n 0, 1) := by decide +kernel
theorem dL_law_1243 : decode cL_law 1243 = .ok (.iload_n 3, 1) := by decide +kernel
theorem dL_law_1244 : decode cL_law 1244 = .ok (.iconst 1, 1) := by decide +kernel
theorem dL_law_1245 : decode cL_law 1245 = .ok (.iadd, 1) := by decide +kernel
theorem dL_law_1246 : decode cL_law 1246 = .ok (.iaload, 1) := by decide +kernel
theorem dL_law_1247 : decode cL_law 1247 = .ok (.aload_n 0, 1) := by decide +kernel
theorem dL_law_1248 : decode cL_law 1248 = .ok (.iload_n 3, 1) := by decide +kernel
theorem dL_law_1249 : decode cL_law 1249 = .ok (.iconst 2, 1) := by decide +kernel
theorem dL_law_1250 : decode cL_law 1250 = .ok (.iadd, 1) := by decide +kernel
theorem dL_law_1251 : decode cL_law 1251 = .ok (.iaload, 1) := by decide +kernel
theorem dL_law_1252 : decode cL_law 1252 = .ok (.aload_n 0, 1) := by decide +kernel
theorem dL_law_1253 : decode cL_law 1253 = .ok (.iload_n 3, 1) := by decide +kernel
theorem dL_law_1254 : decode cL_law 1254 = .ok (.iconst 3, 1) := by decide +kernel
theorem dL_law_1255 : decode cL_law 1255 = .ok (.iadd, 1) := by decide +kernel
theorem dL_law_1256 : decode cL_law 1256 = .ok (.iaload, 1) := by decide +kernel
theorem dL_law_1257 : decode cL_law 1257 = .ok (.invokevirtual 140, 3) := by decide +kernel
theorem dL_law_1260 : decode cL_law 1260 = .ok (.if_icmp .eq 28, 3) := by decide +kernel
theorem dL_law_1263 : decode cL_law 1263 = .ok (.iconst 0, 1) := by decide +kernel
theorem dL_law_1264 : decode cL_law 1264 = .ok (.ireturn, 1) := by decide +kernel
theorem dL_law_1265 : decode cL_law 1265 = .ok (.aload_n 1, 1) := by decide +kernel
theorem dL_law_1266 : decode cL_law 1266 = .ok (.aload_n 0, 1) := by decide +kernel
theorem dL_law_1267 : decode cL_law 1267 = .ok (.iload_n 3, 1) := by decide +kernel
theorem dL_law_1268 : decode cL_law 1268 = .ok (.iconst 1, 1) := by decide +kernel
theorem dL_law_1269 : decode cL_law 1269 = .ok (.iadd, 1) := by decide +kernel
theorem dL_law_1270 : decode cL_law 1270 = .ok (.iaload, 1) := by decide +kernel
theorem dL_law_1271 : decode cL_law 1271 = .ok (.invokevirtual 141, 3) := by decide +kernel
theorem dL_law_1274 : decode cL_law 1274 = .ok (.aload_n 2, 1) := by decide +kernel
theorem dL_law_1275 : decode cL_law 1275 = .ok (.aload_n 0, 1) := by decide +kernel
theorem dL_law_1276 : decode cL_law 1276 = .ok (.iload_n 3, 1) := by decide +kernel
theorem dL_law_1277 : decode cL_law 1277 = .ok (.iconst 1, 1) := by decide +kernel
theorem dL_law_1278 : decode cL_law 1278 = .ok (.iadd, 1) := by decide +kernel
theorem dL_law_1279 : decode cL_law 1279 = .ok (.iaload, 1) := by decide +kernel
theorem dL_law_1280 : decode cL_law 1280 = .ok (.invokevirtual 144, 3) := by decide +kernel
theorem dL_law_1283 : decode cL_law 1283 = .ok (.if_icmp .eq 5, 3) := by decide +kernel
theorem dL_law_1286 : decode cL_law 1286 = .ok (.iconst 0, 1) := by decide +kernel
theorem dL_law_1287 : decode cL_law 1287 = .ok (.ireturn, 1) := by decide +kernel
theorem dL_law_1288 : decode cL_law 1288 = .ok (.iinc 3 6, 3) := by decide +kernel
theorem dL_law_1291 : decode cL_law 1291 = .ok (.goto (-1273), 3) := by decide +kernel
theorem dL_law_1294 : decode cL_law 1294 = .ok (.iconst 1, 1) := by decide +kernel
theorem dL_law_1295 : decode cL_law 1295 = .ok (.ireturn, 1) := by decide +kernel
end
section
/-- the words that a method hands on -/
def nx_T : List Cond := lw_tbl.filter goodWord
theorem nx_in {w : Cond} (h : w ∈ lw_tbl) (hg : goodWord w = true) : w ∈ nx_T := List.mem_filter.mpr ⟨h, hg⟩
theorem nx_t1 {w : Cond} (i : Nat) (h : tables_1[i]? = some w) (hg : goodWord w = true) : w ∈ nx_T := nx_in (List.mem_append_right _ (List.mem_of_getElem? h)) hg
theorem nx_t2 {w : Cond} (i : Nat) (h : (k2_sels lw_privs)[i]? = some w) (hg : goodWord w = true) : w ∈ nx_T := nx_in (List.mem_append_left _ (List.mem_of_getElem? h)) hg
theorem nx_good {ws : List Cond} (h : ∀ w ∈ ws, w ∈ nx_T) : GoodIn nx_T ws := fun w hw => ⟨h w hw, good_of_word (List.mem_filter.mp (h w hw)).2⟩
/-- what is fixed of the machine's tables: class numbers, array kinds, the two static rows -/
abbrev nx_E : Type := va_G × ClassId × ClassId × Nat × Nat
abbrev nx_ty (E : nx_E) : List (ClassId × FieldType) := [(E.2.1, .int), (E.2.2.1, .long)]
def nx_east : Nat → Int32 := fun j => ([2, 3, 4, 5, 1, 3, 4, 6, 1, 2, 5, 6, 1, 2, 5, 6, 1, 3, 4, 6, 2, 3, 4, 5] : List Int32).getD j 0
def nx_south : Nat → Int32 := fun j => ([4, 2, 5, 3, 3, 6, 1, 4, 5, 1, 6, 2, 2, 6, 1, 5, 4, 1, 6, 3, 3, 5, 2, 4] : List Int32).getD j 0
def nx_S (E : nx_E) (A : Nat → Prop) (U : State) (H : Heap) : Prop := va_Z RX3 "EAST" "[I" (.ref E.2.2.2.1) A U H ∧ va_Z RX3 "SOUTH" "[I" (.ref E.2.2.2.2) A U H ∧ va_T .int E.2.2.2.1 24 (fun j => .int (nx_east j)) A U H ∧ va_T .int E.2.2.2.2 24 (fun j => .int (nx_south j)) A U H
theorem nx_S.moved {E : nx_E} {A : Nat → Prop} {u U : State} {H : Heap} (hvm : u.vm.Alike U.vm) (h : nx_S E A u H) : nx_S E A U H := ⟨va_Z.moved hvm h.1, va_Z.moved hvm h.2.1, va_T.moved hvm h.2.2.1, va_T.moved hvm h.2.2.2⟩
theorem nx_S.kept {E : nx_E} {A : Nat → Prop} {U : State} {H H1 : Heap} (h : nx_S E A U H) (hq : ∀ a : Nat, a < H.size → ¬ A a → H1[a]? = H[a]?) : nx_S E A U H1 := ⟨va_Z.kept h.1 hq, va_Z.kept h.2.1 hq, va_T.kept h.2.2.1 hq, va_T.kept h.2.2.2 hq⟩
theorem nx_S.narrow {E : nx_E} {A B : Nat → Prop} {U : State} {H : Heap} (h : nx_S E A U H) (hAB : ∀ q, B q → A q) : nx_S E B U H := ⟨va_Z.narrow h.1 hAB, va_Z.narrow h.2.1 hAB, va_T.narrow h.2.2.1 hAB, va_T.narrow h.2.2.2 hAB⟩
def nx_L : List (String × Nat × MethodName) := [(RX10, 18, yX3_init), (RX10, 25, yX8_init), (RX0, 3, yX6_init), (RX1, 48, yX10_oneIf), (RX1, 71, yX10_noneIfNowhere), (RX2, 25, yX10_isSide), (RX2, 56, yX10_oneIf), (RX3, 15, yX10_isStance), (RX3, 3, yX6_init), (RX4, 3, yX6_init), (RX5, 33, yX10_noneIfNowhere), (RX5, 94, yX10_oneIf), (RX7, 41, yX10_oneIf), (RX9, 66, yX10_oneIf)]
abbrev nx_after : MethodName := ⟨"RollingThings$Mover", "after", "(II)I"⟩
def nx_Z (U : State) : Prop := (∀ q ∈ nx_L, va_Nw (.methodLinkNest q.1 q.2.1 q.2.2 "RollingThings") U) ∧ va_Nw (.declares nx_after) U
theorem nx_Z.warm {s U : State} (hW : s.WarmedH U.vm) (h : nx_Z s) : nx_Z U := ⟨fun q hq => va_Nw.warmM hW (h.1 q hq), va_Nw.warmD hW h.2⟩
theorem nx_Z.same {u U : State} (hv : u.vm = U.vm) (h : nx_Z u) : nx_Z U := ⟨fun q hq => va_Nw.same rfl hv (h.1 q hq), va_Nw.same rfl hv h.2⟩
/-- a method's start -/
def nx_P (E : nx_E) (A : Nat → Prop) (sz : Nat) (ws : va_W) (U : State) : Prop := U.heap.size = sz ∧ va_P E.1 vwCl ws U.heap ∧ va_K E.1 vwCl (nx_ty E) U ∧ nx_S E A U U.heap ∧ nx_Z U
abbrev nx_C (E : nx_E) (A : Nat → Prop) (p : Program) (s : State) (m : MethodId) (c : Code) (cc : ByteArray) (nL : Nat) (own : String) (args : Array Value) : Prop := CallFix p m c cc nL s args nx_T own ∧ va_K E.1 vwCl (nx_ty E) s ∧ nx_S E A s s.heap ∧ nx_Z s
def nx_F : Nat → Prop := fun _ => False
theorem nx_FA {A : Nat → Prop} : ∀ q, nx_F q → A q := fun _ h => h.elim
def nx_A (a : Nat → Nat) (n sz : Nat) : Nat → Prop := fun q => (∃ k, k < n ∧ q = a k) ∨ sz ≤ q
theorem nx_Am {a : Nat → Nat} {n x y : Nat} (h : x ≤ y) : ∀ q, nx_A a n y q → nx_A a n x q := fun _ z => z.elim Or.inl (fun z => Or.inr (Nat.le_trans h z))
def nx_inj (a : Nat → Nat) (n : Nat) : Prop := ∀ i j, i < n → j < n → a i = a j → i = j
/-- a world whose k-th cell lies at a k -/
def nx_ad (a : Nat → Nat) (n : Nat) (ws : va_W) : Prop := ws.map Prod.fst = (List.range n).map a
theorem nx_ad_at {a : Nat → Nat} {n : Nat} {ws : va_W} (h : nx_ad a n ws) {k : Nat} {q : Nat × va_E} (hk : ws[k]? = some q) : k < n ∧ q.1 = a k := by
  have h1 : (ws.map Prod.fst)[k]? = some q.1 := by rw [List.getElem?_map, hk]; rfl
  rw [h, List.getElem?_map] at h1
  cases h2 : (List.range n)[k]? with
  | none => rw [h2] at h1; cases h1
  | some j =>
    rw [h2] at h1
    obtain ⟨h3, h4⟩ := List.getElem?_eq_some_iff.mp h2
    rw [List.getElem_range] at h4
    rw [List.length_range] at h3
    subst h4
    exact ⟨h3, (Option.some.inj h1).symm⟩
theorem nx_D {a : Nat → Nat} {n sz : Nat} {ws : va_W} (hI : nx_inj a n) (h : nx_ad a n ws) : va_D (nx_A a n sz) ws :=
  ⟨fun i j x y hi hj hxy => hI i j (nx_ad_at h hi).1 (nx_ad_at h hj).1 (by rw [← (nx_ad_at h hi).2, ← (nx_ad_at h hj).2, hxy]), fun k q hk => Or.inl ⟨k, nx_ad_at h hk⟩⟩
theorem nx_blind {As : List Value} {E : nx_E} {A : Nat → Prop} {sz : Nat} {ws : va_W} : FrameBlind (va_Pc As (nx_P E A sz ws)) := fun a U g mk q => by
  obtain ⟨q0, q1, qP, qK, qS, qZ⟩ := q
  exact ⟨q0, q1, qP, va_K.moved (u := U) (U := U.calling g mk a) (Vm.Alike.refl U.vm) qK, nx_S.moved (u := U) (U := U.calling g mk a) (Vm.Alike.refl U.vm) qS, nx_Z.same (u := U) (U := U.calling g mk a) rfl qZ⟩
section NXA
variable {p : Program} {l : Launch} {e : Env} {R : Room} {s : State} {m : MethodId} {args : Array Value} {below : List Frame} {meth : Method} {c : Code} {H : Heap} {locs : List Loc} {Q : State → Prop}
variable {E : nx_E} {A A1 : Nat → Prop} {cc cy : ByteArray} {nL maxL n index : Nat} {own C : String} {y : MethodName} {ret : Option FieldType} {rm : Room} {ws : va_W} {Qc : Array Value → State → Outcome → State → Prop} {b : Nat} {As rest st0 : List Value} {pc : Nat} {ls : Array Slot}
theorem nx_pre (X : nx_C E A p s m c cc nL own args) (hS : va_S A s.heap H locs) (hP : va_P E.1 vwCl ws H) (hA : ∀ q, A1 q → A q) : ∀ U : State, U.heap = H → s.WarmedH U.vm → va_Pc As (nx_P E A1 H.size ws) As.toArray U := fun U hU hW =>
  ⟨rfl, by rw [hU], by rw [hU]; exact hP, va_K.moved hW.alike X.2.1, by rw [hU]; exact ((X.2.2.1.kept hS.2.1).moved hW.alike).narrow hA, X.2.2.2.warm hW⟩
abbrev nx_wV (own : String) (index : Nat) (C : String) (y : MethodName) (cy : ByteArray) (maxL : Nat) (ret : Option FieldType) (n : Nat) : Prop := GoodIn nx_T (wsV own index C y (.code y cy maxL ret :: nx_T)) ∧ (y.cls = C ∧ y.cls ≠ "java/lang/invoke/MethodHandle" ∧ y.cls ≠ "java/lang/invoke/VarHandle" ∧ (parseMethodDescriptor y.desc).map (fun d => d.parameters.length) = some n)
theorem nx_mkV (h1 : Cond.methodLink own index y ∈ nx_T) (h2 : Cond.instanceMethod y ∈ nx_T) (h3 : Cond.selects C y y ∈ nx_T) (h4 : Cond.initialized C ∈ nx_T) (h5 : Cond.code y cy maxL ret ∈ nx_T) (hd : y.cls = C ∧ y.cls ≠ "java/lang/invoke/MethodHandle" ∧ y.cls ≠ "java/lang/invoke/VarHandle" ∧ (parseMethodDescriptor y.desc).map (fun d => d.parameters.length) = some n) : nx_wV own index C y cy maxL ret n := by
  refine ⟨nx_good (fun w hw => ?_), hd⟩
  rcases List.mem_append.mp hw with h | h
  · simp only [List.mem_cons, List.not_mem_nil, or_false] at h
    rcases h with rfl | rfl | rfl | rfl <;> assumption
  · rcases List.mem_cons.mp h with rfl | h
    · exact h5
    · exact h
theorem nx_runV (X : nx_C E A p s m c cc nL own args) (hS : va_S A s.heap H locs) (hP : va_P E.1 vwCl ws H) (hM : Met l y (.code y cy maxL ret :: nx_T) rm (va_Pc (.ref b :: As) (nx_P E A1 H.size ws)) Qc 0 0 A1) (hA : ∀ q, A1 q → A q) (hw : nx_wV own index C y cy maxL ret n) (hrm : rm.cells = 0 ∧ rm.slots = 0) (hR : rm.frames + 1 ≤ R.frames ∧ 8 + (maxL + 11) + rm.locals ≤ R.locals) (q0 : Nat) {ci : Nat} {fs : List Value} {T : u_T} {N : Nat} (he : ws[q0]? = some (b, .inr (ci, fs))) (hc : vwCl[ci]? = some (C, T, N)) (hn : As.length = n) (hst : st0 = As.reverse ++ .ref b :: rest) (hsz : ls.size = nL) (hrest : (rest.map fun v => v.category).sum ≤ 8) (hdg : decode cc pc = .ok (.invokevirtual index, 3)) : va_Run p l e R s m args below meth c H locs 0 0 0 0 (F0 m pc ls st0) rest (Qc (Value.ref b :: As).toArray) A1 :=
  va_runV X.1 hM (cwV n X.1.2.2.2.2 hw.1 rfl hrm.1 hrm.2 hw.2 hR) ⟨nx_blind, va_recv X.2.1 hP hc he, nx_pre X hS hP hA⟩ rfl hn hsz hst (lv_room hrest) hdg ⟨Nat.zero_le _, Nat.zero_le _⟩
abbrev nx_wS (own : String) (index : Nat) (y : MethodName) (cy : ByteArray) (maxL : Nat) (ret : Option FieldType) (n : Nat) : Prop := GoodIn nx_T (va_wsS own index y (.code y cy maxL ret :: nx_T)) ∧ (y.cls ≠ "java/lang/invoke/MethodHandle" ∧ y.cls ≠ "java/lang/invoke/VarHandle" ∧ (parseMethodDescriptor y.desc).map (fun d => d.parameters.length) = some n)
theorem nx_mkS (h1 : Cond.methodLink own index y ∈ nx_T) (h2 : Cond.static y ∈ nx_T) (h4 : Cond.initialized y.cls ∈ nx_T) (h5 : Cond.code y cy maxL ret ∈ nx_T) (hd : y.cls ≠ "java/lang/invoke/MethodHandle" ∧ y.cls ≠ "java/lang/invoke/VarHandle" ∧ (parseMethodDescriptor y.desc).map (fun d => d.parameters.length) = some n) : nx_wS own index y cy maxL ret n := by
  refine ⟨nx_good (fun w hw => ?_), hd⟩
  rcases List.mem_append.mp hw with h | h
  · simp only [List.mem_cons, List.not_mem_nil, or_false] at h
    rcases h with rfl | rfl | rfl <;> assumption
  · rcases List.mem_cons.mp h with rfl | h
    · exact h5
    · exact h
theorem nx_runS (X : nx_C E A p s m c cc nL own args) (hS : va_S A s.heap H locs) (hP : va_P E.1 vwCl ws H) (hM : Met l y (.code y cy maxL ret :: nx_T) rm (va_Pc As (nx_P E A1 H.size ws)) Qc 0 0 A1) (hA : ∀ q, A1 q → A q) (hw : nx_wS own index y cy maxL ret n) (hrm : rm.cells = 0 ∧ rm.slots = 0) (hR : rm.frames + 1 ≤ R.frames ∧ 8 + (maxL + 11) + rm.locals ≤ R.locals) (hn : As.length = n) (hst : st0 = As.reverse ++ rest) (hsz : ls.size = nL) (hrest : (rest.map fun v => v.category).sum ≤ 8) (hdg : decode cc pc = .ok (.invokestatic index, 3)) : va_Run p l e R s m args below meth c H locs 0 0 0 0 (F0 m pc ls st0) rest (Qc As.toArray) A1 :=
  va_runS X.1 hM (va_cwS n X.1.2.2.2.2 hw.1 rfl hrm.1 hrm.2 hw.2 hR) ⟨nx_blind, nx_pre X hS hP hA⟩ rfl hn hsz hst (lv_room hrest) hdg ⟨Nat.zero_le _, Nat.zero_le _⟩
abbrev nx_wN (own : String) (index : Nat) (y : MethodName) (cy : ByteArray) (maxL : Nat) (ret : Option FieldType) (n : Nat) : Prop := (own, index, y) ∈ nx_L ∧ Cond.static y ∈ nx_T ∧ Cond.initialized y.cls ∈ nx_T ∧ Cond.code y cy maxL ret ∈ nx_T ∧ (y.cls ≠ "java/lang/invoke/MethodHandle" ∧ y.cls ≠ "java/lang/invoke/VarHandle" ∧ (parseMethodDescriptor y.desc).map (fun d => d.parameters.length) = some n)
theorem nx_self (h5 : Cond.code y cy maxL ret ∈ nx_T) : GoodIn nx_T (.code y cy maxL ret :: nx_T) := nx_good (fun w hw => (List.mem_cons.mp hw).elim (fun h => by rw [h]; exact h5) id)
theorem nx_runN (X : nx_C E A p s m c cc nL own args) (hS : va_S A s.heap H locs) (hP : va_P E.1 vwCl ws H) (hM : Met l y (.code y cy maxL ret :: nx_T) rm (va_Pc As (nx_P E A1 H.size ws)) Qc 0 0 A1) (hA : ∀ q, A1 q → A q) (hw : nx_wN own index y cy maxL ret n) (hrm : rm.cells = 0 ∧ rm.slots = 0) (hR : rm.frames + 1 ≤ R.frames ∧ 8 + (maxL + 11) + rm.locals ≤ R.locals) (hn : As.length = n) (hst : st0 = As.reverse ++ rest) (hsz : ls.size = nL) (hrest : (rest.map fun v => v.category).sum ≤ 8) (hdg : decode cc pc = .ok (.invokestatic index, 3)) : va_Run p l e R s m args below meth c H locs 0 0 0 0 (F0 m pc ls st0) rest (Qc As.toArray) A1 :=
  va_runSN X.1 hM ⟨va_cnB n X.1.2.2.2.2 (nx_self hw.2.2.2.1) rfl hrm.1 hrm.2 (X.2.2.2.1 (own, index, y) hw.1) (X.1.2.2.2.2 _ hw.2.2.1) hw.2.2.2.2 hR, X.1.2.2.2.2 _ hw.2.1, trivial⟩ ⟨nx_blind, nx_pre X hS hP hA⟩ rfl hn hsz hst (lv_room hrest) hdg ⟨Nat.zero_le _, Nat.zero_le _⟩
abbrev nx_wU (own : String) (index : Nat) (C : String) (y : MethodName) (cy : ByteArray) (maxL : Nat) (ret : Option FieldType) (n : Nat) : Prop := GoodIn nx_T (va_wsU own index C "RollingThings$Mover" nx_after y (.code y cy maxL ret :: nx_T)) ∧ ("RollingThings$Mover" ≠ "java/lang/invoke/MethodHandle" ∧ "RollingThings$Mover" ≠ "java/lang/invoke/VarHandle" ∧ (parseMethodDescriptor nx_after.desc).map (fun d => d.parameters.length) = some n)
theorem nx_runU (X : nx_C E A p s m c cc nL own args) (hS : va_S A s.heap H locs) (hP : va_P E.1 vwCl ws H) (hM : Met l y (.code y cy maxL ret :: nx_T) rm (va_Pc (.ref b :: As) (nx_P E A1 H.size ws)) Qc 0 0 A1) (hA : ∀ q, A1 q → A q) (hw : nx_wU own index C y cy maxL ret n) (hrm : rm.cells = 0 ∧ rm.slots = 0) (hR : rm.frames + 1 ≤ R.frames ∧ 8 + (maxL + 11) + rm.locals ≤ R.locals) (q0 : Nat) {ci : Nat} {fs : List Value} {T : u_T} {N : Nat} (he : ws[q0]? = some (b, .inr (ci, fs))) (hc : vwCl[ci]? = some (C, T, N)) (hn : As.length = n) (hst : st0 = As.reverse ++ .ref b :: rest) (hsz : ls.size = nL) (hrest : (rest.map fun v => v.category).sum ≤ 8) (hdg : decode cc pc = .ok (.invokevirtual index, 3)) : va_Run p l e R s m args below meth c H locs 0 0 0 0 (F0 m pc ls st0) rest (Qc (Value.ref b :: As).toArray) A1 :=
  va_runU X.1 hM (va_cwA n X.1.2.2.2.2 hw.1 rfl hrm.1 hrm.2 X.2.2.2.2 hw.2 hR) ⟨nx_blind, va_recv X.2.1 hP hc he, nx_pre X hS hP hA⟩ rfl hn hsz hst (lv_room hrest) hdg ⟨Nat.zero_le _, Nat.zero_le _⟩
variable {av : Array Value}
theorem nx_ki {r0 : Int32} (hr : va_Run p l e R s m args below meth c H locs 0 0 0 0 (F0 m pc ls st0) rest (va_Qi (fun v (_ : Unit) => v = r0) (fun _ t => va_P E.1 vwCl ws t.heap) A1 av) A1) (hS : va_S A s.heap H locs) (hA : ∀ q, A1 q → A q) (kk : ∀ (H1 : Heap) (locs1 : List Loc), va_P E.1 vwCl ws H1 → va_S A s.heap H1 locs1 → W p l e R s m args below meth c H1 locs1 0 0 Q (F0 m (pc + 3) ls (.int r0 :: rest))) : W p l e R s m args below meth c H locs 0 0 Q (F0 m pc ls st0) :=
  va_calli hr hS (fun q _ h => hA q h) hA (fun r u t H1 locs1 ht hvm hp hB hz hk hS1 => by subst hp; rw [ht] at hB; exact kk H1 locs1 hB hS1)
theorem nx_kl {r0 : Int64} (hr : va_Run p l e R s m args below meth c H locs 0 0 0 0 (F0 m pc ls st0) rest (va_Ql (fun v (_ : Unit) => v = r0) (fun _ t => va_P E.1 vwCl ws t.heap) A1 av) A1) (hS : va_S A s.heap H locs) (hA : ∀ q, A1 q → A q) (kk : ∀ (H1 : Heap) (locs1 : List Loc), va_P E.1 vwCl ws H1 → va_S A s.heap H1 locs1 → W p l e R s m args below meth c H1 locs1 0 0 Q (F0 m (pc + 3) ls (.long r0 :: rest))) : W p l e R s m args below meth c H locs 0 0 Q (F0 m pc ls st0) :=
  va_calll hr hS (fun q _ h => hA q h) hA (fun r u t H1 locs1 ht hvm hp hB hz hk hS1 => by subst hp; rw [ht] at hB; exact kk H1 locs1 hB hS1)
theorem nx_kwi {S : Type} {wf : S → va_W} {r0 : Int32} {k0 : S} (hr : va_Run p l e R s m args below meth c H locs 0 0 0 0 (F0 m pc ls st0) rest (va_Qi (fun v u => (v, u) = (r0, k0)) (fun u t => va_P E.1 vwCl (wf u) t.heap) A1 av) A1) (hS : va_S A s.heap H locs) (hA : ∀ q, A1 q → A q) (kk : ∀ (H1 : Heap) (locs1 : List Loc), va_P E.1 vwCl (wf k0) H1 → va_S A s.heap H1 locs1 → W p l e R s m args below meth c H1 locs1 0 0 Q (F0 m (pc + 3) ls (.int r0 :: rest))) : W p l e R s m args below meth c H locs 0 0 Q (F0 m pc ls st0) :=
  va_calli hr hS (fun q _ h => hA q h) hA (fun r u t H1 locs1 ht hvm hp hB hz hk hS1 => by obtain ⟨rfl, rfl⟩ := Prod.mk.inj hp; rw [ht] at hB; exact kk H1 locs1 hB hS1)
theorem nx_kwl {S : Type} {wf : S → va_W} {r0 : Int64} {k0 : S} (hr : va_Run p l e R s m args below meth c H locs 0 0 0 0 (F0 m pc ls st0) rest (va_Ql (fun v u => (v, u) = (r0, k0)) (fun u t => va_P E.1 vwCl (wf u) t.heap) A1 av) A1) (hS : va_S A s.heap H locs) (hA : ∀ q, A1 q → A q) (kk : ∀ (H1 : Heap) (locs1 : List Loc), va_P E.1 vwCl (wf k0) H1 → va_S A s.heap H1 locs1 → W p l e R s m args below meth c H1 locs1 0 0 Q (F0 m (pc + 3) ls (.long r0 :: rest))) : W p l e R s m args below meth c H locs 0 0 Q (F0 m pc ls st0) :=
  va_calll hr hS (fun q _ h => hA q h) hA (fun r u t H1 locs1 ht hvm hp hB hz hk hS1 => by obtain ⟨rfl, rfl⟩ := Prod.mk.inj hp; rw [ht] at hB; exact kk H1 locs1 hB hS1)
theorem nx_kv {S : Type} {wf : S → va_W} {k0 : S} (hr : va_Run p l e R s m args below meth c H locs 0 0 0 0 (F0 m pc ls st0) rest (va_Qv (fun u => u = k0) (fun u t => va_P E.1 vwCl (wf u) t.heap) A1 av) A1) (hS : va_S A s.heap H locs) (hA : ∀ q, A1 q → A q) (kk : ∀ (H1 : Heap) (locs1 : List Loc), va_P E.1 vwCl (wf k0) H1 → va_S A s.heap H1 locs1 → W p l e R s m args below meth c H1 locs1 0 0 Q (F0 m (pc + 3) ls rest)) : W p l e R s m args below meth c H locs 0 0 Q (F0 m pc ls st0) :=
  va_callv hr hS (fun q _ h => hA q h) hA (fun u t H1 locs1 ht hvm hp hB hz hk hS1 => by subst hp; rw [ht] at hB; exact kk H1 locs1 hB hS1)
/-- fields and rows of a world -/
theorem nx_gf (X : nx_C E A p s m c cc nL own args) (hP : va_P E.1 vwCl ws H) {ci N : Nat} {T : u_T} (hin : ∀ w ∈ u_ws C T N, w ∈ nx_T) (hc : vwCl[ci]? = some (C, T, N)) (q0 : Nat) {fs : List Value} (he : ws[q0]? = some (b, .inr (ci, fs))) (k : Nat) (hk : k < N) (hl : Cond.fieldLink own index (T k).1 (T k).2.1 (T k).2.2.1 ∈ nx_T) {v : Value} (hv : fs[k]? = some v) (hdg : decode cc pc = .ok (.getfield index, 3)) (kk : W p l e R s m args below meth c H locs 0 0 Q (F0 m (pc + 3) ls (v :: rest))) : W p l e R s m args below meth c H locs 0 0 Q (F0 m pc ls (.ref b :: rest)) :=
  va_get X.1.1 X.1.2.1 X.1.2.2.2.2 hin X.1.2.2.2.1 X.2.1 hP q0 he hc k hk (X.1.2.2.2.2 _ hl) (fun _ h => h) hv hdg kk
theorem nx_pf {a : Nat → Nat} {na sz : Nat} (X : nx_C E (nx_A a na sz) p s m c cc nL own args) (hI : nx_inj a na) (had : nx_ad a na ws) (hP : va_P E.1 vwCl ws H) (hS : va_S (nx_A a na sz) s.heap H locs) {ci N : Nat} {T : u_T} (hin : ∀ w ∈ u_ws C T N, w ∈ nx_T) (ty0 : Nat → FieldType) (hty : ∀ k, k < N → parseFieldDescriptor (T k).2.2.1 = some (ty0 k)) (hnm : ∀ a, a < N → ∀ b, b < N → a ≠ b → (T a).2.1 ≠ (T b).2.1) (hc : vwCl[ci]? = some (C, T, N)) (q0 : Nat) {fs : List Value} (he : ws[q0]? = some (b, .inr (ci, fs))) (k : Nat) (hk : k < N) (hl : Cond.fieldLink own index (T k).1 (T k).2.1 (T k).2.2.1 ∈ nx_T) (hfin : (T k).2.2.2 = false) {v : Value} {ty : FieldType} (hd : parseFieldDescriptor (T k).2.2.1 = some ty) (hn : narrow ty v = v) (hfit : fits ty v = true) (hlen : k < fs.length) (hdg : decode cc pc = .ok (.putfield index, 3)) (kk : ∀ (H1 : Heap) (locs1 : List Loc), va_P E.1 vwCl (ws.set q0 (b, .inr (ci, fs.set k v))) H1 → va_S (nx_A a na sz) s.heap H1 locs1 → W p l e R s m args below meth c H1 locs1 0 0 Q (F0 m (pc + 3) ls rest)) : W p l e R s m args below meth c H locs 0 0 Q (F0 m pc ls (v :: .ref b :: rest)) :=
  va_put X.1.1 X.1.2.1 X.1.2.2.2.2 hin ty0 hty hnm X.1.2.2.2.1 X.2.1 hP (nx_D hI had) hS q0 he hc k hk (X.1.2.2.2.2 _ hl) (fun _ h => h) hfin hd hn hfit hlen hdg (fun H1 locs1 hP _ hS => kk H1 locs1 hP hS)
theorem nx_ld (X : nx_C E A p s m c cc nL own args) (hP : va_P E.1 vwCl ws H) (q0 : Nat) {nn : Nat} {f : Nat → Int32} (he : ws[q0]? = some (b, .inl (E.2.1, nn, .inl f))) {i : Int32} (hin : vp_in i nn) (hdg : decode cc pc = .ok (.iaload, 1)) (kk : W p l e R s m args below meth c H locs 0 0 Q (F0 m (pc + 1) ls (.int (f i.toNatClampNeg) :: rest))) : W p l e R s m args below meth c H locs 0 0 Q (F0 m pc ls (.int i :: .ref b :: rest)) :=
  va_iald X.1.1 X.1.2.1 X.2.1 hP q0 0 he rfl hin hdg kk
theorem nx_ldl (X : nx_C E A p s m c cc nL own args) (hP : va_P E.1 vwCl ws H) (q0 : Nat) {nn : Nat} {f : Nat → Int64} (he : ws[q0]? = some (b, .inl (E.2.2.1, nn, .inr (.inl f)))) {i : Int32} (hin : vp_in i nn) (hdg : decode cc pc = .ok (.laload, 1)) (kk : W p l e R s m args below meth c H locs 0 0 Q (F0 m (pc + 1) ls (.long (f i.toNatClampNeg) :: rest))) : W p l e R s m args below meth c H locs 0 0 Q (F0 m pc ls (.int i :: .ref b :: rest)) :=
  va_lald X.1.1 X.1.2.1 X.2.1 hP q0 1 he rfl hin hdg kk
theorem nx_st {a : Nat → Nat} {na sz : Nat} (X : nx_C E (nx_A a na sz) p s m c cc nL own args) (hI : nx_inj a na) (had : nx_ad a na ws) (hP : va_P E.1 vwCl ws H) (hS : va_S (nx_A a na sz) s.heap H locs) (q0 : Nat) {nn : Nat} {f : Nat → Int32} (he : ws[q0]? = some (b, .inl (E.2.1, nn, .inl f))) {i x : Int32} (hin : vp_in i nn) (hdg : decode cc pc = .ok (.iastore, 1)) (kk : ∀ (H1 : Heap) (locs1 : List Loc), va_P E.1 vwCl (ws.set q0 (b, .inl (E.2.1, nn, .inl (upd f i.toNatClampNeg x)))) H1 → va_S (nx_A a na sz) s.heap H1 locs1 → W p l e R s m args below meth c H1 locs1 0 0 Q (F0 m (pc + 1) ls rest)) : W p l e R s m args below meth c H locs 0 0 Q (F0 m pc ls (.int x :: .int i :: .ref b :: rest)) :=
  va_iast X.1.1 X.1.2.1 X.2.1 hP (nx_D hI had) hS q0 0 he rfl hin hdg (fun H1 locs1 hP _ hS => kk H1 locs1 hP hS)
theorem nx_stl {a : Nat → Nat} {na sz : Nat} (X : nx_C E (nx_A a na sz) p s m c cc nL own args) (hI : nx_inj a na) (had : nx_ad a na ws) (hP : va_P E.1 vwCl ws H) (hS : va_S (nx_A a na sz) s.heap H locs) (q0 : Nat) {nn : Nat} {f : Nat → Int64} (he : ws[q0]? = some (b, .inl (E.2.2.1, nn, .inr (.inl f)))) {i : Int32} {x : Int64} (hin : vp_in i nn) (hdg : decode cc pc = .ok (.lastore, 1)) (kk : ∀ (H1 : Heap) (locs1 : List Loc), va_P E.1 vwCl (ws.set q0 (b, .inl (E.2.2.1, nn, .inr (.inl (vp_updL f i.toNatClampNeg x))))) H1 → va_S (nx_A a na sz) s.heap H1 locs1 → W p l e R s m args below meth c H1 locs1 0 0 Q (F0 m (pc + 1) ls rest)) : W p l e R s m args below meth c H locs 0 0 Q (F0 m pc ls (.long x :: .int i :: .ref b :: rest)) :=
  va_last X.1.1 X.1.2.1 X.2.1 hP (nx_D hI had) hS q0 1 he rfl hin hdg (fun H1 locs1 hP _ hS => kk H1 locs1 hP hS)
theorem nx_al (X : nx_C E A p s m c cc nL own args) (hP : va_P E.1 vwCl ws H) (q0 : Nat) {x : vp_A} (he : ws[q0]? = some (b, .inl (E.2.1, x))) {v : Int32} (hv : Int32.ofNat x.1 = v) (hdg : decode cc pc = .ok (.arraylength, 1)) (kk : W p l e R s m args below meth c H locs 0 0 Q (F0 m (pc + 1) ls (.int v :: rest))) : W p l e R s m args below meth c H locs 0 0 Q (F0 m pc ls (.ref b :: rest)) :=
  va_alen X.1.1 X.1.2.1 X.2.1 hP q0 0 he rfl hv hdg kk
end NXA
section NXE
variable {l : Launch} {y : MethodName} {cc : ByteArray} {maxL : Nat} {rm : Room} {As : List Value} {ws : va_W} {A : Nat → Prop} {E : nx_E} {sz : Nat}
theorem nx_ent {ret : Option FieldType} {Qc : Array Value → State → Outcome → State → Prop} (hy : plainName y.cls = true) (hlen : (lg_sl As).length ≤ maxL) (body : ∀ (p : Program) (e : Env) (s : State) (m : MethodId) (below : List Frame) (meth : Method) (c : Code), nx_C E A p s m c cc maxL y.cls As.toArray → meth.sig.returnType = ret → meth.locks = false → s.heap.size = sz → va_P E.1 vwCl ws s.heap → ∀ ls : Array Slot, lv_has ls maxL (lv_args 0 As) → W p l e rm s m As.toArray below meth c s.heap [] 0 0 (MQ below Qc As.toArray s 0 0 A) (F0 m 0 ls [])) : Met l y (.code y cc maxL ret :: nx_T) rm (va_Pc As (nx_P E A sz ws)) Qc 0 0 A := by
  refine Met.ofW (cc := cc) (maxL := maxL) (ret := ret) hy rfl ?_
  intro p e s m args below meth c s₁ B hml hv
  obtain ⟨rfl, hsz, hP, hK, hSt, hNz⟩ := hv
  have hts := atoms_spec (ws := .code y cc maxL ret :: nx_T) B.pre
  have hown : s.vm.findClass y.cls = some m.cls := findClass_of_methodNamed B.named
  rw [lg_entry_eq]
  exact body p e s m below meth c ⟨⟨B.exec, B.bytes, hml, hown, fun w hw => hts w (List.mem_cons_of_mem _ hw)⟩, hK, hSt, hNz⟩ B.returns B.notSynchronized hsz hP _ (lv_entry As hlen)
/-- a method that answers an int -/
theorem nx_enI {S : Type} (post : Int32 → S → Prop) (wf : S → va_W) (hy : plainName y.cls = true) (hlen : (lg_sl As).length ≤ maxL) (body : ∀ (p : Program) (e : Env) (s : State) (m : MethodId) (below : List Frame) (meth : Method) (c : Code) (Q : State → Prop), nx_C E A p s m c cc maxL y.cls As.toArray → (∀ (pc : Nat) (ls : Array Slot) (v : Int32) (u : S) (H : Heap) (locs : List Loc), decode cc pc = .ok (.ireturn, 1) → post v u → va_P E.1 vwCl (wf u) H → va_S A s.heap H locs → W p l e rm s m As.toArray below meth c H locs 0 0 Q (F0 m pc ls [.int v])) → s.heap.size = sz → va_P E.1 vwCl ws s.heap → ∀ ls : Array Slot, lv_has ls maxL (lv_args 0 As) → W p l e rm s m As.toArray below meth c s.heap [] 0 0 Q (F0 m 0 ls [])) : Met l y (.code y cc maxL (some .int) :: nx_T) rm (va_Pc As (nx_P E A sz ws)) (va_Qi post (fun u t => va_P E.1 vwCl (wf u) t.heap) A) 0 0 A :=
  nx_ent hy hlen (fun p e s m below meth c X hr hlk hsz hP ls hl => body p e s m below meth c _ X (fun pc ls v u H locs hd hp hP hS => W.iret X.1.1 X.1.2.1 hr (fun t ht hW => ⟨⟨v, u, rfl, hp, by show va_P _ _ _ t.heap; rw [ht]; exact hP⟩, hS.F ht⟩) hS.2.2 hd hlk) hsz hP ls hl)
theorem nx_nb {v : Int32} (h : v = 0 ∨ v = 1) : narrow .boolean (.int v) = .int v := by rcases h with rfl | rfl <;> rfl
theorem nx_fb {v : Int32} (h : v = 0 ∨ v = 1) : fits .boolean (.int v) = true := by rcases h with rfl | rfl <;> rfl
/-- a method that answers a boolean -/
theorem nx_enZ {S : Type} (post : Int32 → S → Prop) (wf : S → va_W) (hy : plainName y.cls = true) (hlen : (lg_sl As).length ≤ maxL) (body : ∀ (p : Program) (e : Env) (s : State) (m : MethodId) (below : List Frame) (meth : Method) (c : Code) (Q : State → Prop), nx_C E A p s m c cc maxL y.cls As.toArray → (∀ (pc : Nat) (ls : Array Slot) (v : Int32) (u : S) (H : Heap) (locs : List Loc), decode cc pc = .ok (.ireturn, 1) → (v = 0 ∨ v = 1) → post v u → va_P E.1 vwCl (wf u) H → va_S A s.heap H locs → W p l e rm s m As.toArray below meth c H locs 0 0 Q (F0 m pc ls [.int v])) → s.heap.size = sz → va_P E.1 vwCl ws s.heap → ∀ ls : Array Slot, lv_has ls maxL (lv_args 0 As) → W p l e rm s m As.toArray below meth c s.heap [] 0 0 Q (F0 m 0 ls [])) : Met l y (.code y cc maxL (some .boolean) :: nx_T) rm (va_Pc As (nx_P E A sz ws)) (va_Qi post (fun u t => va_P E.1 vwCl (wf u) t.heap) A) 0 0 A :=
  nx_ent hy hlen (fun p e s m below meth c X hr hlk hsz hP ls hl => body p e s m below meth c _ X (fun pc ls v u H locs hd hz hp hP hS => W.zret X.1.1 X.1.2.1 hr (nx_nb hz) (fun t ht hW => ⟨⟨v, u, rfl, hp, by show va_P _ _ _ t.heap; rw [ht]; exact hP⟩, hS.F ht⟩) hS.2.2 hd hlk) hsz hP ls hl)
theorem nx_enJ {S : Type} (post : Int64 → S → Prop) (wf : S → va_W) (hy : plainName y.cls = true) (hlen : (lg_sl As).length ≤ maxL) (body : ∀ (p : Program) (e : Env) (s : State) (m : MethodId) (below : List Frame) (meth : Method) (c : Code) (Q : State → Prop), nx_C E A p s m c cc maxL y.cls As.toArray → (∀ (pc : Nat) (ls : Array Slot) (v : Int64) (u : S) (H : Heap) (locs : List Loc), decode cc pc = .ok (.lreturn, 1) → post v u → va_P E.1 vwCl (wf u) H → va_S A s.heap H locs → W p l e rm s m As.toArray below meth c H locs 0 0 Q (F0 m pc ls [.long v])) → s.heap.size = sz → va_P E.1 vwCl ws s.heap → ∀ ls : Array Slot, lv_has ls maxL (lv_args 0 As) → W p l e rm s m As.toArray below meth c s.heap [] 0 0 Q (F0 m 0 ls [])) : Met l y (.code y cc maxL (some .long) :: nx_T) rm (va_Pc As (nx_P E A sz ws)) (va_Ql post (fun u t => va_P E.1 vwCl (wf u) t.heap) A) 0 0 A :=
  nx_ent hy hlen (fun p e s m below meth c X hr hlk hsz hP ls hl => body p e s m below meth c _ X (fun pc ls v u H locs hd hp hP hS => W.lret X.1.1 X.1.2.1 hr (fun t ht hW => ⟨⟨v, u, rfl, hp, by show va_P _ _ _ t.heap; rw [ht]; exact hP⟩, hS.F ht⟩) hS.2.2 hd hlk) hsz hP ls hl)
theorem nx_enV {S : Type} (post : S → Prop) (wf : S → va_W) (hy : plainName y.cls = true) (hlen : (lg_sl As).length ≤ maxL) (body : ∀ (p : Program) (e : Env) (s : State) (m : MethodId) (below : List Frame) (meth : Method) (c : Code) (Q : State → Prop), nx_C E A p s m c cc maxL y.cls As.toArray → (∀ (pc : Nat) (ls : Array Slot) (u : S) (H : Heap) (locs : List Loc), decode cc pc = .ok (.return_, 1) → post u → va_P E.1 vwCl (wf u) H → va_S A s.heap H locs → W p l e rm s m As.toArray below meth c H locs 0 0 Q (F0 m pc ls [])) → s.heap.size = sz → va_P E.1 vwCl ws s.heap → ∀ ls : Array Slot, lv_has ls maxL (lv_args 0 As) → W p l e rm s m As.toArray below meth c s.heap [] 0 0 Q (F0 m 0 ls [])) : Met l y (.code y cc maxL none :: nx_T) rm (va_Pc As (nx_P E A sz ws)) (va_Qv post (fun u t => va_P E.1 vwCl (wf u) t.heap) A) 0 0 A :=
  nx_ent hy hlen (fun p e s m below meth c X hr hlk hsz hP ls hl => body p e s m below meth c _ X (fun pc ls u H locs hd hp hP hS => W.vret X.1.1 X.1.2.1 hr (fun t ht hW => ⟨⟨u, rfl, hp, by show va_P _ _ _ t.heap; rw [ht]; exact hP⟩, hS.F ht⟩) hS.2.2 hd hlk) hsz hP ls hl)
end NXE
def nx_rm (f n : Nat) : Room := { frames := f, cells := 0, slots := 0, locals := n }
-- what the pure texts of the methods are made of
def nx_rd {α : Type} (f : Nat → α) (n : Nat) (i : Int32) : Option α := if i < 0 ∨ n ≤ i.toNatClampNeg then none else some (f i.toNatClampNeg)
def nx_ck (n : Nat) (i : Int32) : Option Unit := if i < 0 ∨ n ≤ i.toNatClampNeg then none else some ()
def nx_b (v : Int32) : Option Int32 := if v = 0 ∨ v = 1 then some v else none
def nx_lp {α β : Type} (b : (α → Option β) → α → Option β) : Nat → α → Option β
  | 0, _ => none
  | n + 1, x => b (nx_lp b n) x
theorem nx_bd {α β : Type} {x : Option α} {g : α → Option β} {o : β} (h : x.bind g = some o) : ∃ y, x = some y ∧ g y = some o := by
  cases x with
  | none => cases h
  | some y => exact ⟨y, rfl, h⟩
theorem nx_rb {α β : Type} {f : Nat → α} {n : Nat} {i : Int32} {g : α → Option β} {o : β} (h : (nx_rd f n i).bind g = some o) : vp_in i n ∧ g (f i.toNatClampNeg) = some o := by
  unfold nx_rd at h
  by_cases c : i < 0 ∨ n ≤ i.toNatClampNeg
  · rw [if_pos c] at h; cases h
  · rw [if_neg c] at h; exact ⟨c, h⟩
theorem nx_cb {β : Type} {n : Nat} {i : Int32} {g : Unit → Option β} {o : β} (h : (nx_ck n i).bind g = some o) : vp_in i n ∧ g () = some o := by
  unfold nx_ck at h
  by_cases c : i < 0 ∨ n ≤ i.toNatClampNeg
  · rw [if_pos c] at h; cases h
  · rw [if_neg c] at h; exact ⟨c, h⟩
theorem nx_bb {β : Type} {v : Int32} {g : Int32 → Option β} {o : β} (h : (nx_b v).bind g = some o) : (v = 0 ∨ v = 1) ∧ g v = some o := by
  unfold nx_b at h
  by_cases c : v = 0 ∨ v = 1
  · rw [if_pos c] at h; exact ⟨c, h⟩
  · rw [if_neg c] at h; cases h
theorem nx_it {α : Sort _} {c : Prop} [Decidable c] {x y o : α} (h : (if c then x else y) = o) (hc : c) : x = o := by rw [if_pos hc] at h; exact h
theorem nx_if {α : Sort _} {c : Prop} [Decidable c] {x y o : α} (h : (if c then x else y) = o) (hc : ¬ c) : y = o := by rw [if_neg hc] at h; exact h
theorem nx_nz {α : Type} {v : Int32} {x : Option α} {o : α} (h : (if v = 0 then none else x) = some o) : ¬ v = 0 ∧ x = some o := by
  by_cases c : v = 0
  · rw [if_pos c] at h; cases h
  · rw [if_neg c] at h; exact ⟨c, h⟩
theorem nx_sw3 {x : Int32} (h0 : ¬ x = 0) (h1 : ¬ x = 1) (h2 : ¬ x = 2) : x.toInt < 0 ∨ 2 < x.toInt := by
  have a0 := lv_neT (a := 0) h0 rfl
  have a1 := lv_neT (a := 1) h1 rfl
  have a2 := lv_neT (a := 2) h2 rfl
  omega
theorem nx_sw6 {x : Int32} (h0 : ¬ x = 0) (h1 : ¬ x = 1) (h2 : ¬ x = 2) (h3 : ¬ x = 3) (h4 : ¬ x = 4) (h5 : ¬ x = 5) : x.toInt < 0 ∨ 5 < x.toInt := by
  have a0 := lv_neT (a := 0) h0 rfl
  have a1 := lv_neT (a := 1) h1 rfl
  have a2 := lv_neT (a := 2) h2 rfl
  have a3 := lv_neT (a := 3) h3 rfl
  have a4 := lv_neT (a := 4) h4 rfl
  have a5 := lv_neT (a := 5) h5 rfl
  omega
end
