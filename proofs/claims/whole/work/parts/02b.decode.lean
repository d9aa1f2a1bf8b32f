theorem dX0_init_0 : decode cX0_init 0 = .ok (.aload_n 0, 1) := by decide +kernel
theorem dX0_init_1 : decode cX0_init 1 = .ok (.invokespecial 3, 3) := by decide +kernel
theorem dX0_init_4 : decode cX0_init 4 = .ok (.aload_n 0, 1) := by decide +kernel
theorem dX0_init_5 : decode cX0_init 5 = .ok (.aload_n 1, 1) := by decide +kernel
theorem dX0_init_6 : decode cX0_init 6 = .ok (.putfield 9, 3) := by decide +kernel
theorem dX0_init_9 : decode cX0_init 9 = .ok (.aload_n 0, 1) := by decide +kernel
theorem dX0_init_10 : decode cX0_init 10 = .ok (.iload_n 2, 1) := by decide +kernel
theorem dX0_init_11 : decode cX0_init 11 = .ok (.putfield 15, 3) := by decide +kernel
theorem dX0_init_14 : decode cX0_init 14 = .ok (.return_, 1) := by decide +kernel
theorem dX0_at_0 : decode cX0_at 0 = .ok (.bipush 8, 2) := by decide +kernel
theorem dX0_at_2 : decode cX0_at 2 = .ok (.iload_n 0, 1) := by decide +kernel
theorem dX0_at_3 : decode cX0_at 3 = .ok (.imul, 1) := by decide +kernel
theorem dX0_at_4 : decode cX0_at 4 = .ok (.iload_n 1, 1) := by decide +kernel
theorem dX0_at_5 : decode cX0_at 5 = .ok (.iadd, 1) := by decide +kernel
theorem dX0_at_6 : decode cX0_at 6 = .ok (.ireturn, 1) := by decide +kernel
theorem dX0_placeOf_0 : decode cX0_placeOf 0 = .ok (.iload_n 0, 1) := by decide +kernel
theorem dX0_placeOf_1 : decode cX0_placeOf 1 = .ok (.bipush 8, 2) := by decide +kernel
theorem dX0_placeOf_3 : decode cX0_placeOf 3 = .ok (.idiv, 1) := by decide +kernel
theorem dX0_placeOf_4 : decode cX0_placeOf 4 = .ok (.ireturn, 1) := by decide +kernel
theorem dX0_groupsOf_0 : decode cX0_groupsOf 0 = .ok (.iload_n 0, 1) := by decide +kernel
theorem dX0_groupsOf_1 : decode cX0_groupsOf 1 = .ok (.bipush 8, 2) := by decide +kernel
theorem dX0_groupsOf_3 : decode cX0_groupsOf 3 = .ok (.irem, 1) := by decide +kernel
theorem dX0_groupsOf_4 : decode cX0_groupsOf 4 = .ok (.ireturn, 1) := by decide +kernel
theorem dX0_standingOn_0 : decode cX0_standingOn 0 = .ok (.iconst 3, 1) := by decide +kernel
theorem dX0_standingOn_1 : decode cX0_standingOn 1 = .ok (.iload_n 0, 1) := by decide +kernel
theorem dX0_standingOn_2 : decode cX0_standingOn 2 = .ok (.imul, 1) := by decide +kernel
theorem dX0_standingOn_3 : decode cX0_standingOn 3 = .ok (.ireturn, 1) := by decide +kernel
theorem dX0_lyingFrom_0 : decode cX0_lyingFrom 0 = .ok (.iload_n 0, 1) := by decide +kernel
theorem dX0_lyingFrom_1 : decode cX0_lyingFrom 1 = .ok (.iconst (-1), 1) := by decide +kernel
theorem dX0_lyingFrom_2 : decode cX0_lyingFrom 2 = .ok (.if_icmp .ne 7, 3) := by decide +kernel
theorem dX0_lyingFrom_5 : decode cX0_lyingFrom 5 = .ok (.iconst (-1), 1) := by decide +kernel
theorem dX0_lyingFrom_6 : decode cX0_lyingFrom 6 = .ok (.goto 8, 3) := by decide +kernel
theorem dX0_lyingFrom_9 : decode cX0_lyingFrom 9 = .ok (.iconst 3, 1) := by decide +kernel
theorem dX0_lyingFrom_10 : decode cX0_lyingFrom 10 = .ok (.iload_n 0, 1) := by decide +kernel
theorem dX0_lyingFrom_11 : decode cX0_lyingFrom 11 = .ok (.imul, 1) := by decide +kernel
theorem dX0_lyingFrom_12 : decode cX0_lyingFrom 12 = .ok (.iload_n 1, 1) := by decide +kernel
theorem dX0_lyingFrom_13 : decode cX0_lyingFrom 13 = .ok (.iadd, 1) := by decide +kernel
theorem dX0_lyingFrom_14 : decode cX0_lyingFrom 14 = .ok (.ireturn, 1) := by decide +kernel
theorem dX0_isSound_0 : decode cX0_isSound 0 = .ok (.iload_n 1, 1) := by decide +kernel
theorem dX0_isSound_1 : decode cX0_isSound 1 = .ok (.ifCond .ge 5, 3) := by decide +kernel
theorem dX0_isSound_4 : decode cX0_isSound 4 = .ok (.iconst 0, 1) := by decide +kernel
theorem dX0_isSound_5 : decode cX0_isSound 5 = .ok (.ireturn, 1) := by decide +kernel
theorem dX0_isSound_6 : decode cX0_isSound 6 = .ok (.iload_n 1, 1) := by decide +kernel
theorem dX0_isSound_7 : decode cX0_isSound 7 = .ok (.iconst 3, 1) := by decide +kernel
theorem dX0_isSound_8 : decode cX0_isSound 8 = .ok (.idiv, 1) := by decide +kernel
theorem dX0_isSound_9 : decode cX0_isSound 9 = .ok (.istore_n 3, 1) := by decide +kernel
theorem dX0_isSound_10 : decode cX0_isSound 10 = .ok (.iload_n 1, 1) := by decide +kernel
theorem dX0_isSound_11 : decode cX0_isSound 11 = .ok (.iconst 3, 1) := by decide +kernel
theorem dX0_isSound_12 : decode cX0_isSound 12 = .ok (.irem, 1) := by decide +kernel
theorem dX0_isSound_13 : decode cX0_isSound 13 = .ok (.istore 4, 2) := by decide +kernel
theorem dX0_isSound_15 : decode cX0_isSound 15 = .ok (.aload_n 0, 1) := by decide +kernel
theorem dX0_isSound_16 : decode cX0_isSound 16 = .ok (.getfield 9, 3) := by decide +kernel
theorem dX0_isSound_19 : decode cX0_isSound 19 = .ok (.iload_n 3, 1) := by decide +kernel
theorem dX0_isSound_20 : decode cX0_isSound 20 = .ok (.iload_n 2, 1) := by decide +kernel
theorem dX0_isSound_21 : decode cX0_isSound 21 = .ok (.invokevirtual 19, 3) := by decide +kernel
theorem dX0_isSound_24 : decode cX0_isSound 24 = .ok (.ifCond .ne 5, 3) := by decide +kernel
theorem dX0_isSound_27 : decode cX0_isSound 27 = .ok (.iconst 0, 1) := by decide +kernel
theorem dX0_isSound_28 : decode cX0_isSound 28 = .ok (.ireturn, 1) := by decide +kernel
theorem dX0_isSound_29 : decode cX0_isSound 29 = .ok (.iload 4, 2) := by decide +kernel
theorem dX0_isSound_31 : decode cX0_isSound 31 = .ok (.ifCond .ne 21, 3) := by decide +kernel
theorem dX0_isSound_34 : decode cX0_isSound 34 = .ok (.aload_n 0, 1) := by decide +kernel
theorem dX0_isSound_35 : decode cX0_isSound 35 = .ok (.getfield 9, 3) := by decide +kernel
theorem dX0_isSound_38 : decode cX0_isSound 38 = .ok (.iload_n 3, 1) := by decide +kernel
theorem dX0_isSound_39 : decode cX0_isSound 39 = .ok (.invokevirtual 25, 3) := by decide +kernel
theorem dX0_isSound_42 : decode cX0_isSound 42 = .ok (.iconst 2, 1) := by decide +kernel
theorem dX0_isSound_43 : decode cX0_isSound 43 = .ok (.if_icmp .eq 7, 3) := by decide +kernel
theorem dX0_isSound_46 : decode cX0_isSound 46 = .ok (.iconst 1, 1) := by decide +kernel
theorem dX0_isSound_47 : decode cX0_isSound 47 = .ok (.goto 4, 3) := by decide +kernel
theorem dX0_isSound_50 : decode cX0_isSound 50 = .ok (.iconst 0, 1) := by decide +kernel
theorem dX0_isSound_51 : decode cX0_isSound 51 = .ok (.ireturn, 1) := by decide +kernel
theorem dX0_isSound_52 : decode cX0_isSound 52 = .ok (.aload_n 0, 1) := by decide +kernel
theorem dX0_isSound_53 : decode cX0_isSound 53 = .ok (.getfield 9, 3) := by decide +kernel
theorem dX0_isSound_56 : decode cX0_isSound 56 = .ok (.aload_n 0, 1) := by decide +kernel
theorem dX0_isSound_57 : decode cX0_isSound 57 = .ok (.getfield 9, 3) := by decide +kernel
theorem dX0_isSound_60 : decode cX0_isSound 60 = .ok (.iload_n 3, 1) := by decide +kernel
theorem dX0_isSound_61 : decode cX0_isSound 61 = .ok (.iload 4, 2) := by decide +kernel
theorem dX0_isSound_63 : decode cX0_isSound 63 = .ok (.iconst 1, 1) := by decide +kernel
theorem dX0_isSound_64 : decode cX0_isSound 64 = .ok (.isub, 1) := by decide +kernel
theorem dX0_isSound_65 : decode cX0_isSound 65 = .ok (.invokevirtual 29, 3) := by decide +kernel
theorem dX0_isSound_68 : decode cX0_isSound 68 = .ok (.iload_n 2, 1) := by decide +kernel
theorem dX0_isSound_69 : decode cX0_isSound 69 = .ok (.invokevirtual 19, 3) := by decide +kernel
theorem dX0_isSound_72 : decode cX0_isSound 72 = .ok (.ireturn, 1) := by decide +kernel
theorem dX0_turnedAt_0 : decode cX0_turnedAt 0 = .ok (.aload_n 0, 1) := by decide +kernel
theorem dX0_turnedAt_1 : decode cX0_turnedAt 1 = .ok (.getfield 9, 3) := by decide +kernel
theorem dX0_turnedAt_4 : decode cX0_turnedAt 4 = .ok (.iload_n 1, 1) := by decide +kernel
theorem dX0_turnedAt_5 : decode cX0_turnedAt 5 = .ok (.iconst 3, 1) := by decide +kernel
theorem dX0_turnedAt_6 : decode cX0_turnedAt 6 = .ok (.idiv, 1) := by decide +kernel
theorem dX0_turnedAt_7 : decode cX0_turnedAt 7 = .ok (.invokevirtual 25, 3) := by decide +kernel
theorem dX0_turnedAt_10 : decode cX0_turnedAt 10 = .ok (.istore_n 2, 1) := by decide +kernel
theorem dX0_turnedAt_11 : decode cX0_turnedAt 11 = .ok (.iload_n 1, 1) := by decide +kernel
theorem dX0_turnedAt_12 : decode cX0_turnedAt 12 = .ok (.iconst 3, 1) := by decide +kernel
theorem dX0_turnedAt_13 : decode cX0_turnedAt 13 = .ok (.irem, 1) := by decide +kernel
theorem dX0_turnedAt_14 : decode cX0_turnedAt 14 = .ok (.ifCond .ne 18, 3) := by decide +kernel
theorem dX0_turnedAt_17 : decode cX0_turnedAt 17 = .ok (.iload_n 2, 1) := by decide +kernel
theorem dX0_turnedAt_18 : decode cX0_turnedAt 18 = .ok (.iconst 3, 1) := by decide +kernel
theorem dX0_turnedAt_19 : decode cX0_turnedAt 19 = .ok (.if_icmp .lt 13, 3) := by decide +kernel
theorem dX0_turnedAt_22 : decode cX0_turnedAt 22 = .ok (.iload_n 2, 1) := by decide +kernel
theorem dX0_turnedAt_23 : decode cX0_turnedAt 23 = .ok (.bipush 6, 2) := by decide +kernel
theorem dX0_turnedAt_25 : decode cX0_turnedAt 25 = .ok (.if_icmp .ge 7, 3) := by decide +kernel
theorem dX0_turnedAt_28 : decode cX0_turnedAt 28 = .ok (.iconst 1, 1) := by decide +kernel
theorem dX0_turnedAt_29 : decode cX0_turnedAt 29 = .ok (.goto 4, 3) := by decide +kernel
theorem dX0_turnedAt_32 : decode cX0_turnedAt 32 = .ok (.iconst 0, 1) := by decide +kernel
theorem dX0_turnedAt_33 : decode cX0_turnedAt 33 = .ok (.istore_n 3, 1) := by decide +kernel
theorem dX0_turnedAt_34 : decode cX0_turnedAt 34 = .ok (.iload_n 3, 1) := by decide +kernel
theorem dX0_turnedAt_35 : decode cX0_turnedAt 35 = .ok (.ifCond .eq 11, 3) := by decide +kernel
theorem dX0_turnedAt_38 : decode cX0_turnedAt 38 = .ok (.iconst 1, 1) := by decide +kernel
theorem dX0_turnedAt_39 : decode cX0_turnedAt 39 = .ok (.iload_n 2, 1) := by decide +kernel
theorem dX0_turnedAt_40 : decode cX0_turnedAt 40 = .ok (.iconst 3, 1) := by decide +kernel
theorem dX0_turnedAt_41 : decode cX0_turnedAt 41 = .ok (.isub, 1) := by decide +kernel
theorem dX0_turnedAt_42 : decode cX0_turnedAt 42 = .ok (.ishl, 1) := by decide +kernel
theorem dX0_turnedAt_43 : decode cX0_turnedAt 43 = .ok (.goto 4, 3) := by decide +kernel
theorem dX0_turnedAt_46 : decode cX0_turnedAt 46 = .ok (.iconst 0, 1) := by decide +kernel
theorem dX0_turnedAt_47 : decode cX0_turnedAt 47 = .ok (.ireturn, 1) := by decide +kernel
theorem dX0_tipped_0 : decode cX0_tipped 0 = .ok (.iload_n 1, 1) := by decide +kernel
theorem dX0_tipped_1 : decode cX0_tipped 1 = .ok (.iconst 3, 1) := by decide +kernel
theorem dX0_tipped_2 : decode cX0_tipped 2 = .ok (.idiv, 1) := by decide +kernel
theorem dX0_tipped_3 : decode cX0_tipped 3 = .ok (.istore_n 3, 1) := by decide +kernel
theorem dX0_tipped_4 : decode cX0_tipped 4 = .ok (.iload_n 1, 1) := by decide +kernel
theorem dX0_tipped_5 : decode cX0_tipped 5 = .ok (.iconst 3, 1) := by decide +kernel
theorem dX0_tipped_6 : decode cX0_tipped 6 = .ok (.irem, 1) := by decide +kernel
theorem dX0_tipped_7 : decode cX0_tipped 7 = .ok (.istore 4, 2) := by decide +kernel
theorem dX0_tipped_9 : decode cX0_tipped 9 = .ok (.iload_n 2, 1) := by decide +kernel
theorem dX0_tipped_10 : decode cX0_tipped 10 = .ok (.iconst 2, 1) := by decide +kernel
theorem dX0_tipped_11 : decode cX0_tipped 11 = .ok (.irem, 1) := by decide +kernel
theorem dX0_tipped_12 : decode cX0_tipped 12 = .ok (.iconst 1, 1) := by decide +kernel
theorem dX0_tipped_13 : decode cX0_tipped 13 = .ok (.iadd, 1) := by decide +kernel
theorem dX0_tipped_14 : decode cX0_tipped 14 = .ok (.istore 5, 2) := by decide +kernel
theorem dX0_tipped_16 : decode cX0_tipped 16 = .ok (.iload_n 2, 1) := by decide +kernel
theorem dX0_tipped_17 : decode cX0_tipped 17 = .ok (.iconst 2, 1) := by decide +kernel
theorem dX0_tipped_18 : decode cX0_tipped 18 = .ok (.if_icmp .ge 7, 3) := by decide +kernel
theorem dX0_tipped_21 : decode cX0_tipped 21 = .ok (.iconst 1, 1) := by decide +kernel
theorem dX0_tipped_22 : decode cX0_tipped 22 = .ok (.goto 4, 3) := by decide +kernel
theorem dX0_tipped_25 : decode cX0_tipped 25 = .ok (.iconst 0, 1) := by decide +kernel
theorem dX0_tipped_26 : decode cX0_tipped 26 = .ok (.istore 6, 2) := by decide +kernel
theorem dX0_tipped_28 : decode cX0_tipped 28 = .ok (.iload 4, 2) := by decide +kernel
theorem dX0_tipped_30 : decode cX0_tipped 30 = .ok (.ifCond .ne 54, 3) := by decide +kernel
theorem dX0_tipped_33 : decode cX0_tipped 33 = .ok (.aload_n 0, 1) := by decide +kernel
theorem dX0_tipped_34 : decode cX0_tipped 34 = .ok (.getfield 9, 3) := by decide +kernel
theorem dX0_tipped_37 : decode cX0_tipped 37 = .ok (.iload_n 3, 1) := by decide +kernel
theorem dX0_tipped_38 : decode cX0_tipped 38 = .ok (.iload_n 2, 1) := by decide +kernel
theorem dX0_tipped_39 : decode cX0_tipped 39 = .ok (.invokevirtual 29, 3) := by decide +kernel
theorem dX0_tipped_42 : decode cX0_tipped 42 = .ok (.istore 7, 2) := by decide +kernel
theorem dX0_tipped_44 : decode cX0_tipped 44 = .ok (.aload_n 0, 1) := by decide +kernel
theorem dX0_tipped_45 : decode cX0_tipped 45 = .ok (.getfield 9, 3) := by decide +kernel
theorem dX0_tipped_48 : decode cX0_tipped 48 = .ok (.iload 7, 2) := by decide +kernel
theorem dX0_tipped_50 : decode cX0_tipped 50 = .ok (.iload_n 2, 1) := by decide +kernel
theorem dX0_tipped_51 : decode cX0_tipped 51 = .ok (.invokevirtual 29, 3) := by decide +kernel
theorem dX0_tipped_54 : decode cX0_tipped 54 = .ok (.istore 8, 2) := by decide +kernel
theorem dX0_tipped_56 : decode cX0_tipped 56 = .ok (.iload 8, 2) := by decide +kernel
theorem dX0_tipped_58 : decode cX0_tipped 58 = .ok (.iconst (-1), 1) := by decide +kernel
theorem dX0_tipped_59 : decode cX0_tipped 59 = .ok (.if_icmp .ne 7, 3) := by decide +kernel
theorem dX0_tipped_62 : decode cX0_tipped 62 = .ok (.iconst (-1), 1) := by decide +kernel
theorem dX0_tipped_63 : decode cX0_tipped 63 = .ok (.goto 20, 3) := by decide +kernel
theorem dX0_tipped_66 : decode cX0_tipped 66 = .ok (.iload 6, 2) := by decide +kernel
theorem dX0_tipped_68 : decode cX0_tipped 68 = .ok (.ifCond .eq 8, 3) := by decide +kernel
theorem dX0_tipped_71 : decode cX0_tipped 71 = .ok (.iload 7, 2) := by decide +kernel
theorem dX0_tipped_73 : decode cX0_tipped 73 = .ok (.goto 5, 3) := by decide +kernel
theorem dX0_tipped_76 : decode cX0_tipped 76 = .ok (.iload 8, 2) := by decide +kernel
theorem dX0_tipped_78 : decode cX0_tipped 78 = .ok (.iload 5, 2) := by decide +kernel
theorem dX0_tipped_80 : decode cX0_tipped 80 = .ok (.invokestatic 33, 3) := by decide +kernel
theorem dX0_tipped_83 : decode cX0_tipped 83 = .ok (.ireturn, 1) := by decide +kernel
theorem dX0_tipped_84 : decode cX0_tipped 84 = .ok (.iload 4, 2) := by decide +kernel
theorem dX0_tipped_86 : decode cX0_tipped 86 = .ok (.iload 5, 2) := by decide +kernel
theorem dX0_tipped_88 : decode cX0_tipped 88 = .ok (.if_icmp .eq 18, 3) := by decide +kernel
theorem dX0_tipped_91 : decode cX0_tipped 91 = .ok (.aload_n 0, 1) := by decide +kernel
theorem dX0_tipped_92 : decode cX0_tipped 92 = .ok (.getfield 9, 3) := by decide +kernel
theorem dX0_tipped_95 : decode cX0_tipped 95 = .ok (.iload_n 3, 1) := by decide +kernel
theorem dX0_tipped_96 : decode cX0_tipped 96 = .ok (.iload_n 2, 1) := by decide +kernel
theorem dX0_tipped_97 : decode cX0_tipped 97 = .ok (.invokevirtual 29, 3) := by decide +kernel
theorem dX0_tipped_100 : decode cX0_tipped 100 = .ok (.iload 4, 2) := by decide +kernel
theorem dX0_tipped_102 : decode cX0_tipped 102 = .ok (.invokestatic 33, 3) := by decide +kernel
theorem dX0_tipped_105 : decode cX0_tipped 105 = .ok (.ireturn, 1) := by decide +kernel
theorem dX0_tipped_106 : decode cX0_tipped 106 = .ok (.iload 6, 2) := by decide +kernel
theorem dX0_tipped_108 : decode cX0_tipped 108 = .ok (.ifCond .eq 15, 3) := by decide +kernel
theorem dX0_tipped_111 : decode cX0_tipped 111 = .ok (.aload_n 0, 1) := by decide +kernel
theorem dX0_tipped_112 : decode cX0_tipped 112 = .ok (.getfield 9, 3) := by decide +kernel
theorem dX0_tipped_115 : decode cX0_tipped 115 = .ok (.iload_n 3, 1) := by decide +kernel
theorem dX0_tipped_116 : decode cX0_tipped 116 = .ok (.iload_n 2, 1) := by decide +kernel
theorem dX0_tipped_117 : decode cX0_tipped 117 = .ok (.invokevirtual 29, 3) := by decide +kernel
theorem dX0_tipped_120 : decode cX0_tipped 120 = .ok (.goto 4, 3) := by decide +kernel
theorem dX0_tipped_123 : decode cX0_tipped 123 = .ok (.iload_n 3, 1) := by decide +kernel
theorem dX0_tipped_124 : decode cX0_tipped 124 = .ok (.istore 7, 2) := by decide +kernel
theorem dX0_tipped_126 : decode cX0_tipped 126 = .ok (.aload_n 0, 1) := by decide +kernel
theorem dX0_tipped_127 : decode cX0_tipped 127 = .ok (.getfield 9, 3) := by decide +kernel
theorem dX0_tipped_130 : decode cX0_tipped 130 = .ok (.iload 7, 2) := by decide +kernel
theorem dX0_tipped_132 : decode cX0_tipped 132 = .ok (.iload_n 2, 1) := by decide +kernel
theorem dX0_tipped_133 : decode cX0_tipped 133 = .ok (.invokevirtual 29, 3) := by decide +kernel
theorem dX0_tipped_136 : decode cX0_tipped 136 = .ok (.iconst 0, 1) := by decide +kernel
theorem dX0_tipped_137 : decode cX0_tipped 137 = .ok (.invokestatic 33, 3) := by decide +kernel
theorem dX0_tipped_140 : decode cX0_tipped 140 = .ok (.ireturn, 1) := by decide +kernel
theorem dX0_after_0 : decode cX0_after 0 = .ok (.iload_n 1, 1) := by decide +kernel
theorem dX0_after_1 : decode cX0_after 1 = .ok (.invokestatic 36, 3) := by decide +kernel
theorem dX0_after_4 : decode cX0_after 4 = .ok (.istore_n 3, 1) := by decide +kernel
theorem dX0_after_5 : decode cX0_after 5 = .ok (.iload_n 1, 1) := by decide +kernel
theorem dX0_after_6 : decode cX0_after 6 = .ok (.invokestatic 39, 3) := by decide +kernel
theorem dX0_after_9 : decode cX0_after 9 = .ok (.istore 4, 2) := by decide +kernel
theorem dX0_after_11 : decode cX0_after 11 = .ok (.aload_n 0, 1) := by decide +kernel
theorem dX0_after_12 : decode cX0_after 12 = .ok (.iload_n 3, 1) := by decide +kernel
theorem dX0_after_13 : decode cX0_after 13 = .ok (.iload_n 2, 1) := by decide +kernel
theorem dX0_after_14 : decode cX0_after 14 = .ok (.invokevirtual 42, 3) := by decide +kernel
theorem dX0_after_17 : decode cX0_after 17 = .ok (.istore 5, 2) := by decide +kernel
theorem dX0_after_19 : decode cX0_after 19 = .ok (.aload_n 0, 1) := by decide +kernel
theorem dX0_after_20 : decode cX0_after 20 = .ok (.getfield 15, 3) := by decide +kernel
theorem dX0_after_23 : decode cX0_after 23 = .ok (.ifCond .eq 36, 3) := by decide +kernel
theorem dX0_after_26 : decode cX0_after 26 = .ok (.iload 4, 2) := by decide +kernel
theorem dX0_after_28 : decode cX0_after 28 = .ok (.aload_n 0, 1) := by decide +kernel
theorem dX0_after_29 : decode cX0_after 29 = .ok (.iload_n 3, 1) := by decide +kernel
theorem dX0_after_30 : decode cX0_after 30 = .ok (.invokevirtual 45, 3) := by decide +kernel
theorem dX0_after_33 : decode cX0_after 33 = .ok (.ixor, 1) := by decide +kernel
theorem dX0_after_34 : decode cX0_after 34 = .ok (.istore 6, 2) := by decide +kernel
theorem dX0_after_36 : decode cX0_after 36 = .ok (.aload_n 0, 1) := by decide +kernel
theorem dX0_after_37 : decode cX0_after 37 = .ok (.iload 5, 2) := by decide +kernel
theorem dX0_after_39 : decode cX0_after 39 = .ok (.iload 6, 2) := by decide +kernel
theorem dX0_after_41 : decode cX0_after 41 = .ok (.invokevirtual 48, 3) := by decide +kernel
theorem dX0_after_44 : decode cX0_after 44 = .ok (.ifCond .eq 13, 3) := by decide +kernel
theorem dX0_after_47 : decode cX0_after 47 = .ok (.iload 5, 2) := by decide +kernel
theorem dX0_after_49 : decode cX0_after 49 = .ok (.iload 6, 2) := by decide +kernel
theorem dX0_after_51 : decode cX0_after 51 = .ok (.invokestatic 51, 3) := by decide +kernel
theorem dX0_after_54 : decode cX0_after 54 = .ok (.goto 4, 3) := by decide +kernel
theorem dX0_after_57 : decode cX0_after 57 = .ok (.iconst (-1), 1) := by decide +kernel
theorem dX0_after_58 : decode cX0_after 58 = .ok (.ireturn, 1) := by decide +kernel
theorem dX0_after_59 : decode cX0_after 59 = .ok (.aload_n 0, 1) := by decide +kernel
theorem dX0_after_60 : decode cX0_after 60 = .ok (.iload 5, 2) := by decide +kernel
theorem dX0_after_62 : decode cX0_after 62 = .ok (.iload 4, 2) := by decide +kernel
theorem dX0_after_64 : decode cX0_after 64 = .ok (.invokevirtual 48, 3) := by decide +kernel
theorem dX0_after_67 : decode cX0_after 67 = .ok (.ifCond .eq 20, 3) := by decide +kernel
theorem dX0_after_70 : decode cX0_after 70 = .ok (.iload 5, 2) := by decide +kernel
theorem dX0_after_72 : decode cX0_after 72 = .ok (.iload 4, 2) := by decide +kernel
theorem dX0_after_74 : decode cX0_after 74 = .ok (.aload_n 0, 1) := by decide +kernel
theorem dX0_after_75 : decode cX0_after 75 = .ok (.iload 5, 2) := by decide +kernel
theorem dX0_after_77 : decode cX0_after 77 = .ok (.invokevirtual 45, 3) := by decide +kernel
theorem dX0_after_80 : decode cX0_after 80 = .ok (.ixor, 1) := by decide +kernel
theorem dX0_after_81 : decode cX0_after 81 = .ok (.invokestatic 51, 3) := by decide +kernel
theorem dX0_after_84 : decode cX0_after 84 = .ok (.goto 4, 3) := by decide +kernel
theorem dX0_after_87 : decode cX0_after 87 = .ok (.iconst (-1), 1) := by decide +kernel
theorem dX0_after_88 : decode cX0_after 88 = .ok (.ireturn, 1) := by decide +kernel
theorem dX1_init_0 : decode cX1_init 0 = .ok (.aload_n 0, 1) := by decide +kernel
theorem dX1_init_1 : decode cX1_init 1 = .ok (.invokespecial 3, 3) := by decide +kernel
theorem dX1_init_4 : decode cX1_init 4 = .ok (.aload_n 0, 1) := by decide +kernel
theorem dX1_init_5 : decode cX1_init 5 = .ok (.aload_n 1, 1) := by decide +kernel
theorem dX1_init_6 : decode cX1_init 6 = .ok (.putfield 9, 3) := by decide +kernel
theorem dX1_init_9 : decode cX1_init 9 = .ok (.aload_n 0, 1) := by decide +kernel
theorem dX1_init_10 : decode cX1_init 10 = .ok (.aload_n 2, 1) := by decide +kernel
theorem dX1_init_11 : decode cX1_init 11 = .ok (.putfield 15, 3) := by decide +kernel
theorem dX1_init_14 : decode cX1_init 14 = .ok (.aload_n 0, 1) := by decide +kernel
theorem dX1_init_15 : decode cX1_init 15 = .ok (.new 19, 3) := by decide +kernel
theorem dX1_init_18 : decode cX1_init 18 = .ok (.dup, 1) := by decide +kernel
theorem dX1_init_19 : decode cX1_init 19 = .ok (.aload_n 1, 1) := by decide +kernel
theorem dX1_init_20 : decode cX1_init 20 = .ok (.iconst 0, 1) := by decide +kernel
theorem dX1_init_21 : decode cX1_init 21 = .ok (.invokespecial 21, 3) := by decide +kernel
theorem dX1_init_24 : decode cX1_init 24 = .ok (.putfield 24, 3) := by decide +kernel
theorem dX1_init_27 : decode cX1_init 27 = .ok (.aload_n 0, 1) := by decide +kernel
theorem dX1_init_28 : decode cX1_init 28 = .ok (.new 19, 3) := by decide +kernel
theorem dX1_init_31 : decode cX1_init 31 = .ok (.dup, 1) := by decide +kernel
theorem dX1_init_32 : decode cX1_init 32 = .ok (.aload_n 1, 1) := by decide +kernel
theorem dX1_init_33 : decode cX1_init 33 = .ok (.iconst 1, 1) := by decide +kernel
theorem dX1_init_34 : decode cX1_init 34 = .ok (.invokespecial 21, 3) := by decide +kernel
theorem dX1_init_37 : decode cX1_init 37 = .ok (.putfield 28, 3) := by decide +kernel
theorem dX1_init_40 : decode cX1_init 40 = .ok (.return_, 1) := by decide +kernel
theorem dX1_isSoundNow_0 : decode cX1_isSoundNow 0 = .ok (.aload_n 0, 1) := by decide +kernel
theorem dX1_isSoundNow_1 : decode cX1_isSoundNow 1 = .ok (.getfield 24, 3) := by decide +kernel
theorem dX1_isSoundNow_4 : decode cX1_isSoundNow 4 = .ok (.iload_n 1, 1) := by decide +kernel
theorem dX1_isSoundNow_5 : decode cX1_isSoundNow 5 = .ok (.aload_n 0, 1) := by decide +kernel
theorem dX1_isSoundNow_6 : decode cX1_isSoundNow 6 = .ok (.getfield 9, 3) := by decide +kernel
theorem dX1_isSoundNow_9 : decode cX1_isSoundNow 9 = .ok (.invokevirtual 31, 3) := by decide +kernel
theorem dX1_isSoundNow_12 : decode cX1_isSoundNow 12 = .ok (.invokevirtual 37, 3) := by decide +kernel
theorem dX1_isSoundNow_15 : decode cX1_isSoundNow 15 = .ok (.ireturn, 1) := by decide +kernel
theorem dX1_soundPlaces_0 : decode cX1_soundPlaces 0 = .ok (.iconst 0, 1) := by decide +kernel
theorem dX1_soundPlaces_1 : decode cX1_soundPlaces 1 = .ok (.istore_n 1, 1) := by decide +kernel
theorem dX1_soundPlaces_2 : decode cX1_soundPlaces 2 = .ok (.iconst 0, 1) := by decide +kernel
theorem dX1_soundPlaces_3 : decode cX1_soundPlaces 3 = .ok (.istore_n 2, 1) := by decide +kernel
theorem dX1_soundPlaces_4 : decode cX1_soundPlaces 4 = .ok (.iload_n 2, 1) := by decide +kernel
theorem dX1_soundPlaces_5 : decode cX1_soundPlaces 5 = .ok (.aload_n 0, 1) := by decide +kernel
theorem dX1_soundPlaces_6 : decode cX1_soundPlaces 6 = .ok (.invokevirtual 41, 3) := by decide +kernel
theorem dX1_soundPlaces_9 : decode cX1_soundPlaces 9 = .ok (.if_icmp .ge 20, 3) := by decide +kernel
theorem dX1_soundPlaces_12 : decode cX1_soundPlaces 12 = .ok (.iload_n 1, 1) := by decide +kernel
theorem dX1_soundPlaces_13 : decode cX1_soundPlaces 13 = .ok (.aload_n 0, 1) := by decide +kernel
theorem dX1_soundPlaces_14 : decode cX1_soundPlaces 14 = .ok (.iload_n 2, 1) := by decide +kernel
theorem dX1_soundPlaces_15 : decode cX1_soundPlaces 15 = .ok (.invokevirtual 44, 3) := by decide +kernel
theorem dX1_soundPlaces_18 : decode cX1_soundPlaces 18 = .ok (.invokestatic 48, 3) := by decide +kernel
theorem dX1_soundPlaces_21 : decode cX1_soundPlaces 21 = .ok (.iadd, 1) := by decide +kernel
theorem dX1_soundPlaces_22 : decode cX1_soundPlaces 22 = .ok (.istore_n 1, 1) := by decide +kernel
theorem dX1_soundPlaces_23 : decode cX1_soundPlaces 23 = .ok (.iinc 2 1, 3) := by decide +kernel
theorem dX1_soundPlaces_26 : decode cX1_soundPlaces 26 = .ok (.goto (-22), 3) := by decide +kernel
theorem dX1_soundPlaces_29 : decode cX1_soundPlaces 29 = .ok (.iload_n 1, 1) := by decide +kernel
theorem dX1_soundPlaces_30 : decode cX1_soundPlaces 30 = .ok (.ireturn, 1) := by decide +kernel
theorem dX1_placeAfter_0 : decode cX1_placeAfter 0 = .ok (.aload_n 0, 1) := by decide +kernel
theorem dX1_placeAfter_1 : decode cX1_placeAfter 1 = .ok (.iload_n 1, 1) := by decide +kernel
theorem dX1_placeAfter_2 : decode cX1_placeAfter 2 = .ok (.invokevirtual 44, 3) := by decide +kernel
theorem dX1_placeAfter_5 : decode cX1_placeAfter 5 = .ok (.ifCond .ne 6, 3) := by decide +kernel
theorem dX1_placeAfter_8 : decode cX1_placeAfter 8 = .ok (.bipush (-9), 2) := by decide +kernel
theorem dX1_placeAfter_10 : decode cX1_placeAfter 10 = .ok (.ireturn, 1) := by decide +kernel
theorem dX1_placeAfter_11 : decode cX1_placeAfter 11 = .ok (.aload_n 0, 1) := by decide +kernel
theorem dX1_placeAfter_12 : decode cX1_placeAfter 12 = .ok (.getfield 24, 3) := by decide +kernel
theorem dX1_placeAfter_15 : decode cX1_placeAfter 15 = .ok (.iload_n 1, 1) := by decide +kernel
theorem dX1_placeAfter_16 : decode cX1_placeAfter 16 = .ok (.aload_n 0, 1) := by decide +kernel
theorem dX1_placeAfter_17 : decode cX1_placeAfter 17 = .ok (.getfield 9, 3) := by decide +kernel
theorem dX1_placeAfter_20 : decode cX1_placeAfter 20 = .ok (.invokevirtual 31, 3) := by decide +kernel
theorem dX1_placeAfter_23 : decode cX1_placeAfter 23 = .ok (.invokestatic 52, 3) := by decide +kernel
theorem dX1_placeAfter_26 : decode cX1_placeAfter 26 = .ok (.iload_n 2, 1) := by decide +kernel
theorem dX1_placeAfter_27 : decode cX1_placeAfter 27 = .ok (.invokevirtual 56, 3) := by decide +kernel
theorem dX1_placeAfter_30 : decode cX1_placeAfter 30 = .ok (.istore_n 3, 1) := by decide +kernel
theorem dX1_placeAfter_31 : decode cX1_placeAfter 31 = .ok (.iload_n 3, 1) := by decide +kernel
theorem dX1_placeAfter_32 : decode cX1_placeAfter 32 = .ok (.iconst (-1), 1) := by decide +kernel
theorem dX1_placeAfter_33 : decode cX1_placeAfter 33 = .ok (.if_icmp .ne 8, 3) := by decide +kernel
theorem dX1_placeAfter_36 : decode cX1_placeAfter 36 = .ok (.bipush (-9), 2) := by decide +kernel
theorem dX1_placeAfter_38 : decode cX1_placeAfter 38 = .ok (.goto 7, 3) := by decide +kernel
theorem dX1_placeAfter_41 : decode cX1_placeAfter 41 = .ok (.iload_n 3, 1) := by decide +kernel
theorem dX1_placeAfter_42 : decode cX1_placeAfter 42 = .ok (.invokestatic 59, 3) := by decide +kernel
theorem dX1_placeAfter_45 : decode cX1_placeAfter 45 = .ok (.ireturn, 1) := by decide +kernel
theorem dX1_length_0 : decode cX1_length 0 = .ok (.aload_n 0, 1) := by decide +kernel
theorem dX1_length_1 : decode cX1_length 1 = .ok (.getfield 15, 3) := by decide +kernel
theorem dX1_length_4 : decode cX1_length 4 = .ok (.aload_n 0, 1) := by decide +kernel
theorem dX1_length_5 : decode cX1_length 5 = .ok (.iload_n 1, 1) := by decide +kernel
theorem dX1_length_6 : decode cX1_length 6 = .ok (.iload_n 2, 1) := by decide +kernel
theorem dX1_length_7 : decode cX1_length 7 = .ok (.invokevirtual 63, 3) := by decide +kernel
theorem dX1_length_10 : decode cX1_length 10 = .ok (.invokevirtual 66, 3) := by decide +kernel
theorem dX1_length_13 : decode cX1_length 13 = .ok (.invokestatic 71, 3) := by decide +kernel
theorem dX1_length_16 : decode cX1_length 16 = .ok (.ireturn, 1) := by decide +kernel
theorem dX1_stepAt_0 : decode cX1_stepAt 0 = .ok (.aload_n 0, 1) := by decide +kernel
theorem dX1_stepAt_1 : decode cX1_stepAt 1 = .ok (.getfield 15, 3) := by decide +kernel
theorem dX1_stepAt_4 : decode cX1_stepAt 4 = .ok (.aload_n 0, 1) := by decide +kernel
theorem dX1_stepAt_5 : decode cX1_stepAt 5 = .ok (.iload_n 1, 1) := by decide +kernel
theorem dX1_stepAt_6 : decode cX1_stepAt 6 = .ok (.iload_n 2, 1) := by decide +kernel
theorem dX1_stepAt_7 : decode cX1_stepAt 7 = .ok (.invokevirtual 63, 3) := by decide +kernel
theorem dX1_stepAt_10 : decode cX1_stepAt 10 = .ok (.iload_n 3, 1) := by decide +kernel
theorem dX1_stepAt_11 : decode cX1_stepAt 11 = .ok (.invokevirtual 74, 3) := by decide +kernel
theorem dX1_stepAt_14 : decode cX1_stepAt 14 = .ok (.ireturn, 1) := by decide +kernel
theorem dX1_groupsAtEnd_0 : decode cX1_groupsAtEnd 0 = .ok (.aload_n 0, 1) := by decide +kernel
theorem dX1_groupsAtEnd_1 : decode cX1_groupsAtEnd 1 = .ok (.iload_n 1, 1) := by decide +kernel
theorem dX1_groupsAtEnd_2 : decode cX1_groupsAtEnd 2 = .ok (.iload_n 2, 1) := by decide +kernel
theorem dX1_groupsAtEnd_3 : decode cX1_groupsAtEnd 3 = .ok (.invokevirtual 63, 3) := by decide +kernel
theorem dX1_groupsAtEnd_6 : decode cX1_groupsAtEnd 6 = .ok (.istore_n 3, 1) := by decide +kernel
theorem dX1_groupsAtEnd_7 : decode cX1_groupsAtEnd 7 = .ok (.iload_n 3, 1) := by decide +kernel
theorem dX1_groupsAtEnd_8 : decode cX1_groupsAtEnd 8 = .ok (.iconst (-1), 1) := by decide +kernel
theorem dX1_groupsAtEnd_9 : decode cX1_groupsAtEnd 9 = .ok (.if_icmp .ne 8, 3) := by decide +kernel
theorem dX1_groupsAtEnd_12 : decode cX1_groupsAtEnd 12 = .ok (.bipush (-9), 2) := by decide +kernel
theorem dX1_groupsAtEnd_14 : decode cX1_groupsAtEnd 14 = .ok (.goto 7, 3) := by decide +kernel
theorem dX1_groupsAtEnd_17 : decode cX1_groupsAtEnd 17 = .ok (.iload_n 3, 1) := by decide +kernel
theorem dX1_groupsAtEnd_18 : decode cX1_groupsAtEnd 18 = .ok (.invokestatic 77, 3) := by decide +kernel
theorem dX1_groupsAtEnd_21 : decode cX1_groupsAtEnd 21 = .ok (.ireturn, 1) := by decide +kernel
theorem dX1_needs_0 : decode cX1_needs 0 = .ok (.aload_n 0, 1) := by decide +kernel
theorem dX1_needs_1 : decode cX1_needs 1 = .ok (.iload_n 1, 1) := by decide +kernel
theorem dX1_needs_2 : decode cX1_needs 2 = .ok (.iload_n 2, 1) := by decide +kernel
theorem dX1_needs_3 : decode cX1_needs 3 = .ok (.invokevirtual 63, 3) := by decide +kernel
theorem dX1_needs_6 : decode cX1_needs 6 = .ok (.iconst (-1), 1) := by decide +kernel
theorem dX1_needs_7 : decode cX1_needs 7 = .ok (.if_icmp .ne 5, 3) := by decide +kernel
theorem dX1_needs_10 : decode cX1_needs 10 = .ok (.iconst 0, 1) := by decide +kernel
theorem dX1_needs_11 : decode cX1_needs 11 = .ok (.ireturn, 1) := by decide +kernel
theorem dX1_needs_12 : decode cX1_needs 12 = .ok (.aload_n 0, 1) := by decide +kernel
theorem dX1_needs_13 : decode cX1_needs 13 = .ok (.getfield 9, 3) := by decide +kernel
theorem dX1_needs_16 : decode cX1_needs 16 = .ok (.iload_n 3, 1) := by decide +kernel
theorem dX1_needs_17 : decode cX1_needs 17 = .ok (.iconst 1, 1) := by decide +kernel
theorem dX1_needs_18 : decode cX1_needs 18 = .ok (.invokevirtual 80, 3) := by decide +kernel
theorem dX1_needs_21 : decode cX1_needs 21 = .ok (.istore 4, 2) := by decide +kernel
theorem dX1_needs_23 : decode cX1_needs 23 = .ok (.aload_n 0, 1) := by decide +kernel
theorem dX1_needs_24 : decode cX1_needs 24 = .ok (.iload_n 1, 1) := by decide +kernel
theorem dX1_needs_25 : decode cX1_needs 25 = .ok (.iload_n 2, 1) := by decide +kernel
theorem dX1_needs_26 : decode cX1_needs 26 = .ok (.invokevirtual 63, 3) := by decide +kernel
theorem dX1_needs_29 : decode cX1_needs 29 = .ok (.iconst (-1), 1) := by decide +kernel
theorem dX1_needs_30 : decode cX1_needs 30 = .ok (.if_icmp .ne 7, 3) := by decide +kernel
theorem dX1_needs_33 : decode cX1_needs 33 = .ok (.iconst 1, 1) := by decide +kernel
theorem dX1_needs_34 : decode cX1_needs 34 = .ok (.goto 4, 3) := by decide +kernel
theorem dX1_needs_37 : decode cX1_needs 37 = .ok (.iconst 0, 1) := by decide +kernel
theorem dX1_needs_38 : decode cX1_needs 38 = .ok (.istore 5, 2) := by decide +kernel
theorem dX1_needs_40 : decode cX1_needs 40 = .ok (.aload_n 0, 1) := by decide +kernel
theorem dX1_needs_41 : decode cX1_needs 41 = .ok (.getfield 9, 3) := by decide +kernel
theorem dX1_needs_44 : decode cX1_needs 44 = .ok (.iload_n 3, 1) := by decide +kernel
theorem dX1_needs_45 : decode cX1_needs 45 = .ok (.iload 4, 2) := by decide +kernel
theorem dX1_needs_47 : decode cX1_needs 47 = .ok (.invokevirtual 80, 3) := by decide +kernel
theorem dX1_needs_50 : decode cX1_needs 50 = .ok (.pop, 1) := by decide +kernel
theorem dX1_needs_51 : decode cX1_needs 51 = .ok (.iload 5, 2) := by decide +kernel
theorem dX1_needs_53 : decode cX1_needs 53 = .ok (.ireturn, 1) := by decide +kernel
theorem dX1_placesWhence_0 : decode cX1_placesWhence 0 = .ok (.aload_n 0, 1) := by decide +kernel
theorem dX1_placesWhence_1 : decode cX1_placesWhence 1 = .ok (.iload_n 1, 1) := by decide +kernel
theorem dX1_placesWhence_2 : decode cX1_placesWhence 2 = .ok (.invokevirtual 83, 3) := by decide +kernel
theorem dX1_placesWhence_5 : decode cX1_placesWhence 5 = .ok (.iconst 0, 1) := by decide +kernel
theorem dX1_placesWhence_6 : decode cX1_placesWhence 6 = .ok (.istore_n 2, 1) := by decide +kernel
theorem dX1_placesWhence_7 : decode cX1_placesWhence 7 = .ok (.iconst 0, 1) := by decide +kernel
theorem dX1_placesWhence_8 : decode cX1_placesWhence 8 = .ok (.istore_n 3, 1) := by decide +kernel
theorem dX1_placesWhence_9 : decode cX1_placesWhence 9 = .ok (.iload_n 3, 1) := by decide +kernel
theorem dX1_placesWhence_10 : decode cX1_placesWhence 10 = .ok (.aload_n 0, 1) := by decide +kernel
theorem dX1_placesWhence_11 : decode cX1_placesWhence 11 = .ok (.invokevirtual 41, 3) := by decide +kernel
theorem dX1_placesWhence_14 : decode cX1_placesWhence 14 = .ok (.if_icmp .ge 29, 3) := by decide +kernel
theorem dX1_placesWhence_17 : decode cX1_placesWhence 17 = .ok (.iload_n 2, 1) := by decide +kernel
theorem dX1_placesWhence_18 : decode cX1_placesWhence 18 = .ok (.aload_n 0, 1) := by decide +kernel
theorem dX1_placesWhence_19 : decode cX1_placesWhence 19 = .ok (.iload_n 3, 1) := by decide +kernel
theorem dX1_placesWhence_20 : decode cX1_placesWhence 20 = .ok (.invokevirtual 87, 3) := by decide +kernel
theorem dX1_placesWhence_23 : decode cX1_placesWhence 23 = .ok (.iconst (-1), 1) := by decide +kernel
theorem dX1_placesWhence_24 : decode cX1_placesWhence 24 = .ok (.if_icmp .eq 7, 3) := by decide +kernel
theorem dX1_placesWhence_27 : decode cX1_placesWhence 27 = .ok (.iconst 1, 1) := by decide +kernel
theorem dX1_placesWhence_28 : decode cX1_placesWhence 28 = .ok (.goto 4, 3) := by decide +kernel
theorem dX1_placesWhence_31 : decode cX1_placesWhence 31 = .ok (.iconst 0, 1) := by decide +kernel
theorem dX1_placesWhence_32 : decode cX1_placesWhence 32 = .ok (.invokestatic 48, 3) := by decide +kernel
theorem dX1_placesWhence_35 : decode cX1_placesWhence 35 = .ok (.iadd, 1) := by decide +kernel
theorem dX1_placesWhence_36 : decode cX1_placesWhence 36 = .ok (.istore_n 2, 1) := by decide +kernel
theorem dX1_placesWhence_37 : decode cX1_placesWhence 37 = .ok (.iinc 3 1, 3) := by decide +kernel
theorem dX1_placesWhence_40 : decode cX1_placesWhence 40 = .ok (.goto (-31), 3) := by decide +kernel
theorem dX1_placesWhence_43 : decode cX1_placesWhence 43 = .ok (.iload_n 2, 1) := by decide +kernel
theorem dX1_placesWhence_44 : decode cX1_placesWhence 44 = .ok (.ireturn, 1) := by decide +kernel
theorem dX1_farthestPlace_0 : decode cX1_farthestPlace 0 = .ok (.aload_n 0, 1) := by decide +kernel
theorem dX1_farthestPlace_1 : decode cX1_farthestPlace 1 = .ok (.iload_n 1, 1) := by decide +kernel
theorem dX1_farthestPlace_2 : decode cX1_farthestPlace 2 = .ok (.invokevirtual 83, 3) := by decide +kernel
theorem dX1_farthestPlace_5 : decode cX1_farthestPlace 5 = .ok (.bipush (-9), 2) := by decide +kernel
theorem dX1_farthestPlace_7 : decode cX1_farthestPlace 7 = .ok (.istore_n 2, 1) := by decide +kernel
theorem dX1_farthestPlace_8 : decode cX1_farthestPlace 8 = .ok (.iconst (-1), 1) := by decide +kernel
theorem dX1_farthestPlace_9 : decode cX1_farthestPlace 9 = .ok (.istore_n 3, 1) := by decide +kernel
theorem dX1_farthestPlace_10 : decode cX1_farthestPlace 10 = .ok (.iconst 0, 1) := by decide +kernel
theorem dX1_farthestPlace_11 : decode cX1_farthestPlace 11 = .ok (.istore 4, 2) := by decide +kernel
theorem dX1_farthestPlace_13 : decode cX1_farthestPlace 13 = .ok (.iload 4, 2) := by decide +kernel
theorem dX1_farthestPlace_15 : decode cX1_farthestPlace 15 = .ok (.aload_n 0, 1) := by decide +kernel
theorem dX1_farthestPlace_16 : decode cX1_farthestPlace 16 = .ok (.invokevirtual 41, 3) := by decide +kernel
theorem dX1_farthestPlace_19 : decode cX1_farthestPlace 19 = .ok (.if_icmp .ge 29, 3) := by decide +kernel
theorem dX1_farthestPlace_22 : decode cX1_farthestPlace 22 = .ok (.aload_n 0, 1) := by decide +kernel
theorem dX1_farthestPlace_23 : decode cX1_farthestPlace 23 = .ok (.iload 4, 2) := by decide +kernel
theorem dX1_farthestPlace_25 : decode cX1_farthestPlace 25 = .ok (.invokevirtual 87, 3) := by decide +kernel
theorem dX1_farthestPlace_28 : decode cX1_farthestPlace 28 = .ok (.iload_n 3, 1) := by decide +kernel
theorem dX1_farthestPlace_29 : decode cX1_farthestPlace 29 = .ok (.if_icmp .le 13, 3) := by decide +kernel
theorem dX1_farthestPlace_32 : decode cX1_farthestPlace 32 = .ok (.iload 4, 2) := by decide +kernel
theorem dX1_farthestPlace_34 : decode cX1_farthestPlace 34 = .ok (.istore_n 2, 1) := by decide +kernel
theorem dX1_farthestPlace_35 : decode cX1_farthestPlace 35 = .ok (.aload_n 0, 1) := by decide +kernel
theorem dX1_farthestPlace_36 : decode cX1_farthestPlace 36 = .ok (.iload 4, 2) := by decide +kernel
theorem dX1_farthestPlace_38 : decode cX1_farthestPlace 38 = .ok (.invokevirtual 87, 3) := by decide +kernel
theorem dX1_farthestPlace_41 : decode cX1_farthestPlace 41 = .ok (.istore_n 3, 1) := by decide +kernel
theorem dX1_farthestPlace_42 : decode cX1_farthestPlace 42 = .ok (.iinc 4 1, 3) := by decide +kernel
theorem dX1_farthestPlace_45 : decode cX1_farthestPlace 45 = .ok (.goto (-32), 3) := by decide +kernel
theorem dX1_farthestPlace_48 : decode cX1_farthestPlace 48 = .ok (.iload_n 2, 1) := by decide +kernel
theorem dX1_farthestPlace_49 : decode cX1_farthestPlace 49 = .ok (.ireturn, 1) := by decide +kernel
theorem dX1_allPlaces_0 : decode cX1_allPlaces 0 = .ok (.iconst 3, 1) := by decide +kernel
theorem dX1_allPlaces_1 : decode cX1_allPlaces 1 = .ok (.aload_n 0, 1) := by decide +kernel
theorem dX1_allPlaces_2 : decode cX1_allPlaces 2 = .ok (.getfield 9, 3) := by decide +kernel
theorem dX1_allPlaces_5 : decode cX1_allPlaces 5 = .ok (.invokevirtual 90, 3) := by decide +kernel
theorem dX1_allPlaces_8 : decode cX1_allPlaces 8 = .ok (.imul, 1) := by decide +kernel
theorem dX1_allPlaces_9 : decode cX1_allPlaces 9 = .ok (.ireturn, 1) := by decide +kernel
theorem dX1_endOf_0 : decode cX1_endOf 0 = .ok (.aload_n 0, 1) := by decide +kernel
theorem dX1_endOf_1 : decode cX1_endOf 1 = .ok (.iload_n 1, 1) := by decide +kernel
theorem dX1_endOf_2 : decode cX1_endOf 2 = .ok (.invokevirtual 44, 3) := by decide +kernel
theorem dX1_endOf_5 : decode cX1_endOf 5 = .ok (.ifCond .ne 5, 3) := by decide +kernel
theorem dX1_endOf_8 : decode cX1_endOf 8 = .ok (.iconst (-1), 1) := by decide +kernel
theorem dX1_endOf_9 : decode cX1_endOf 9 = .ok (.ireturn, 1) := by decide +kernel
theorem dX1_endOf_10 : decode cX1_endOf 10 = .ok (.aload_n 0, 1) := by decide +kernel
theorem dX1_endOf_11 : decode cX1_endOf 11 = .ok (.getfield 15, 3) := by decide +kernel
theorem dX1_endOf_14 : decode cX1_endOf 14 = .ok (.iload_n 1, 1) := by decide +kernel
theorem dX1_endOf_15 : decode cX1_endOf 15 = .ok (.aload_n 0, 1) := by decide +kernel
theorem dX1_endOf_16 : decode cX1_endOf 16 = .ok (.getfield 9, 3) := by decide +kernel
theorem dX1_endOf_19 : decode cX1_endOf 19 = .ok (.invokevirtual 31, 3) := by decide +kernel
theorem dX1_endOf_22 : decode cX1_endOf 22 = .ok (.invokestatic 52, 3) := by decide +kernel
theorem dX1_endOf_25 : decode cX1_endOf 25 = .ok (.invokevirtual 93, 3) := by decide +kernel
theorem dX1_endOf_28 : decode cX1_endOf 28 = .ok (.aload_n 0, 1) := by decide +kernel
theorem dX1_endOf_29 : decode cX1_endOf 29 = .ok (.getfield 15, 3) := by decide +kernel
theorem dX1_endOf_32 : decode cX1_endOf 32 = .ok (.aload_n 0, 1) := by decide +kernel
theorem dX1_endOf_33 : decode cX1_endOf 33 = .ok (.getfield 24, 3) := by decide +kernel
theorem dX1_endOf_36 : decode cX1_endOf 36 = .ok (.invokevirtual 96, 3) := by decide +kernel
theorem dX1_endOf_39 : decode cX1_endOf 39 = .ok (.iconst 0, 1) := by decide +kernel
theorem dX1_endOf_40 : decode cX1_endOf 40 = .ok (.istore_n 3, 1) := by decide +kernel
theorem dX1_endOf_41 : decode cX1_endOf 41 = .ok (.iload_n 3, 1) := by decide +kernel
theorem dX1_endOf_42 : decode cX1_endOf 42 = .ok (.aload_n 0, 1) := by decide +kernel
theorem dX1_endOf_43 : decode cX1_endOf 43 = .ok (.getfield 15, 3) := by decide +kernel
theorem dX1_endOf_46 : decode cX1_endOf 46 = .ok (.invokevirtual 100, 3) := by decide +kernel
theorem dX1_endOf_49 : decode cX1_endOf 49 = .ok (.if_icmp .ge 34, 3) := by decide +kernel
theorem dX1_endOf_52 : decode cX1_endOf 52 = .ok (.aload_n 0, 1) := by decide +kernel
theorem dX1_endOf_53 : decode cX1_endOf 53 = .ok (.getfield 15, 3) := by decide +kernel
theorem dX1_endOf_56 : decode cX1_endOf 56 = .ok (.iload_n 3, 1) := by decide +kernel
theorem dX1_endOf_57 : decode cX1_endOf 57 = .ok (.invokevirtual 103, 3) := by decide +kernel
theorem dX1_endOf_60 : decode cX1_endOf 60 = .ok (.istore 4, 2) := by decide +kernel
theorem dX1_endOf_62 : decode cX1_endOf 62 = .ok (.iload 4, 2) := by decide +kernel
theorem dX1_endOf_64 : decode cX1_endOf 64 = .ok (.invokestatic 59, 3) := by decide +kernel
theorem dX1_endOf_67 : decode cX1_endOf 67 = .ok (.iload_n 2, 1) := by decide +kernel
theorem dX1_endOf_68 : decode cX1_endOf 68 = .ok (.invokestatic 106, 3) := by decide +kernel
theorem dX1_endOf_71 : decode cX1_endOf 71 = .ok (.if_icmp .ne 6, 3) := by decide +kernel
theorem dX1_endOf_74 : decode cX1_endOf 74 = .ok (.iload 4, 2) := by decide +kernel
theorem dX1_endOf_76 : decode cX1_endOf 76 = .ok (.ireturn, 1) := by decide +kernel
theorem dX1_endOf_77 : decode cX1_endOf 77 = .ok (.iinc 3 1, 3) := by decide +kernel
theorem dX1_endOf_80 : decode cX1_endOf 80 = .ok (.goto (-39), 3) := by decide +kernel
theorem dX1_endOf_83 : decode cX1_endOf 83 = .ok (.iconst (-1), 1) := by decide +kernel
theorem dX1_endOf_84 : decode cX1_endOf 84 = .ok (.ireturn, 1) := by decide +kernel
theorem dX1_spreadBack_0 : decode cX1_spreadBack 0 = .ok (.aload_n 0, 1) := by decide +kernel
theorem dX1_spreadBack_1 : decode cX1_spreadBack 1 = .ok (.getfield 15, 3) := by decide +kernel
theorem dX1_spreadBack_4 : decode cX1_spreadBack 4 = .ok (.invokevirtual 109, 3) := by decide +kernel
theorem dX1_spreadBack_7 : decode cX1_spreadBack 7 = .ok (.iconst 0, 1) := by decide +kernel
theorem dX1_spreadBack_8 : decode cX1_spreadBack 8 = .ok (.istore_n 2, 1) := by decide +kernel
theorem dX1_spreadBack_9 : decode cX1_spreadBack 9 = .ok (.iload_n 2, 1) := by decide +kernel
theorem dX1_spreadBack_10 : decode cX1_spreadBack 10 = .ok (.bipush 8, 2) := by decide +kernel
theorem dX1_spreadBack_12 : decode cX1_spreadBack 12 = .ok (.if_icmp .ge 39, 3) := by decide +kernel
theorem dX1_spreadBack_15 : decode cX1_spreadBack 15 = .ok (.aload_n 0, 1) := by decide +kernel
theorem dX1_spreadBack_16 : decode cX1_spreadBack 16 = .ok (.getfield 24, 3) := by decide +kernel
theorem dX1_spreadBack_19 : decode cX1_spreadBack 19 = .ok (.iload_n 1, 1) := by decide +kernel
theorem dX1_spreadBack_20 : decode cX1_spreadBack 20 = .ok (.invokestatic 106, 3) := by decide +kernel
theorem dX1_spreadBack_23 : decode cX1_spreadBack 23 = .ok (.iload_n 2, 1) := by decide +kernel
theorem dX1_spreadBack_24 : decode cX1_spreadBack 24 = .ok (.invokevirtual 37, 3) := by decide +kernel
theorem dX1_spreadBack_27 : decode cX1_spreadBack 27 = .ok (.ifCond .eq 18, 3) := by decide +kernel
theorem dX1_spreadBack_30 : decode cX1_spreadBack 30 = .ok (.aload_n 0, 1) := by decide +kernel
theorem dX1_spreadBack_31 : decode cX1_spreadBack 31 = .ok (.getfield 15, 3) := by decide +kernel
theorem dX1_spreadBack_34 : decode cX1_spreadBack 34 = .ok (.iload_n 1, 1) := by decide +kernel
theorem dX1_spreadBack_35 : decode cX1_spreadBack 35 = .ok (.invokestatic 106, 3) := by decide +kernel
theorem dX1_spreadBack_38 : decode cX1_spreadBack 38 = .ok (.iload_n 2, 1) := by decide +kernel
theorem dX1_spreadBack_39 : decode cX1_spreadBack 39 = .ok (.invokestatic 52, 3) := by decide +kernel
theorem dX1_spreadBack_42 : decode cX1_spreadBack 42 = .ok (.invokevirtual 112, 3) := by decide +kernel
theorem dX1_spreadBack_45 : decode cX1_spreadBack 45 = .ok (.iinc 2 1, 3) := by decide +kernel
theorem dX1_spreadBack_48 : decode cX1_spreadBack 48 = .ok (.goto (-39), 3) := by decide +kernel
theorem dX1_spreadBack_51 : decode cX1_spreadBack 51 = .ok (.aload_n 0, 1) := by decide +kernel
theorem dX1_spreadBack_52 : decode cX1_spreadBack 52 = .ok (.getfield 15, 3) := by decide +kernel
theorem dX1_spreadBack_55 : decode cX1_spreadBack 55 = .ok (.aload_n 0, 1) := by decide +kernel
theorem dX1_spreadBack_56 : decode cX1_spreadBack 56 = .ok (.getfield 28, 3) := by decide +kernel
theorem dX1_spreadBack_59 : decode cX1_spreadBack 59 = .ok (.invokevirtual 96, 3) := by decide +kernel
theorem dX1_spreadBack_62 : decode cX1_spreadBack 62 = .ok (.return_, 1) := by decide +kernel
theorem dX1_distanceHome_0 : decode cX1_distanceHome 0 = .ok (.aload_n 0, 1) := by decide +kernel
theorem dX1_distanceHome_1 : decode cX1_distanceHome 1 = .ok (.getfield 15, 3) := by decide +kernel
theorem dX1_distanceHome_4 : decode cX1_distanceHome 4 = .ok (.iload_n 1, 1) := by decide +kernel
theorem dX1_distanceHome_5 : decode cX1_distanceHome 5 = .ok (.aload_n 0, 1) := by decide +kernel
theorem dX1_distanceHome_6 : decode cX1_distanceHome 6 = .ok (.getfield 9, 3) := by decide +kernel
theorem dX1_distanceHome_9 : decode cX1_distanceHome 9 = .ok (.invokevirtual 31, 3) := by decide +kernel
theorem dX1_distanceHome_12 : decode cX1_distanceHome 12 = .ok (.invokestatic 52, 3) := by decide +kernel
theorem dX1_distanceHome_15 : decode cX1_distanceHome 15 = .ok (.invokevirtual 66, 3) := by decide +kernel
theorem dX1_distanceHome_18 : decode cX1_distanceHome 18 = .ok (.ireturn, 1) := by decide +kernel
theorem dX2_init_0 : decode cX2_init 0 = .ok (.aload_n 0, 1) := by decide +kernel
theorem dX2_init_1 : decode cX2_init 1 = .ok (.invokespecial 3, 3) := by decide +kernel
theorem dX2_init_4 : decode cX2_init 4 = .ok (.aload_n 0, 1) := by decide +kernel
theorem dX2_init_5 : decode cX2_init 5 = .ok (.bipush 25, 2) := by decide +kernel
theorem dX2_init_7 : decode cX2_init 7 = .ok (.newarray .int, 2) := by decide +kernel
theorem dX2_init_9 : decode cX2_init 9 = .ok (.putfield 9, 3) := by decide +kernel
theorem dX2_init_12 : decode cX2_init 12 = .ok (.aload_n 0, 1) := by decide +kernel
theorem dX2_init_13 : decode cX2_init 13 = .ok (.bipush 25, 2) := by decide +kernel
theorem dX2_init_15 : decode cX2_init 15 = .ok (.newarray .int, 2) := by decide +kernel
theorem dX2_init_17 : decode cX2_init 17 = .ok (.putfield 15, 3) := by decide +kernel
theorem dX2_init_20 : decode cX2_init 20 = .ok (.aload_n 0, 1) := by decide +kernel
theorem dX2_init_21 : decode cX2_init 21 = .ok (.bipush 100, 2) := by decide +kernel
theorem dX2_init_23 : decode cX2_init 23 = .ok (.newarray .int, 2) := by decide +kernel
theorem dX2_init_25 : decode cX2_init 25 = .ok (.putfield 18, 3) := by decide +kernel
theorem dX2_init_28 : decode cX2_init 28 = .ok (.aload_n 0, 1) := by decide +kernel
theorem dX2_init_29 : decode cX2_init 29 = .ok (.iconst 4, 1) := by decide +kernel
theorem dX2_init_30 : decode cX2_init 30 = .ok (.iconst 4, 1) := by decide +kernel
theorem dX2_init_31 : decode cX2_init 31 = .ok (.invokevirtual 21, 3) := by decide +kernel
theorem dX2_init_34 : decode cX2_init 34 = .ok (.return_, 1) := by decide +kernel
theorem dX2_lay_0 : decode cX2_lay 0 = .ok (.iload_n 1, 1) := by decide +kernel
theorem dX2_lay_1 : decode cX2_lay 1 = .ok (.invokestatic 25, 3) := by decide +kernel
theorem dX2_lay_4 : decode cX2_lay 4 = .ok (.ifCond .eq 10, 3) := by decide +kernel
theorem dX2_lay_7 : decode cX2_lay 7 = .ok (.iload_n 2, 1) := by decide +kernel
theorem dX2_lay_8 : decode cX2_lay 8 = .ok (.invokestatic 25, 3) := by decide +kernel
theorem dX2_lay_11 : decode cX2_lay 11 = .ok (.ifCond .ne 4, 3) := by decide +kernel
theorem dX2_lay_14 : decode cX2_lay 14 = .ok (.return_, 1) := by decide +kernel
theorem dX2_lay_15 : decode cX2_lay 15 = .ok (.aload_n 0, 1) := by decide +kernel
theorem dX2_lay_16 : decode cX2_lay 16 = .ok (.iload_n 1, 1) := by decide +kernel
theorem dX2_lay_17 : decode cX2_lay 17 = .ok (.iload_n 2, 1) := by decide +kernel
theorem dX2_lay_18 : decode cX2_lay 18 = .ok (.imul, 1) := by decide +kernel
theorem dX2_lay_19 : decode cX2_lay 19 = .ok (.putfield 29, 3) := by decide +kernel
theorem dX2_lay_22 : decode cX2_lay 22 = .ok (.aload_n 0, 1) := by decide +kernel
theorem dX2_lay_23 : decode cX2_lay 23 = .ok (.iconst 0, 1) := by decide +kernel
theorem dX2_lay_24 : decode cX2_lay 24 = .ok (.putfield 33, 3) := by decide +kernel
theorem dX2_lay_27 : decode cX2_lay 27 = .ok (.aload_n 0, 1) := by decide +kernel
theorem dX2_lay_28 : decode cX2_lay 28 = .ok (.getfield 9, 3) := by decide +kernel
theorem dX2_lay_31 : decode cX2_lay 31 = .ok (.iconst 0, 1) := by decide +kernel
theorem dX2_lay_32 : decode cX2_lay 32 = .ok (.invokestatic 36, 3) := by decide +kernel
theorem dX2_lay_35 : decode cX2_lay 35 = .ok (.aload_n 0, 1) := by decide +kernel
theorem dX2_lay_36 : decode cX2_lay 36 = .ok (.getfield 15, 3) := by decide +kernel
theorem dX2_lay_39 : decode cX2_lay 39 = .ok (.iconst 0, 1) := by decide +kernel
theorem dX2_lay_40 : decode cX2_lay 40 = .ok (.invokestatic 36, 3) := by decide +kernel
theorem dX2_lay_43 : decode cX2_lay 43 = .ok (.iconst 0, 1) := by decide +kernel
theorem dX2_lay_44 : decode cX2_lay 44 = .ok (.istore_n 3, 1) := by decide +kernel
theorem dX2_lay_45 : decode cX2_lay 45 = .ok (.iload_n 3, 1) := by decide +kernel
theorem dX2_lay_46 : decode cX2_lay 46 = .ok (.iload_n 2, 1) := by decide +kernel
theorem dX2_lay_47 : decode cX2_lay 47 = .ok (.if_icmp .ge 130, 3) := by decide +kernel
theorem dX2_lay_50 : decode cX2_lay 50 = .ok (.iconst 0, 1) := by decide +kernel
theorem dX2_lay_51 : decode cX2_lay 51 = .ok (.istore 4, 2) := by decide +kernel
theorem dX2_lay_53 : decode cX2_lay 53 = .ok (.iload 4, 2) := by decide +kernel
theorem dX2_lay_55 : decode cX2_lay 55 = .ok (.iload_n 1, 1) := by decide +kernel
theorem dX2_lay_56 : decode cX2_lay 56 = .ok (.if_icmp .ge 115, 3) := by decide +kernel
theorem dX2_lay_59 : decode cX2_lay 59 = .ok (.iload_n 3, 1) := by decide +kernel
theorem dX2_lay_60 : decode cX2_lay 60 = .ok (.iload_n 1, 1) := by decide +kernel
theorem dX2_lay_61 : decode cX2_lay 61 = .ok (.imul, 1) := by decide +kernel
theorem dX2_lay_62 : decode cX2_lay 62 = .ok (.iload 4, 2) := by decide +kernel
theorem dX2_lay_64 : decode cX2_lay 64 = .ok (.iadd, 1) := by decide +kernel
theorem dX2_lay_65 : decode cX2_lay 65 = .ok (.istore 5, 2) := by decide +kernel
theorem dX2_lay_67 : decode cX2_lay 67 = .ok (.aload_n 0, 1) := by decide +kernel
theorem dX2_lay_68 : decode cX2_lay 68 = .ok (.getfield 18, 3) := by decide +kernel
theorem dX2_lay_71 : decode cX2_lay 71 = .ok (.iload 5, 2) := by decide +kernel
theorem dX2_lay_73 : decode cX2_lay 73 = .ok (.iconst 4, 1) := by decide +kernel
theorem dX2_lay_74 : decode cX2_lay 74 = .ok (.imul, 1) := by decide +kernel
theorem dX2_lay_75 : decode cX2_lay 75 = .ok (.iload 4, 2) := by decide +kernel
theorem dX2_lay_77 : decode cX2_lay 77 = .ok (.iconst 1, 1) := by decide +kernel
theorem dX2_lay_78 : decode cX2_lay 78 = .ok (.iadd, 1) := by decide +kernel
theorem dX2_lay_79 : decode cX2_lay 79 = .ok (.iload_n 1, 1) := by decide +kernel
theorem dX2_lay_80 : decode cX2_lay 80 = .ok (.if_icmp .ge 10, 3) := by decide +kernel
theorem dX2_lay_83 : decode cX2_lay 83 = .ok (.iload 5, 2) := by decide +kernel
theorem dX2_lay_85 : decode cX2_lay 85 = .ok (.iconst 1, 1) := by decide +kernel
theorem dX2_lay_86 : decode cX2_lay 86 = .ok (.iadd, 1) := by decide +kernel
theorem dX2_lay_87 : decode cX2_lay 87 = .ok (.goto 4, 3) := by decide +kernel
theorem dX2_lay_90 : decode cX2_lay 90 = .ok (.iconst (-1), 1) := by decide +kernel
theorem dX2_lay_91 : decode cX2_lay 91 = .ok (.iastore, 1) := by decide +kernel
theorem dX2_lay_92 : decode cX2_lay 92 = .ok (.aload_n 0, 1) := by decide +kernel
theorem dX2_lay_93 : decode cX2_lay 93 = .ok (.getfield 18, 3) := by decide +kernel
theorem dX2_lay_96 : decode cX2_lay 96 = .ok (.iload 5, 2) := by decide +kernel
theorem dX2_lay_98 : decode cX2_lay 98 = .ok (.iconst 4, 1) := by decide +kernel
theorem dX2_lay_99 : decode cX2_lay 99 = .ok (.imul, 1) := by decide +kernel
theorem dX2_lay_100 : decode cX2_lay 100 = .ok (.iconst 1, 1) := by decide +kernel
theorem dX2_lay_101 : decode cX2_lay 101 = .ok (.iadd, 1) := by decide +kernel
theorem dX2_lay_102 : decode cX2_lay 102 = .ok (.iload_n 3, 1) := by decide +kernel
theorem dX2_lay_103 : decode cX2_lay 103 = .ok (.iconst 1, 1) := by decide +kernel
theorem dX2_lay_104 : decode cX2_lay 104 = .ok (.iadd, 1) := by decide +kernel
theorem dX2_lay_105 : decode cX2_lay 105 = .ok (.iload_n 2, 1) := by decide +kernel
theorem dX2_lay_106 : decode cX2_lay 106 = .ok (.if_icmp .ge 10, 3) := by decide +kernel
theorem dX2_lay_109 : decode cX2_lay 109 = .ok (.iload 5, 2) := by decide +kernel
theorem dX2_lay_111 : decode cX2_lay 111 = .ok (.iload_n 1, 1) := by decide +kernel
theorem dX2_lay_112 : decode cX2_lay 112 = .ok (.iadd, 1) := by decide +kernel
theorem dX2_lay_113 : decode cX2_lay 113 = .ok (.goto 4, 3) := by decide +kernel
theorem dX2_lay_116 : decode cX2_lay 116 = .ok (.iconst (-1), 1) := by decide +kernel
theorem dX2_lay_117 : decode cX2_lay 117 = .ok (.iastore, 1) := by decide +kernel
theorem dX2_lay_118 : decode cX2_lay 118 = .ok (.aload_n 0, 1) := by decide +kernel
theorem dX2_lay_119 : decode cX2_lay 119 = .ok (.getfield 18, 3) := by decide +kernel
theorem dX2_lay_122 : decode cX2_lay 122 = .ok (.iload 5, 2) := by decide +kernel
theorem dX2_lay_124 : decode cX2_lay 124 = .ok (.iconst 4, 1) := by decide +kernel
theorem dX2_lay_125 : decode cX2_lay 125 = .ok (.imul, 1) := by decide +kernel
theorem dX2_lay_126 : decode cX2_lay 126 = .ok (.iconst 2, 1) := by decide +kernel
theorem dX2_lay_127 : decode cX2_lay 127 = .ok (.iadd, 1) := by decide +kernel
theorem dX2_lay_128 : decode cX2_lay 128 = .ok (.iload 4, 2) := by decide +kernel
theorem dX2_lay_130 : decode cX2_lay 130 = .ok (.ifCond .le 10, 3) := by decide +kernel
theorem dX2_lay_133 : decode cX2_lay 133 = .ok (.iload 5, 2) := by decide +kernel
theorem dX2_lay_135 : decode cX2_lay 135 = .ok (.iconst 1, 1) := by decide +kernel
theorem dX2_lay_136 : decode cX2_lay 136 = .ok (.isub, 1) := by decide +kernel
theorem dX2_lay_137 : decode cX2_lay 137 = .ok (.goto 4, 3) := by decide +kernel
theorem dX2_lay_140 : decode cX2_lay 140 = .ok (.iconst (-1), 1) := by decide +kernel
theorem dX2_lay_141 : decode cX2_lay 141 = .ok (.iastore, 1) := by decide +kernel
theorem dX2_lay_142 : decode cX2_lay 142 = .ok (.aload_n 0, 1) := by decide +kernel
theorem dX2_lay_143 : decode cX2_lay 143 = .ok (.getfield 18, 3) := by decide +kernel
theorem dX2_lay_146 : decode cX2_lay 146 = .ok (.iload 5, 2) := by decide +kernel
theorem dX2_lay_148 : decode cX2_lay 148 = .ok (.iconst 4, 1) := by decide +kernel
theorem dX2_lay_149 : decode cX2_lay 149 = .ok (.imul, 1) := by decide +kernel
theorem dX2_lay_150 : decode cX2_lay 150 = .ok (.iconst 3, 1) := by decide +kernel
theorem dX2_lay_151 : decode cX2_lay 151 = .ok (.iadd, 1) := by decide +kernel
theorem dX2_lay_152 : decode cX2_lay 152 = .ok (.iload_n 3, 1) := by decide +kernel
theorem dX2_lay_153 : decode cX2_lay 153 = .ok (.ifCond .le 10, 3) := by decide +kernel
theorem dX2_lay_156 : decode cX2_lay 156 = .ok (.iload 5, 2) := by decide +kernel
theorem dX2_lay_158 : decode cX2_lay 158 = .ok (.iload_n 1, 1) := by decide +kernel
theorem dX2_lay_159 : decode cX2_lay 159 = .ok (.isub, 1) := by decide +kernel
theorem dX2_lay_160 : decode cX2_lay 160 = .ok (.goto 4, 3) := by decide +kernel
theorem dX2_lay_163 : decode cX2_lay 163 = .ok (.iconst (-1), 1) := by decide +kernel
theorem dX2_lay_164 : decode cX2_lay 164 = .ok (.iastore, 1) := by decide +kernel
theorem dX2_lay_165 : decode cX2_lay 165 = .ok (.iinc 4 1, 3) := by decide +kernel
theorem dX2_lay_168 : decode cX2_lay 168 = .ok (.goto (-115), 3) := by decide +kernel
theorem dX2_lay_171 : decode cX2_lay 171 = .ok (.iinc 3 1, 3) := by decide +kernel
theorem dX2_lay_174 : decode cX2_lay 174 = .ok (.goto (-129), 3) := by decide +kernel
theorem dX2_lay_177 : decode cX2_lay 177 = .ok (.return_, 1) := by decide +kernel
theorem dX2_size_0 : decode cX2_size 0 = .ok (.aload_n 0, 1) := by decide +kernel
theorem dX2_size_1 : decode cX2_size 1 = .ok (.getfield 29, 3) := by decide +kernel
theorem dX2_size_4 : decode cX2_size 4 = .ok (.ireturn, 1) := by decide +kernel
theorem dX2_has_0 : decode cX2_has 0 = .ok (.iload_n 1, 1) := by decide +kernel
theorem dX2_has_1 : decode cX2_has 1 = .ok (.ifCond .lt 15, 3) := by decide +kernel
theorem dX2_has_4 : decode cX2_has 4 = .ok (.iload_n 1, 1) := by decide +kernel
theorem dX2_has_5 : decode cX2_has 5 = .ok (.aload_n 0, 1) := by decide +kernel
theorem dX2_has_6 : decode cX2_has 6 = .ok (.getfield 29, 3) := by decide +kernel
theorem dX2_has_9 : decode cX2_has 9 = .ok (.if_icmp .ge 7, 3) := by decide +kernel
theorem dX2_has_12 : decode cX2_has 12 = .ok (.iconst 1, 1) := by decide +kernel
theorem dX2_has_13 : decode cX2_has 13 = .ok (.goto 4, 3) := by decide +kernel
theorem dX2_has_16 : decode cX2_has 16 = .ok (.iconst 0, 1) := by decide +kernel
theorem dX2_has_17 : decode cX2_has 17 = .ok (.ireturn, 1) := by decide +kernel
theorem dX2_beside_0 : decode cX2_beside 0 = .ok (.iload_n 1, 1) := by decide +kernel
theorem dX2_beside_1 : decode cX2_beside 1 = .ok (.ifCond .lt 24, 3) := by decide +kernel
theorem dX2_beside_4 : decode cX2_beside 4 = .ok (.iload_n 1, 1) := by decide +kernel
theorem dX2_beside_5 : decode cX2_beside 5 = .ok (.aload_n 0, 1) := by decide +kernel
theorem dX2_beside_6 : decode cX2_beside 6 = .ok (.getfield 29, 3) := by decide +kernel
theorem dX2_beside_9 : decode cX2_beside 9 = .ok (.if_icmp .ge 16, 3) := by decide +kernel
theorem dX2_beside_12 : decode cX2_beside 12 = .ok (.iload_n 2, 1) := by decide +kernel
theorem dX2_beside_13 : decode cX2_beside 13 = .ok (.ifCond .lt 12, 3) := by decide +kernel
theorem dX2_beside_16 : decode cX2_beside 16 = .ok (.iload_n 2, 1) := by decide +kernel
theorem dX2_beside_17 : decode cX2_beside 17 = .ok (.iconst 4, 1) := by decide +kernel
theorem dX2_beside_18 : decode cX2_beside 18 = .ok (.if_icmp .ge 7, 3) := by decide +kernel
theorem dX2_beside_21 : decode cX2_beside 21 = .ok (.iconst 1, 1) := by decide +kernel
theorem dX2_beside_22 : decode cX2_beside 22 = .ok (.goto 4, 3) := by decide +kernel
theorem dX2_beside_25 : decode cX2_beside 25 = .ok (.iconst 0, 1) := by decide +kernel
theorem dX2_beside_26 : decode cX2_beside 26 = .ok (.istore_n 3, 1) := by decide +kernel
theorem dX2_beside_27 : decode cX2_beside 27 = .ok (.iload_n 3, 1) := by decide +kernel
theorem dX2_beside_28 : decode cX2_beside 28 = .ok (.ifCond .eq 16, 3) := by decide +kernel
theorem dX2_beside_31 : decode cX2_beside 31 = .ok (.aload_n 0, 1) := by decide +kernel
theorem dX2_beside_32 : decode cX2_beside 32 = .ok (.getfield 18, 3) := by decide +kernel
theorem dX2_beside_35 : decode cX2_beside 35 = .ok (.iload_n 1, 1) := by decide +kernel
theorem dX2_beside_36 : decode cX2_beside 36 = .ok (.iconst 4, 1) := by decide +kernel
theorem dX2_beside_37 : decode cX2_beside 37 = .ok (.imul, 1) := by decide +kernel
theorem dX2_beside_38 : decode cX2_beside 38 = .ok (.iload_n 2, 1) := by decide +kernel
theorem dX2_beside_39 : decode cX2_beside 39 = .ok (.iadd, 1) := by decide +kernel
theorem dX2_beside_40 : decode cX2_beside 40 = .ok (.iaload, 1) := by decide +kernel
theorem dX2_beside_41 : decode cX2_beside 41 = .ok (.goto 4, 3) := by decide +kernel
theorem dX2_beside_44 : decode cX2_beside 44 = .ok (.iconst (-1), 1) := by decide +kernel
theorem dX2_beside_45 : decode cX2_beside 45 = .ok (.ireturn, 1) := by decide +kernel
theorem dX2_kindOf_0 : decode cX2_kindOf 0 = .ok (.iload_n 1, 1) := by decide +kernel
theorem dX2_kindOf_1 : decode cX2_kindOf 1 = .ok (.ifCond .lt 20, 3) := by decide +kernel
theorem dX2_kindOf_4 : decode cX2_kindOf 4 = .ok (.iload_n 1, 1) := by decide +kernel
theorem dX2_kindOf_5 : decode cX2_kindOf 5 = .ok (.aload_n 0, 1) := by decide +kernel
theorem dX2_kindOf_6 : decode cX2_kindOf 6 = .ok (.getfield 29, 3) := by decide +kernel
theorem dX2_kindOf_9 : decode cX2_kindOf 9 = .ok (.if_icmp .ge 12, 3) := by decide +kernel
theorem dX2_kindOf_12 : decode cX2_kindOf 12 = .ok (.aload_n 0, 1) := by decide +kernel
theorem dX2_kindOf_13 : decode cX2_kindOf 13 = .ok (.getfield 9, 3) := by decide +kernel
theorem dX2_kindOf_16 : decode cX2_kindOf 16 = .ok (.iload_n 1, 1) := by decide +kernel
theorem dX2_kindOf_17 : decode cX2_kindOf 17 = .ok (.iaload, 1) := by decide +kernel
theorem dX2_kindOf_18 : decode cX2_kindOf 18 = .ok (.goto 4, 3) := by decide +kernel
theorem dX2_kindOf_21 : decode cX2_kindOf 21 = .ok (.iconst 1, 1) := by decide +kernel
theorem dX2_kindOf_22 : decode cX2_kindOf 22 = .ok (.ireturn, 1) := by decide +kernel
theorem dX2_changeKind_0 : decode cX2_changeKind 0 = .ok (.aload_n 0, 1) := by decide +kernel
theorem dX2_changeKind_1 : decode cX2_changeKind 1 = .ok (.iload_n 1, 1) := by decide +kernel
theorem dX2_changeKind_2 : decode cX2_changeKind 2 = .ok (.invokevirtual 42, 3) := by decide +kernel
theorem dX2_changeKind_5 : decode cX2_changeKind 5 = .ok (.istore_n 3, 1) := by decide +kernel
theorem dX2_changeKind_6 : decode cX2_changeKind 6 = .ok (.aload_n 0, 1) := by decide +kernel
theorem dX2_changeKind_7 : decode cX2_changeKind 7 = .ok (.iload_n 1, 1) := by decide +kernel
theorem dX2_changeKind_8 : decode cX2_changeKind 8 = .ok (.invokevirtual 46, 3) := by decide +kernel
theorem dX2_changeKind_11 : decode cX2_changeKind 11 = .ok (.ifCond .eq 10, 3) := by decide +kernel
theorem dX2_changeKind_14 : decode cX2_changeKind 14 = .ok (.aload_n 0, 1) := by decide +kernel
theorem dX2_changeKind_15 : decode cX2_changeKind 15 = .ok (.getfield 9, 3) := by decide +kernel
theorem dX2_changeKind_18 : decode cX2_changeKind 18 = .ok (.iload_n 1, 1) := by decide +kernel
theorem dX2_changeKind_19 : decode cX2_changeKind 19 = .ok (.iload_n 2, 1) := by decide +kernel
theorem dX2_changeKind_20 : decode cX2_changeKind 20 = .ok (.iastore, 1) := by decide +kernel
theorem dX2_changeKind_21 : decode cX2_changeKind 21 = .ok (.iload_n 3, 1) := by decide +kernel
theorem dX2_changeKind_22 : decode cX2_changeKind 22 = .ok (.ireturn, 1) := by decide +kernel
theorem dX2_markOf_0 : decode cX2_markOf 0 = .ok (.iload_n 1, 1) := by decide +kernel
theorem dX2_markOf_1 : decode cX2_markOf 1 = .ok (.ifCond .lt 20, 3) := by decide +kernel
theorem dX2_markOf_4 : decode cX2_markOf 4 = .ok (.iload_n 1, 1) := by decide +kernel
theorem dX2_markOf_5 : decode cX2_markOf 5 = .ok (.aload_n 0, 1) := by decide +kernel
theorem dX2_markOf_6 : decode cX2_markOf 6 = .ok (.getfield 29, 3) := by decide +kernel
theorem dX2_markOf_9 : decode cX2_markOf 9 = .ok (.if_icmp .ge 12, 3) := by decide +kernel
theorem dX2_markOf_12 : decode cX2_markOf 12 = .ok (.aload_n 0, 1) := by decide +kernel
theorem dX2_markOf_13 : decode cX2_markOf 13 = .ok (.getfield 15, 3) := by decide +kernel
theorem dX2_markOf_16 : decode cX2_markOf 16 = .ok (.iload_n 1, 1) := by decide +kernel
theorem dX2_markOf_17 : decode cX2_markOf 17 = .ok (.iaload, 1) := by decide +kernel
theorem dX2_markOf_18 : decode cX2_markOf 18 = .ok (.goto 4, 3) := by decide +kernel
theorem dX2_markOf_21 : decode cX2_markOf 21 = .ok (.iconst 0, 1) := by decide +kernel
theorem dX2_markOf_22 : decode cX2_markOf 22 = .ok (.ireturn, 1) := by decide +kernel
theorem dX2_changeMark_0 : decode cX2_changeMark 0 = .ok (.aload_n 0, 1) := by decide +kernel
theorem dX2_changeMark_1 : decode cX2_changeMark 1 = .ok (.iload_n 1, 1) := by decide +kernel
theorem dX2_changeMark_2 : decode cX2_changeMark 2 = .ok (.invokevirtual 49, 3) := by decide +kernel
theorem dX2_changeMark_5 : decode cX2_changeMark 5 = .ok (.istore_n 3, 1) := by decide +kernel
theorem dX2_changeMark_6 : decode cX2_changeMark 6 = .ok (.aload_n 0, 1) := by decide +kernel
theorem dX2_changeMark_7 : decode cX2_changeMark 7 = .ok (.iload_n 1, 1) := by decide +kernel
theorem dX2_changeMark_8 : decode cX2_changeMark 8 = .ok (.invokevirtual 46, 3) := by decide +kernel
theorem dX2_changeMark_11 : decode cX2_changeMark 11 = .ok (.ifCond .eq 10, 3) := by decide +kernel
theorem dX2_changeMark_14 : decode cX2_changeMark 14 = .ok (.aload_n 0, 1) := by decide +kernel
theorem dX2_changeMark_15 : decode cX2_changeMark 15 = .ok (.getfield 15, 3) := by decide +kernel
theorem dX2_changeMark_18 : decode cX2_changeMark 18 = .ok (.iload_n 1, 1) := by decide +kernel
theorem dX2_changeMark_19 : decode cX2_changeMark 19 = .ok (.iload_n 2, 1) := by decide +kernel
theorem dX2_changeMark_20 : decode cX2_changeMark 20 = .ok (.iastore, 1) := by decide +kernel
theorem dX2_changeMark_21 : decode cX2_changeMark 21 = .ok (.iload_n 3, 1) := by decide +kernel
theorem dX2_changeMark_22 : decode cX2_changeMark 22 = .ok (.ireturn, 1) := by decide +kernel
theorem dX2_groupsOn_0 : decode cX2_groupsOn 0 = .ok (.aload_n 0, 1) := by decide +kernel
theorem dX2_groupsOn_1 : decode cX2_groupsOn 1 = .ok (.getfield 33, 3) := by decide +kernel
theorem dX2_groupsOn_4 : decode cX2_groupsOn 4 = .ok (.ireturn, 1) := by decide +kernel
theorem dX2_changeGroup_0 : decode cX2_changeGroup 0 = .ok (.aload_n 0, 1) := by decide +kernel
theorem dX2_changeGroup_1 : decode cX2_changeGroup 1 = .ok (.getfield 33, 3) := by decide +kernel
theorem dX2_changeGroup_4 : decode cX2_changeGroup 4 = .ok (.iload_n 1, 1) := by decide +kernel
theorem dX2_changeGroup_5 : decode cX2_changeGroup 5 = .ok (.ishr, 1) := by decide +kernel
theorem dX2_changeGroup_6 : decode cX2_changeGroup 6 = .ok (.iconst 1, 1) := by decide +kernel
theorem dX2_changeGroup_7 : decode cX2_changeGroup 7 = .ok (.iand, 1) := by decide +kernel
theorem dX2_changeGroup_8 : decode cX2_changeGroup 8 = .ok (.istore_n 3, 1) := by decide +kernel
theorem dX2_changeGroup_9 : decode cX2_changeGroup 9 = .ok (.aload_n 0, 1) := by decide +kernel
theorem dX2_changeGroup_10 : decode cX2_changeGroup 10 = .ok (.iload_n 2, 1) := by decide +kernel
theorem dX2_changeGroup_11 : decode cX2_changeGroup 11 = .ok (.ifCond .eq 14, 3) := by decide +kernel
theorem dX2_changeGroup_14 : decode cX2_changeGroup 14 = .ok (.aload_n 0, 1) := by decide +kernel
theorem dX2_changeGroup_15 : decode cX2_changeGroup 15 = .ok (.getfield 33, 3) := by decide +kernel
theorem dX2_changeGroup_18 : decode cX2_changeGroup 18 = .ok (.iconst 1, 1) := by decide +kernel
theorem dX2_changeGroup_19 : decode cX2_changeGroup 19 = .ok (.iload_n 1, 1) := by decide +kernel
theorem dX2_changeGroup_20 : decode cX2_changeGroup 20 = .ok (.ishl, 1) := by decide +kernel
theorem dX2_changeGroup_21 : decode cX2_changeGroup 21 = .ok (.ior, 1) := by decide +kernel
theorem dX2_changeGroup_22 : decode cX2_changeGroup 22 = .ok (.goto 13, 3) := by decide +kernel
theorem dX2_changeGroup_25 : decode cX2_changeGroup 25 = .ok (.aload_n 0, 1) := by decide +kernel
theorem dX2_changeGroup_26 : decode cX2_changeGroup 26 = .ok (.getfield 33, 3) := by decide +kernel
theorem dX2_changeGroup_29 : decode cX2_changeGroup 29 = .ok (.iconst 1, 1) := by decide +kernel
theorem dX2_changeGroup_30 : decode cX2_changeGroup 30 = .ok (.iload_n 1, 1) := by decide +kernel
theorem dX2_changeGroup_31 : decode cX2_changeGroup 31 = .ok (.ishl, 1) := by decide +kernel
theorem dX2_changeGroup_32 : decode cX2_changeGroup 32 = .ok (.iconst (-1), 1) := by decide +kernel
theorem dX2_changeGroup_33 : decode cX2_changeGroup 33 = .ok (.ixor, 1) := by decide +kernel
theorem dX2_changeGroup_34 : decode cX2_changeGroup 34 = .ok (.iand, 1) := by decide +kernel
theorem dX2_changeGroup_35 : decode cX2_changeGroup 35 = .ok (.putfield 33, 3) := by decide +kernel
theorem dX2_changeGroup_38 : decode cX2_changeGroup 38 = .ok (.iload_n 3, 1) := by decide +kernel
theorem dX2_changeGroup_39 : decode cX2_changeGroup 39 = .ok (.ireturn, 1) := by decide +kernel
theorem dX2_isOpen_0 : decode cX2_isOpen 0 = .ok (.iload_n 1, 1) := by decide +kernel
theorem dX2_isOpen_1 : decode cX2_isOpen 1 = .ok (.ifCond .lt 21, 3) := by decide +kernel
theorem dX2_isOpen_4 : decode cX2_isOpen 4 = .ok (.iload_n 1, 1) := by decide +kernel
theorem dX2_isOpen_5 : decode cX2_isOpen 5 = .ok (.aload_n 0, 1) := by decide +kernel
theorem dX2_isOpen_6 : decode cX2_isOpen 6 = .ok (.getfield 29, 3) := by decide +kernel
theorem dX2_isOpen_9 : decode cX2_isOpen 9 = .ok (.if_icmp .ge 13, 3) := by decide +kernel
theorem dX2_isOpen_12 : decode cX2_isOpen 12 = .ok (.aload_n 0, 1) := by decide +kernel
theorem dX2_isOpen_13 : decode cX2_isOpen 13 = .ok (.getfield 9, 3) := by decide +kernel
theorem dX2_isOpen_16 : decode cX2_isOpen 16 = .ok (.iload_n 1, 1) := by decide +kernel
theorem dX2_isOpen_17 : decode cX2_isOpen 17 = .ok (.iaload, 1) := by decide +kernel
theorem dX2_isOpen_18 : decode cX2_isOpen 18 = .ok (.iconst 1, 1) := by decide +kernel
theorem dX2_isOpen_19 : decode cX2_isOpen 19 = .ok (.if_icmp .ne 5, 3) := by decide +kernel
theorem dX2_isOpen_22 : decode cX2_isOpen 22 = .ok (.iconst 0, 1) := by decide +kernel
theorem dX2_isOpen_23 : decode cX2_isOpen 23 = .ok (.ireturn, 1) := by decide +kernel
theorem dX2_isOpen_24 : decode cX2_isOpen 24 = .ok (.aload_n 0, 1) := by decide +kernel
theorem dX2_isOpen_25 : decode cX2_isOpen 25 = .ok (.getfield 9, 3) := by decide +kernel
theorem dX2_isOpen_28 : decode cX2_isOpen 28 = .ok (.iload_n 1, 1) := by decide +kernel
theorem dX2_isOpen_29 : decode cX2_isOpen 29 = .ok (.iaload, 1) := by decide +kernel
theorem dX2_isOpen_30 : decode cX2_isOpen 30 = .ok (.bipush 6, 2) := by decide +kernel
theorem dX2_isOpen_32 : decode cX2_isOpen 32 = .ok (.isub, 1) := by decide +kernel
theorem dX2_isOpen_33 : decode cX2_isOpen 33 = .ok (.istore_n 3, 1) := by decide +kernel
theorem dX2_isOpen_34 : decode cX2_isOpen 34 = .ok (.iload_n 3, 1) := by decide +kernel
theorem dX2_isOpen_35 : decode cX2_isOpen 35 = .ok (.ifCond .lt 12, 3) := by decide +kernel
theorem dX2_isOpen_38 : decode cX2_isOpen 38 = .ok (.iload_n 2, 1) := by decide +kernel
theorem dX2_isOpen_39 : decode cX2_isOpen 39 = .ok (.iload_n 3, 1) := by decide +kernel
theorem dX2_isOpen_40 : decode cX2_isOpen 40 = .ok (.ishr, 1) := by decide +kernel
theorem dX2_isOpen_41 : decode cX2_isOpen 41 = .ok (.iconst 1, 1) := by decide +kernel
theorem dX2_isOpen_42 : decode cX2_isOpen 42 = .ok (.iand, 1) := by decide +kernel
theorem dX2_isOpen_43 : decode cX2_isOpen 43 = .ok (.iconst 1, 1) := by decide +kernel
theorem dX2_isOpen_44 : decode cX2_isOpen 44 = .ok (.if_icmp .ne 7, 3) := by decide +kernel
theorem dX2_isOpen_47 : decode cX2_isOpen 47 = .ok (.iconst 1, 1) := by decide +kernel
theorem dX2_isOpen_48 : decode cX2_isOpen 48 = .ok (.goto 4, 3) := by decide +kernel
theorem dX2_isOpen_51 : decode cX2_isOpen 51 = .ok (.iconst 0, 1) := by decide +kernel
theorem dX2_isOpen_52 : decode cX2_isOpen 52 = .ok (.ireturn, 1) := by decide +kernel
theorem dX2_openCells_0 : decode cX2_openCells 0 = .ok (.iconst 0, 1) := by decide +kernel
theorem dX2_openCells_1 : decode cX2_openCells 1 = .ok (.istore_n 1, 1) := by decide +kernel
theorem dX2_openCells_2 : decode cX2_openCells 2 = .ok (.iconst 0, 1) := by decide +kernel
theorem dX2_openCells_3 : decode cX2_openCells 3 = .ok (.istore_n 2, 1) := by decide +kernel
theorem dX2_openCells_4 : decode cX2_openCells 4 = .ok (.iload_n 2, 1) := by decide +kernel
theorem dX2_openCells_5 : decode cX2_openCells 5 = .ok (.aload_n 0, 1) := by decide +kernel
theorem dX2_openCells_6 : decode cX2_openCells 6 = .ok (.getfield 29, 3) := by decide +kernel
theorem dX2_openCells_9 : decode cX2_openCells 9 = .ok (.if_icmp .ge 24, 3) := by decide +kernel
theorem dX2_openCells_12 : decode cX2_openCells 12 = .ok (.iload_n 1, 1) := by decide +kernel
theorem dX2_openCells_13 : decode cX2_openCells 13 = .ok (.aload_n 0, 1) := by decide +kernel
theorem dX2_openCells_14 : decode cX2_openCells 14 = .ok (.iload_n 2, 1) := by decide +kernel
theorem dX2_openCells_15 : decode cX2_openCells 15 = .ok (.aload_n 0, 1) := by decide +kernel
theorem dX2_openCells_16 : decode cX2_openCells 16 = .ok (.getfield 33, 3) := by decide +kernel
theorem dX2_openCells_19 : decode cX2_openCells 19 = .ok (.invokevirtual 52, 3) := by decide +kernel
theorem dX2_openCells_22 : decode cX2_openCells 22 = .ok (.invokestatic 56, 3) := by decide +kernel
theorem dX2_openCells_25 : decode cX2_openCells 25 = .ok (.iadd, 1) := by decide +kernel
theorem dX2_openCells_26 : decode cX2_openCells 26 = .ok (.istore_n 1, 1) := by decide +kernel
theorem dX2_openCells_27 : decode cX2_openCells 27 = .ok (.iinc 2 1, 3) := by decide +kernel
theorem dX2_openCells_30 : decode cX2_openCells 30 = .ok (.goto (-26), 3) := by decide +kernel
theorem dX2_openCells_33 : decode cX2_openCells 33 = .ok (.iload_n 1, 1) := by decide +kernel
theorem dX2_openCells_34 : decode cX2_openCells 34 = .ok (.ireturn, 1) := by decide +kernel
theorem dX2_markedCells_0 : decode cX2_markedCells 0 = .ok (.iconst 0, 1) := by decide +kernel
theorem dX2_markedCells_1 : decode cX2_markedCells 1 = .ok (.istore_n 1, 1) := by decide +kernel
theorem dX2_markedCells_2 : decode cX2_markedCells 2 = .ok (.iconst 0, 1) := by decide +kernel
theorem dX2_markedCells_3 : decode cX2_markedCells 3 = .ok (.istore_n 2, 1) := by decide +kernel
theorem dX2_markedCells_4 : decode cX2_markedCells 4 = .ok (.iload_n 2, 1) := by decide +kernel
theorem dX2_markedCells_5 : decode cX2_markedCells 5 = .ok (.aload_n 0, 1) := by decide +kernel
theorem dX2_markedCells_6 : decode cX2_markedCells 6 = .ok (.getfield 29, 3) := by decide +kernel
theorem dX2_markedCells_9 : decode cX2_markedCells 9 = .ok (.if_icmp .ge 29, 3) := by decide +kernel
theorem dX2_markedCells_12 : decode cX2_markedCells 12 = .ok (.iload_n 1, 1) := by decide +kernel
theorem dX2_markedCells_13 : decode cX2_markedCells 13 = .ok (.aload_n 0, 1) := by decide +kernel
theorem dX2_markedCells_14 : decode cX2_markedCells 14 = .ok (.getfield 15, 3) := by decide +kernel
theorem dX2_markedCells_17 : decode cX2_markedCells 17 = .ok (.iload_n 2, 1) := by decide +kernel
theorem dX2_markedCells_18 : decode cX2_markedCells 18 = .ok (.iaload, 1) := by decide +kernel
theorem dX2_markedCells_19 : decode cX2_markedCells 19 = .ok (.ifCond .eq 7, 3) := by decide +kernel
theorem dX2_markedCells_22 : decode cX2_markedCells 22 = .ok (.iconst 1, 1) := by decide +kernel
theorem dX2_markedCells_23 : decode cX2_markedCells 23 = .ok (.goto 4, 3) := by decide +kernel
theorem dX2_markedCells_26 : decode cX2_markedCells 26 = .ok (.iconst 0, 1) := by decide +kernel
theorem dX2_markedCells_27 : decode cX2_markedCells 27 = .ok (.invokestatic 56, 3) := by decide +kernel
theorem dX2_markedCells_30 : decode cX2_markedCells 30 = .ok (.iadd, 1) := by decide +kernel
theorem dX2_markedCells_31 : decode cX2_markedCells 31 = .ok (.istore_n 1, 1) := by decide +kernel
theorem dX2_markedCells_32 : decode cX2_markedCells 32 = .ok (.iinc 2 1, 3) := by decide +kernel
theorem dX2_markedCells_35 : decode cX2_markedCells 35 = .ok (.goto (-31), 3) := by decide +kernel
theorem dX2_markedCells_38 : decode cX2_markedCells 38 = .ok (.iload_n 1, 1) := by decide +kernel
theorem dX2_markedCells_39 : decode cX2_markedCells 39 = .ok (.ireturn, 1) := by decide +kernel
theorem dX3_init_0 : decode cX3_init 0 = .ok (.aload_n 0, 1) := by decide +kernel
theorem dX3_init_1 : decode cX3_init 1 = .ok (.invokespecial 3, 3) := by decide +kernel
theorem dX3_init_4 : decode cX3_init 4 = .ok (.return_, 1) := by decide +kernel
theorem dX3_topOf_0 : decode cX3_topOf 0 = .ok (.iload_n 0, 1) := by decide +kernel
theorem dX3_topOf_1 : decode cX3_topOf 1 = .ok (.iconst 4, 1) := by decide +kernel
theorem dX3_topOf_2 : decode cX3_topOf 2 = .ok (.idiv, 1) := by decide +kernel
theorem dX3_topOf_3 : decode cX3_topOf 3 = .ok (.iconst 1, 1) := by decide +kernel
theorem dX3_topOf_4 : decode cX3_topOf 4 = .ok (.iadd, 1) := by decide +kernel
theorem dX3_topOf_5 : decode cX3_topOf 5 = .ok (.ireturn, 1) := by decide +kernel
theorem dX3_belowOf_0 : decode cX3_belowOf 0 = .ok (.bipush 7, 2) := by decide +kernel
theorem dX3_belowOf_2 : decode cX3_belowOf 2 = .ok (.iload_n 0, 1) := by decide +kernel
theorem dX3_belowOf_3 : decode cX3_belowOf 3 = .ok (.invokestatic 9, 3) := by decide +kernel
theorem dX3_belowOf_6 : decode cX3_belowOf 6 = .ok (.isub, 1) := by decide +kernel
theorem dX3_belowOf_7 : decode cX3_belowOf 7 = .ok (.ireturn, 1) := by decide +kernel
theorem dX3_eastOf_0 : decode cX3_eastOf 0 = .ok (.iload_n 0, 1) := by decide +kernel
theorem dX3_eastOf_1 : decode cX3_eastOf 1 = .ok (.invokestatic 15, 3) := by decide +kernel
theorem dX3_eastOf_4 : decode cX3_eastOf 4 = .ok (.ifCond .eq 11, 3) := by decide +kernel
theorem dX3_eastOf_7 : decode cX3_eastOf 7 = .ok (.getstatic 19, 3) := by decide +kernel
theorem dX3_eastOf_10 : decode cX3_eastOf 10 = .ok (.iload_n 0, 1) := by decide +kernel
theorem dX3_eastOf_11 : decode cX3_eastOf 11 = .ok (.iaload, 1) := by decide +kernel
theorem dX3_eastOf_12 : decode cX3_eastOf 12 = .ok (.goto 4, 3) := by decide +kernel
theorem dX3_eastOf_15 : decode cX3_eastOf 15 = .ok (.iconst (-1), 1) := by decide +kernel
theorem dX3_eastOf_16 : decode cX3_eastOf 16 = .ok (.ireturn, 1) := by decide +kernel
theorem dX3_southOf_0 : decode cX3_southOf 0 = .ok (.iload_n 0, 1) := by decide +kernel
theorem dX3_southOf_1 : decode cX3_southOf 1 = .ok (.invokestatic 15, 3) := by decide +kernel
theorem dX3_southOf_4 : decode cX3_southOf 4 = .ok (.ifCond .eq 11, 3) := by decide +kernel
theorem dX3_southOf_7 : decode cX3_southOf 7 = .ok (.getstatic 23, 3) := by decide +kernel
theorem dX3_southOf_10 : decode cX3_southOf 10 = .ok (.iload_n 0, 1) := by decide +kernel
theorem dX3_southOf_11 : decode cX3_southOf 11 = .ok (.iaload, 1) := by decide +kernel
theorem dX3_southOf_12 : decode cX3_southOf 12 = .ok (.goto 4, 3) := by decide +kernel
theorem dX3_southOf_15 : decode cX3_southOf 15 = .ok (.iconst (-1), 1) := by decide +kernel
theorem dX3_southOf_16 : decode cX3_southOf 16 = .ok (.ireturn, 1) := by decide +kernel
theorem dX3_numbered_0 : decode cX3_numbered 0 = .ok (.iload_n 1, 1) := by decide +kernel
theorem dX3_numbered_1 : decode cX3_numbered 1 = .ok (.iconst 1, 1) := by decide +kernel
theorem dX3_numbered_2 : decode cX3_numbered 2 = .ok (.isub, 1) := by decide +kernel
theorem dX3_numbered_3 : decode cX3_numbered 3 = .ok (.iload_n 0, 1) := by decide +kernel
theorem dX3_numbered_4 : decode cX3_numbered 4 = .ok (.iload_n 1, 1) := by decide +kernel
theorem dX3_numbered_5 : decode cX3_numbered 5 = .ok (.if_icmp .ge 7, 3) := by decide +kernel
theorem dX3_numbered_8 : decode cX3_numbered 8 = .ok (.iconst 1, 1) := by decide +kernel
theorem dX3_numbered_9 : decode cX3_numbered 9 = .ok (.goto 4, 3) := by decide +kernel
theorem dX3_numbered_12 : decode cX3_numbered 12 = .ok (.iconst 0, 1) := by decide +kernel
theorem dX3_numbered_13 : decode cX3_numbered 13 = .ok (.isub, 1) := by decide +kernel
theorem dX3_numbered_14 : decode cX3_numbered 14 = .ok (.bipush 7, 2) := by decide +kernel
theorem dX3_numbered_16 : decode cX3_numbered 16 = .ok (.iload_n 0, 1) := by decide +kernel
theorem dX3_numbered_17 : decode cX3_numbered 17 = .ok (.isub, 1) := by decide +kernel
theorem dX3_numbered_18 : decode cX3_numbered 18 = .ok (.iload_n 1, 1) := by decide +kernel
theorem dX3_numbered_19 : decode cX3_numbered 19 = .ok (.if_icmp .ge 7, 3) := by decide +kernel
theorem dX3_numbered_22 : decode cX3_numbered 22 = .ok (.iconst 1, 1) := by decide +kernel
theorem dX3_numbered_23 : decode cX3_numbered 23 = .ok (.goto 4, 3) := by decide +kernel
theorem dX3_numbered_26 : decode cX3_numbered 26 = .ok (.iconst 0, 1) := by decide +kernel
theorem dX3_numbered_27 : decode cX3_numbered 27 = .ok (.isub, 1) := by decide +kernel
theorem dX3_numbered_28 : decode cX3_numbered 28 = .ok (.istore_n 2, 1) := by decide +kernel
theorem dX3_numbered_29 : decode cX3_numbered 29 = .ok (.iconst 4, 1) := by decide +kernel
theorem dX3_numbered_30 : decode cX3_numbered 30 = .ok (.iload_n 0, 1) := by decide +kernel
theorem dX3_numbered_31 : decode cX3_numbered 31 = .ok (.iconst 1, 1) := by decide +kernel
theorem dX3_numbered_32 : decode cX3_numbered 32 = .ok (.isub, 1) := by decide +kernel
theorem dX3_numbered_33 : decode cX3_numbered 33 = .ok (.imul, 1) := by decide +kernel
theorem dX3_numbered_34 : decode cX3_numbered 34 = .ok (.iload_n 2, 1) := by decide +kernel
theorem dX3_numbered_35 : decode cX3_numbered 35 = .ok (.iadd, 1) := by decide +kernel
theorem dX3_numbered_36 : decode cX3_numbered 36 = .ok (.ireturn, 1) := by decide +kernel
theorem dX3_turned_0 : decode cX3_turned 0 = .ok (.iload_n 0, 1) := by decide +kernel
theorem dX3_turned_1 : decode cX3_turned 1 = .ok (.invokestatic 15, 3) := by decide +kernel
theorem dX3_turned_4 : decode cX3_turned 4 = .ok (.ifCond .ne 5, 3) := by decide +kernel
theorem dX3_turned_7 : decode cX3_turned 7 = .ok (.iconst (-1), 1) := by decide +kernel
theorem dX3_turned_8 : decode cX3_turned 8 = .ok (.ireturn, 1) := by decide +kernel
theorem dX3_turned_9 : decode cX3_turned 9 = .ok (.iload_n 0, 1) := by decide +kernel
theorem dX3_turned_10 : decode cX3_turned 10 = .ok (.invokestatic 9, 3) := by decide +kernel
theorem dX3_turned_13 : decode cX3_turned 13 = .ok (.istore_n 2, 1) := by decide +kernel
theorem dX3_turned_14 : decode cX3_turned 14 = .ok (.getstatic 19, 3) := by decide +kernel
theorem dX3_turned_17 : decode cX3_turned 17 = .ok (.iload_n 0, 1) := by decide +kernel
theorem dX3_turned_18 : decode cX3_turned 18 = .ok (.iaload, 1) := by decide +kernel
theorem dX3_turned_19 : decode cX3_turned 19 = .ok (.istore_n 3, 1) := by decide +kernel
theorem dX3_turned_20 : decode cX3_turned 20 = .ok (.getstatic 23, 3) := by decide +kernel
theorem dX3_turned_23 : decode cX3_turned 23 = .ok (.iload_n 0, 1) := by decide +kernel
theorem dX3_turned_24 : decode cX3_turned 24 = .ok (.iaload, 1) := by decide +kernel
theorem dX3_turned_25 : decode cX3_turned 25 = .ok (.istore 4, 2) := by decide +kernel
theorem dX3_turned_27 : decode cX3_turned 27 = .ok (.iload_n 1, 1) := by decide +kernel
theorem dX3_turned_28 : decode cX3_turned 28 = .ok (.tableswitch 56 0 2 #[28, 37, 47], 28) := by decide +kernel
theorem dX3_turned_56 : decode cX3_turned 56 = .ok (.bipush 7, 2) := by decide +kernel
theorem dX3_turned_58 : decode cX3_turned 58 = .ok (.iload_n 3, 1) := by decide +kernel
theorem dX3_turned_59 : decode cX3_turned 59 = .ok (.isub, 1) := by decide +kernel
theorem dX3_turned_60 : decode cX3_turned 60 = .ok (.iload_n 2, 1) := by decide +kernel
theorem dX3_turned_61 : decode cX3_turned 61 = .ok (.invokestatic 26, 3) := by decide +kernel
theorem dX3_turned_64 : decode cX3_turned 64 = .ok (.ireturn, 1) := by decide +kernel
theorem dX3_turned_65 : decode cX3_turned 65 = .ok (.bipush 7, 2) := by decide +kernel
theorem dX3_turned_67 : decode cX3_turned 67 = .ok (.iload 4, 2) := by decide +kernel
theorem dX3_turned_69 : decode cX3_turned 69 = .ok (.isub, 1) := by decide +kernel
theorem dX3_turned_70 : decode cX3_turned 70 = .ok (.iload_n 3, 1) := by decide +kernel
theorem dX3_turned_71 : decode cX3_turned 71 = .ok (.invokestatic 26, 3) := by decide +kernel
theorem dX3_turned_74 : decode cX3_turned 74 = .ok (.ireturn, 1) := by decide +kernel
theorem dX3_turned_75 : decode cX3_turned 75 = .ok (.iload_n 3, 1) := by decide +kernel
theorem dX3_turned_76 : decode cX3_turned 76 = .ok (.bipush 7, 2) := by decide +kernel
theorem dX3_turned_78 : decode cX3_turned 78 = .ok (.iload_n 2, 1) := by decide +kernel
theorem dX3_turned_79 : decode cX3_turned 79 = .ok (.isub, 1) := by decide +kernel
theorem dX3_turned_80 : decode cX3_turned 80 = .ok (.invokestatic 26, 3) := by decide +kernel
theorem dX3_turned_83 : decode cX3_turned 83 = .ok (.ireturn, 1) := by decide +kernel
theorem dX3_turned_84 : decode cX3_turned 84 = .ok (.iload 4, 2) := by decide +kernel
theorem dX3_turned_86 : decode cX3_turned 86 = .ok (.iload_n 3, 1) := by decide +kernel
theorem dX3_turned_87 : decode cX3_turned 87 = .ok (.invokestatic 26, 3) := by decide +kernel
theorem dX3_turned_90 : decode cX3_turned 90 = .ok (.ireturn, 1) := by decide +kernel
theorem dX3_meets_0 : decode cX3_meets 0 = .ok (.iload_n 1, 1) := by decide +kernel
theorem dX3_meets_1 : decode cX3_meets 1 = .ok (.bipush 10, 2) := by decide +kernel
theorem dX3_meets_3 : decode cX3_meets 3 = .ok (.if_icmp .lt 17, 3) := by decide +kernel
theorem dX3_meets_6 : decode cX3_meets 6 = .ok (.iload_n 0, 1) := by decide +kernel
theorem dX3_meets_7 : decode cX3_meets 7 = .ok (.iload_n 1, 1) := by decide +kernel
theorem dX3_meets_8 : decode cX3_meets 8 = .ok (.bipush 10, 2) := by decide +kernel
theorem dX3_meets_10 : decode cX3_meets 10 = .ok (.isub, 1) := by decide +kernel
theorem dX3_meets_11 : decode cX3_meets 11 = .ok (.if_icmp .ne 7, 3) := by decide +kernel
theorem dX3_meets_14 : decode cX3_meets 14 = .ok (.iconst 1, 1) := by decide +kernel
theorem dX3_meets_15 : decode cX3_meets 15 = .ok (.goto 4, 3) := by decide +kernel
theorem dX3_meets_18 : decode cX3_meets 18 = .ok (.iconst 0, 1) := by decide +kernel
theorem dX3_meets_19 : decode cX3_meets 19 = .ok (.ireturn, 1) := by decide +kernel
theorem dX3_meets_20 : decode cX3_meets 20 = .ok (.iload_n 1, 1) := by decide +kernel
theorem dX3_meets_21 : decode cX3_meets 21 = .ok (.ifCond .eq 11, 3) := by decide +kernel
theorem dX3_meets_24 : decode cX3_meets 24 = .ok (.iload_n 0, 1) := by decide +kernel
theorem dX3_meets_25 : decode cX3_meets 25 = .ok (.invokestatic 9, 3) := by decide +kernel
theorem dX3_meets_28 : decode cX3_meets 28 = .ok (.iload_n 1, 1) := by decide +kernel
theorem dX3_meets_29 : decode cX3_meets 29 = .ok (.if_icmp .ne 7, 3) := by decide +kernel
theorem dX3_meets_32 : decode cX3_meets 32 = .ok (.iconst 1, 1) := by decide +kernel
theorem dX3_meets_33 : decode cX3_meets 33 = .ok (.goto 4, 3) := by decide +kernel
theorem dX3_meets_36 : decode cX3_meets 36 = .ok (.iconst 0, 1) := by decide +kernel
theorem dX3_meets_37 : decode cX3_meets 37 = .ok (.ireturn, 1) := by decide +kernel
theorem dX3_after_0 : decode cX3_after 0 = .ok (.iload_n 1, 1) := by decide +kernel
theorem dX3_after_1 : decode cX3_after 1 = .ok (.iload_n 2, 1) := by decide +kernel
theorem dX3_after_2 : decode cX3_after 2 = .ok (.invokestatic 30, 3) := by decide +kernel
theorem dX3_after_5 : decode cX3_after 5 = .ok (.ireturn, 1) := by decide +kernel
theorem dX4_init_0 : decode cX4_init 0 = .ok (.aload_n 0, 1) := by decide +kernel
theorem dX4_init_1 : decode cX4_init 1 = .ok (.invokespecial 3, 3) := by decide +kernel
theorem dX4_init_4 : decode cX4_init 4 = .ok (.aload_n 0, 1) := by decide +kernel
theorem dX4_init_5 : decode cX4_init 5 = .ok (.aload_n 1, 1) := by decide +kernel
theorem dX4_init_6 : decode cX4_init 6 = .ok (.putfield 9, 3) := by decide +kernel
theorem dX4_init_9 : decode cX4_init 9 = .ok (.return_, 1) := by decide +kernel
theorem dX4_at_0 : decode cX4_at 0 = .ok (.bipush 24, 2) := by decide +kernel
theorem dX4_at_2 : decode cX4_at 2 = .ok (.iload_n 0, 1) := by decide +kernel
theorem dX4_at_3 : decode cX4_at 3 = .ok (.imul, 1) := by decide +kernel
theorem dX4_at_4 : decode cX4_at 4 = .ok (.iload_n 1, 1) := by decide +kernel
theorem dX4_at_5 : decode cX4_at 5 = .ok (.iadd, 1) := by decide +kernel
theorem dX4_at_6 : decode cX4_at 6 = .ok (.ireturn, 1) := by decide +kernel
theorem dX4_cellOf_0 : decode cX4_cellOf 0 = .ok (.iload_n 0, 1) := by decide +kernel
theorem dX4_cellOf_1 : decode cX4_cellOf 1 = .ok (.bipush 24, 2) := by decide +kernel
theorem dX4_cellOf_3 : decode cX4_cellOf 3 = .ok (.idiv, 1) := by decide +kernel
theorem dX4_cellOf_4 : decode cX4_cellOf 4 = .ok (.ireturn, 1) := by decide +kernel
theorem dX4_stanceOf_0 : decode cX4_stanceOf 0 = .ok (.iload_n 0, 1) := by decide +kernel
theorem dX4_stanceOf_1 : decode cX4_stanceOf 1 = .ok (.bipush 24, 2) := by decide +kernel
theorem dX4_stanceOf_3 : decode cX4_stanceOf 3 = .ok (.irem, 1) := by decide +kernel
theorem dX4_stanceOf_4 : decode cX4_stanceOf 4 = .ok (.ireturn, 1) := by decide +kernel
theorem dX4_printOf_0 : decode cX4_printOf 0 = .ok (.iload_n 0, 1) := by decide +kernel
theorem dX4_printOf_1 : decode cX4_printOf 1 = .ok (.invokestatic 15, 3) := by decide +kernel
theorem dX4_printOf_4 : decode cX4_printOf 4 = .ok (.invokestatic 19, 3) := by decide +kernel
theorem dX4_printOf_7 : decode cX4_printOf 7 = .ok (.ireturn, 1) := by decide +kernel
theorem dX4_after_0 : decode cX4_after 0 = .ok (.aload_n 0, 1) := by decide +kernel
theorem dX4_after_1 : decode cX4_after 1 = .ok (.getfield 9, 3) := by decide +kernel
theorem dX4_after_4 : decode cX4_after 4 = .ok (.iload_n 1, 1) := by decide +kernel
theorem dX4_after_5 : decode cX4_after 5 = .ok (.invokestatic 24, 3) := by decide +kernel
theorem dX4_after_8 : decode cX4_after 8 = .ok (.iload_n 2, 1) := by decide +kernel
theorem dX4_after_9 : decode cX4_after 9 = .ok (.invokevirtual 27, 3) := by decide +kernel
theorem dX4_after_12 : decode cX4_after 12 = .ok (.istore_n 3, 1) := by decide +kernel
theorem dX4_after_13 : decode cX4_after 13 = .ok (.aload_n 0, 1) := by decide +kernel
theorem dX4_after_14 : decode cX4_after 14 = .ok (.getfield 9, 3) := by decide +kernel
theorem dX4_after_17 : decode cX4_after 17 = .ok (.iload_n 3, 1) := by decide +kernel
theorem dX4_after_18 : decode cX4_after 18 = .ok (.aload_n 0, 1) := by decide +kernel
theorem dX4_after_19 : decode cX4_after 19 = .ok (.getfield 9, 3) := by decide +kernel
theorem dX4_after_22 : decode cX4_after 22 = .ok (.invokevirtual 33, 3) := by decide +kernel
theorem dX4_after_25 : decode cX4_after 25 = .ok (.invokevirtual 37, 3) := by decide +kernel
theorem dX4_after_28 : decode cX4_after 28 = .ok (.ifCond .ne 5, 3) := by decide +kernel
theorem dX4_after_31 : decode cX4_after 31 = .ok (.iconst (-1), 1) := by decide +kernel
theorem dX4_after_32 : decode cX4_after 32 = .ok (.ireturn, 1) := by decide +kernel
theorem dX4_after_33 : decode cX4_after 33 = .ok (.iload_n 1, 1) := by decide +kernel
theorem dX4_after_34 : decode cX4_after 34 = .ok (.invokestatic 15, 3) := by decide +kernel
theorem dX4_after_37 : decode cX4_after 37 = .ok (.iload_n 2, 1) := by decide +kernel
theorem dX4_after_38 : decode cX4_after 38 = .ok (.invokestatic 41, 3) := by decide +kernel
theorem dX4_after_41 : decode cX4_after 41 = .ok (.istore 4, 2) := by decide +kernel
theorem dX4_after_43 : decode cX4_after 43 = .ok (.aload_n 0, 1) := by decide +kernel
theorem dX4_after_44 : decode cX4_after 44 = .ok (.getfield 9, 3) := by decide +kernel
theorem dX4_after_47 : decode cX4_after 47 = .ok (.iload_n 3, 1) := by decide +kernel
theorem dX4_after_48 : decode cX4_after 48 = .ok (.invokevirtual 44, 3) := by decide +kernel
theorem dX4_after_51 : decode cX4_after 51 = .ok (.istore 5, 2) := by decide +kernel
theorem dX4_after_53 : decode cX4_after 53 = .ok (.iload 5, 2) := by decide +kernel
theorem dX4_after_55 : decode cX4_after 55 = .ok (.ifCond .eq 13, 3) := by decide +kernel
theorem dX4_after_58 : decode cX4_after 58 = .ok (.iload 5, 2) := by decide +kernel
theorem dX4_after_60 : decode cX4_after 60 = .ok (.iload 4, 2) := by decide +kernel
theorem dX4_after_62 : decode cX4_after 62 = .ok (.invokestatic 47, 3) := by decide +kernel
theorem dX4_after_65 : decode cX4_after 65 = .ok (.if_icmp .ne 12, 3) := by decide +kernel
theorem dX4_after_68 : decode cX4_after 68 = .ok (.iload_n 3, 1) := by decide +kernel
theorem dX4_after_69 : decode cX4_after 69 = .ok (.iload 4, 2) := by decide +kernel
theorem dX4_after_71 : decode cX4_after 71 = .ok (.invokestatic 50, 3) := by decide +kernel
theorem dX4_after_74 : decode cX4_after 74 = .ok (.goto 4, 3) := by decide +kernel
theorem dX4_after_77 : decode cX4_after 77 = .ok (.iconst (-1), 1) := by decide +kernel
theorem dX4_after_78 : decode cX4_after 78 = .ok (.ireturn, 1) := by decide +kernel
theorem dX5_init_0 : decode cX5_init 0 = .ok (.aload_n 0, 1) := by decide +kernel
theorem dX5_init_1 : decode cX5_init 1 = .ok (.invokespecial 3, 3) := by decide +kernel
theorem dX5_init_4 : decode cX5_init 4 = .ok (.aload_n 0, 1) := by decide +kernel
theorem dX5_init_5 : decode cX5_init 5 = .ok (.sipush 600, 3) := by decide +kernel
theorem dX5_init_8 : decode cX5_init 8 = .ok (.newarray .int, 2) := by decide +kernel
theorem dX5_init_10 : decode cX5_init 10 = .ok (.putfield 9, 3) := by decide +kernel
theorem dX5_init_13 : decode cX5_init 13 = .ok (.aload_n 0, 1) := by decide +kernel
theorem dX5_init_14 : decode cX5_init 14 = .ok (.aload_n 1, 1) := by decide +kernel
theorem dX5_init_15 : decode cX5_init 15 = .ok (.putfield 15, 3) := by decide +kernel
theorem dX5_init_18 : decode cX5_init 18 = .ok (.aload_n 0, 1) := by decide +kernel
theorem dX5_init_19 : decode cX5_init 19 = .ok (.aload_n 2, 1) := by decide +kernel
theorem dX5_init_20 : decode cX5_init 20 = .ok (.putfield 19, 3) := by decide +kernel
theorem dX5_init_23 : decode cX5_init 23 = .ok (.return_, 1) := by decide +kernel
theorem dX5_length_0 : decode cX5_length 0 = .ok (.aload_n 0, 1) := by decide +kernel
theorem dX5_length_1 : decode cX5_length 1 = .ok (.getfield 19, 3) := by decide +kernel
theorem dX5_length_4 : decode cX5_length 4 = .ok (.aload_n 0, 1) := by decide +kernel
theorem dX5_length_5 : decode cX5_length 5 = .ok (.iload_n 1, 1) := by decide +kernel
theorem dX5_length_6 : decode cX5_length 6 = .ok (.iload_n 2, 1) := by decide +kernel
theorem dX5_length_7 : decode cX5_length 7 = .ok (.iload_n 3, 1) := by decide +kernel
theorem dX5_length_8 : decode cX5_length 8 = .ok (.invokevirtual 23, 3) := by decide +kernel
theorem dX5_length_11 : decode cX5_length 11 = .ok (.invokevirtual 27, 3) := by decide +kernel
theorem dX5_length_14 : decode cX5_length 14 = .ok (.invokestatic 33, 3) := by decide +kernel
theorem dX5_length_17 : decode cX5_length 17 = .ok (.ireturn, 1) := by decide +kernel
theorem dX5_stepAt_0 : decode cX5_stepAt 0 = .ok (.aload_n 0, 1) := by decide +kernel
theorem dX5_stepAt_1 : decode cX5_stepAt 1 = .ok (.getfield 19, 3) := by decide +kernel
theorem dX5_stepAt_4 : decode cX5_stepAt 4 = .ok (.aload_n 0, 1) := by decide +kernel
theorem dX5_stepAt_5 : decode cX5_stepAt 5 = .ok (.iload_n 1, 1) := by decide +kernel
theorem dX5_stepAt_6 : decode cX5_stepAt 6 = .ok (.iload_n 2, 1) := by decide +kernel
theorem dX5_stepAt_7 : decode cX5_stepAt 7 = .ok (.iload_n 3, 1) := by decide +kernel
theorem dX5_stepAt_8 : decode cX5_stepAt 8 = .ok (.invokevirtual 23, 3) := by decide +kernel
theorem dX5_stepAt_11 : decode cX5_stepAt 11 = .ok (.iload 4, 2) := by decide +kernel
theorem dX5_stepAt_13 : decode cX5_stepAt 13 = .ok (.invokevirtual 36, 3) := by decide +kernel
theorem dX5_stepAt_16 : decode cX5_stepAt 16 = .ok (.ireturn, 1) := by decide +kernel
theorem dX5_howMany_0 : decode cX5_howMany 0 = .ok (.aload_n 0, 1) := by decide +kernel
theorem dX5_howMany_1 : decode cX5_howMany 1 = .ok (.getfield 19, 3) := by decide +kernel
theorem dX5_howMany_4 : decode cX5_howMany 4 = .ok (.aload_n 0, 1) := by decide +kernel
theorem dX5_howMany_5 : decode cX5_howMany 5 = .ok (.iload_n 1, 1) := by decide +kernel
theorem dX5_howMany_6 : decode cX5_howMany 6 = .ok (.iload_n 2, 1) := by decide +kernel
theorem dX5_howMany_7 : decode cX5_howMany 7 = .ok (.iload_n 3, 1) := by decide +kernel
theorem dX5_howMany_8 : decode cX5_howMany 8 = .ok (.invokevirtual 23, 3) := by decide +kernel
theorem dX5_howMany_11 : decode cX5_howMany 11 = .ok (.invokevirtual 27, 3) := by decide +kernel
theorem dX5_howMany_14 : decode cX5_howMany 14 = .ok (.istore 4, 2) := by decide +kernel
theorem dX5_howMany_16 : decode cX5_howMany 16 = .ok (.lconst 0, 1) := by decide +kernel
theorem dX5_howMany_17 : decode cX5_howMany 17 = .ok (.lstore 5, 2) := by decide +kernel
theorem dX5_howMany_19 : decode cX5_howMany 19 = .ok (.iconst 0, 1) := by decide +kernel
theorem dX5_howMany_20 : decode cX5_howMany 20 = .ok (.istore 7, 2) := by decide +kernel
theorem dX5_howMany_22 : decode cX5_howMany 22 = .ok (.iload 7, 2) := by decide +kernel
theorem dX5_howMany_24 : decode cX5_howMany 24 = .ok (.aload_n 0, 1) := by decide +kernel
theorem dX5_howMany_25 : decode cX5_howMany 25 = .ok (.getfield 19, 3) := by decide +kernel
theorem dX5_howMany_28 : decode cX5_howMany 28 = .ok (.invokevirtual 40, 3) := by decide +kernel
theorem dX5_howMany_31 : decode cX5_howMany 31 = .ok (.if_icmp .ge 58, 3) := by decide +kernel
theorem dX5_howMany_34 : decode cX5_howMany 34 = .ok (.aload_n 0, 1) := by decide +kernel
theorem dX5_howMany_35 : decode cX5_howMany 35 = .ok (.getfield 19, 3) := by decide +kernel
theorem dX5_howMany_38 : decode cX5_howMany 38 = .ok (.iload 7, 2) := by decide +kernel
theorem dX5_howMany_40 : decode cX5_howMany 40 = .ok (.invokevirtual 44, 3) := by decide +kernel
theorem dX5_howMany_43 : decode cX5_howMany 43 = .ok (.istore 8, 2) := by decide +kernel
theorem dX5_howMany_45 : decode cX5_howMany 45 = .ok (.iload 8, 2) := by decide +kernel
theorem dX5_howMany_47 : decode cX5_howMany 47 = .ok (.iload_n 2, 1) := by decide +kernel
theorem dX5_howMany_48 : decode cX5_howMany 48 = .ok (.iload_n 3, 1) := by decide +kernel
theorem dX5_howMany_49 : decode cX5_howMany 49 = .ok (.invokestatic 47, 3) := by decide +kernel
theorem dX5_howMany_52 : decode cX5_howMany 52 = .ok (.ifCond .eq 31, 3) := by decide +kernel
theorem dX5_howMany_55 : decode cX5_howMany 55 = .ok (.aload_n 0, 1) := by decide +kernel
theorem dX5_howMany_56 : decode cX5_howMany 56 = .ok (.getfield 19, 3) := by decide +kernel
theorem dX5_howMany_59 : decode cX5_howMany 59 = .ok (.iload 8, 2) := by decide +kernel
theorem dX5_howMany_61 : decode cX5_howMany 61 = .ok (.invokevirtual 27, 3) := by decide +kernel
theorem dX5_howMany_64 : decode cX5_howMany 64 = .ok (.iload 4, 2) := by decide +kernel
theorem dX5_howMany_66 : decode cX5_howMany 66 = .ok (.if_icmp .ne 17, 3) := by decide +kernel
theorem dX5_howMany_69 : decode cX5_howMany 69 = .ok (.lload 5, 2) := by decide +kernel
theorem dX5_howMany_71 : decode cX5_howMany 71 = .ok (.aload_n 0, 1) := by decide +kernel
theorem dX5_howMany_72 : decode cX5_howMany 72 = .ok (.getfield 19, 3) := by decide +kernel
theorem dX5_howMany_75 : decode cX5_howMany 75 = .ok (.iload 8, 2) := by decide +kernel
theorem dX5_howMany_77 : decode cX5_howMany 77 = .ok (.invokevirtual 51, 3) := by decide +kernel
theorem dX5_howMany_80 : decode cX5_howMany 80 = .ok (.ladd, 1) := by decide +kernel
theorem dX5_howMany_81 : decode cX5_howMany 81 = .ok (.lstore 5, 2) := by decide +kernel
theorem dX5_howMany_83 : decode cX5_howMany 83 = .ok (.iinc 7 1, 3) := by decide +kernel
theorem dX5_howMany_86 : decode cX5_howMany 86 = .ok (.goto (-64), 3) := by decide +kernel
theorem dX5_howMany_89 : decode cX5_howMany 89 = .ok (.lload 5, 2) := by decide +kernel
theorem dX5_howMany_91 : decode cX5_howMany 91 = .ok (.lreturn, 1) := by decide +kernel
theorem dX5_leastPrints_0 : decode cX5_leastPrints 0 = .ok (.aload_n 0, 1) := by decide +kernel
theorem dX5_leastPrints_1 : decode cX5_leastPrints 1 = .ok (.getfield 19, 3) := by decide +kernel
theorem dX5_leastPrints_4 : decode cX5_leastPrints 4 = .ok (.iload_n 1, 1) := by decide +kernel
theorem dX5_leastPrints_5 : decode cX5_leastPrints 5 = .ok (.invokevirtual 55, 3) := by decide +kernel
theorem dX5_leastPrints_8 : decode cX5_leastPrints 8 = .ok (.aload_n 0, 1) := by decide +kernel
theorem dX5_leastPrints_9 : decode cX5_leastPrints 9 = .ok (.getfield 19, 3) := by decide +kernel
theorem dX5_leastPrints_12 : decode cX5_leastPrints 12 = .ok (.aload_n 0, 1) := by decide +kernel
theorem dX5_leastPrints_13 : decode cX5_leastPrints 13 = .ok (.getfield 15, 3) := by decide +kernel
theorem dX5_leastPrints_16 : decode cX5_leastPrints 16 = .ok (.invokevirtual 59, 3) := by decide +kernel
theorem dX5_leastPrints_19 : decode cX5_leastPrints 19 = .ok (.aload_n 0, 1) := by decide +kernel
theorem dX5_leastPrints_20 : decode cX5_leastPrints 20 = .ok (.getfield 9, 3) := by decide +kernel
theorem dX5_leastPrints_23 : decode cX5_leastPrints 23 = .ok (.ldc 63, 2) := by decide +kernel
theorem dX5_leastPrints_25 : decode cX5_leastPrints 25 = .ok (.invokestatic 64, 3) := by decide +kernel
theorem dX5_leastPrints_28 : decode cX5_leastPrints 28 = .ok (.iload_n 1, 1) := by decide +kernel
theorem dX5_leastPrints_29 : decode cX5_leastPrints 29 = .ok (.ifCond .lt 17, 3) := by decide +kernel
theorem dX5_leastPrints_32 : decode cX5_leastPrints 32 = .ok (.iload_n 1, 1) := by decide +kernel
theorem dX5_leastPrints_33 : decode cX5_leastPrints 33 = .ok (.sipush 600, 3) := by decide +kernel
theorem dX5_leastPrints_36 : decode cX5_leastPrints 36 = .ok (.if_icmp .ge 10, 3) := by decide +kernel
theorem dX5_leastPrints_39 : decode cX5_leastPrints 39 = .ok (.aload_n 0, 1) := by decide +kernel
theorem dX5_leastPrints_40 : decode cX5_leastPrints 40 = .ok (.getfield 9, 3) := by decide +kernel
theorem dX5_leastPrints_43 : decode cX5_leastPrints 43 = .ok (.iload_n 1, 1) := by decide +kernel
theorem dX5_leastPrints_44 : decode cX5_leastPrints 44 = .ok (.iconst 0, 1) := by decide +kernel
theorem dX5_leastPrints_45 : decode cX5_leastPrints 45 = .ok (.iastore, 1) := by decide +kernel
theorem dX5_leastPrints_46 : decode cX5_leastPrints 46 = .ok (.iconst 1, 1) := by decide +kernel
theorem dX5_leastPrints_47 : decode cX5_leastPrints 47 = .ok (.istore 4, 2) := by decide +kernel
theorem dX5_leastPrints_49 : decode cX5_leastPrints 49 = .ok (.iconst 0, 1) := by decide +kernel
theorem dX5_leastPrints_50 : decode cX5_leastPrints 50 = .ok (.istore 5, 2) := by decide +kernel
theorem dX5_leastPrints_52 : decode cX5_leastPrints 52 = .ok (.iload 4, 2) := by decide +kernel
theorem dX5_leastPrints_54 : decode cX5_leastPrints 54 = .ok (.ifCond .eq 23, 3) := by decide +kernel
theorem dX5_leastPrints_57 : decode cX5_leastPrints 57 = .ok (.iload 5, 2) := by decide +kernel
theorem dX5_leastPrints_59 : decode cX5_leastPrints 59 = .ok (.sipush 600, 3) := by decide +kernel
theorem dX5_leastPrints_62 : decode cX5_leastPrints 62 = .ok (.if_icmp .ge 15, 3) := by decide +kernel
theorem dX5_leastPrints_65 : decode cX5_leastPrints 65 = .ok (.aload_n 0, 1) := by decide +kernel
theorem dX5_leastPrints_66 : decode cX5_leastPrints 66 = .ok (.invokevirtual 70, 3) := by decide +kernel
theorem dX5_leastPrints_69 : decode cX5_leastPrints 69 = .ok (.istore 4, 2) := by decide +kernel
theorem dX5_leastPrints_71 : decode cX5_leastPrints 71 = .ok (.iinc 5 1, 3) := by decide +kernel
theorem dX5_leastPrints_74 : decode cX5_leastPrints 74 = .ok (.goto (-22), 3) := by decide +kernel
theorem dX5_leastPrints_77 : decode cX5_leastPrints 77 = .ok (.ldc 63, 2) := by decide +kernel
theorem dX5_leastPrints_79 : decode cX5_leastPrints 79 = .ok (.istore 5, 2) := by decide +kernel
theorem dX5_leastPrints_81 : decode cX5_leastPrints 81 = .ok (.iconst 0, 1) := by decide +kernel
theorem dX5_leastPrints_82 : decode cX5_leastPrints 82 = .ok (.istore 6, 2) := by decide +kernel
theorem dX5_leastPrints_84 : decode cX5_leastPrints 84 = .ok (.iload 6, 2) := by decide +kernel
theorem dX5_leastPrints_86 : decode cX5_leastPrints 86 = .ok (.sipush 600, 3) := by decide +kernel
theorem dX5_leastPrints_89 : decode cX5_leastPrints 89 = .ok (.if_icmp .ge 33, 3) := by decide +kernel
theorem dX5_leastPrints_92 : decode cX5_leastPrints 92 = .ok (.iload 6, 2) := by decide +kernel
theorem dX5_leastPrints_94 : decode cX5_leastPrints 94 = .ok (.iload_n 2, 1) := by decide +kernel
theorem dX5_leastPrints_95 : decode cX5_leastPrints 95 = .ok (.iload_n 3, 1) := by decide +kernel
theorem dX5_leastPrints_96 : decode cX5_leastPrints 96 = .ok (.invokestatic 47, 3) := by decide +kernel
theorem dX5_leastPrints_99 : decode cX5_leastPrints 99 = .ok (.ifCond .eq 17, 3) := by decide +kernel
theorem dX5_leastPrints_102 : decode cX5_leastPrints 102 = .ok (.iload 5, 2) := by decide +kernel
theorem dX5_leastPrints_104 : decode cX5_leastPrints 104 = .ok (.aload_n 0, 1) := by decide +kernel
theorem dX5_leastPrints_105 : decode cX5_leastPrints 105 = .ok (.getfield 9, 3) := by decide +kernel
theorem dX5_leastPrints_108 : decode cX5_leastPrints 108 = .ok (.iload 6, 2) := by decide +kernel
theorem dX5_leastPrints_110 : decode cX5_leastPrints 110 = .ok (.iaload, 1) := by decide +kernel
theorem dX5_leastPrints_111 : decode cX5_leastPrints 111 = .ok (.invokestatic 74, 3) := by decide +kernel
theorem dX5_leastPrints_114 : decode cX5_leastPrints 114 = .ok (.istore 5, 2) := by decide +kernel
theorem dX5_leastPrints_116 : decode cX5_leastPrints 116 = .ok (.iinc 6 1, 3) := by decide +kernel
theorem dX5_leastPrints_119 : decode cX5_leastPrints 119 = .ok (.goto (-35), 3) := by decide +kernel
theorem dX5_leastPrints_122 : decode cX5_leastPrints 122 = .ok (.iload 5, 2) := by decide +kernel
theorem dX5_leastPrints_124 : decode cX5_leastPrints 124 = .ok (.ldc 63, 2) := by decide +kernel
theorem dX5_leastPrints_126 : decode cX5_leastPrints 126 = .ok (.if_icmp .ne 8, 3) := by decide +kernel
theorem dX5_leastPrints_129 : decode cX5_leastPrints 129 = .ok (.bipush (-9), 2) := by decide +kernel
theorem dX5_leastPrints_131 : decode cX5_leastPrints 131 = .ok (.goto 5, 3) := by decide +kernel
theorem dX5_leastPrints_134 : decode cX5_leastPrints 134 = .ok (.iload 5, 2) := by decide +kernel
theorem dX5_leastPrints_136 : decode cX5_leastPrints 136 = .ok (.ireturn, 1) := by decide +kernel
theorem dX5_lowerCosts_0 : decode cX5_lowerCosts 0 = .ok (.iconst 0, 1) := by decide +kernel
theorem dX5_lowerCosts_1 : decode cX5_lowerCosts 1 = .ok (.istore_n 1, 1) := by decide +kernel
theorem dX5_lowerCosts_2 : decode cX5_lowerCosts 2 = .ok (.iconst 0, 1) := by decide +kernel
theorem dX5_lowerCosts_3 : decode cX5_lowerCosts 3 = .ok (.istore_n 2, 1) := by decide +kernel
theorem dX5_lowerCosts_4 : decode cX5_lowerCosts 4 = .ok (.iload_n 2, 1) := by decide +kernel
theorem dX5_lowerCosts_5 : decode cX5_lowerCosts 5 = .ok (.aload_n 0, 1) := by decide +kernel
theorem dX5_lowerCosts_6 : decode cX5_lowerCosts 6 = .ok (.getfield 19, 3) := by decide +kernel
theorem dX5_lowerCosts_9 : decode cX5_lowerCosts 9 = .ok (.invokevirtual 40, 3) := by decide +kernel
theorem dX5_lowerCosts_12 : decode cX5_lowerCosts 12 = .ok (.if_icmp .ge 53, 3) := by decide +kernel
theorem dX5_lowerCosts_15 : decode cX5_lowerCosts 15 = .ok (.aload_n 0, 1) := by decide +kernel
theorem dX5_lowerCosts_16 : decode cX5_lowerCosts 16 = .ok (.getfield 19, 3) := by decide +kernel
theorem dX5_lowerCosts_19 : decode cX5_lowerCosts 19 = .ok (.iload_n 2, 1) := by decide +kernel
theorem dX5_lowerCosts_20 : decode cX5_lowerCosts 20 = .ok (.invokevirtual 44, 3) := by decide +kernel
theorem dX5_lowerCosts_23 : decode cX5_lowerCosts 23 = .ok (.istore_n 3, 1) := by decide +kernel
theorem dX5_lowerCosts_24 : decode cX5_lowerCosts 24 = .ok (.iconst 0, 1) := by decide +kernel
theorem dX5_lowerCosts_25 : decode cX5_lowerCosts 25 = .ok (.istore 4, 2) := by decide +kernel
theorem dX5_lowerCosts_27 : decode cX5_lowerCosts 27 = .ok (.iload 4, 2) := by decide +kernel
theorem dX5_lowerCosts_29 : decode cX5_lowerCosts 29 = .ok (.iconst 4, 1) := by decide +kernel
theorem dX5_lowerCosts_30 : decode cX5_lowerCosts 30 = .ok (.if_icmp .ge 29, 3) := by decide +kernel
theorem dX5_lowerCosts_33 : decode cX5_lowerCosts 33 = .ok (.aload_n 0, 1) := by decide +kernel
theorem dX5_lowerCosts_34 : decode cX5_lowerCosts 34 = .ok (.iload_n 3, 1) := by decide +kernel
theorem dX5_lowerCosts_35 : decode cX5_lowerCosts 35 = .ok (.aload_n 0, 1) := by decide +kernel
theorem dX5_lowerCosts_36 : decode cX5_lowerCosts 36 = .ok (.getfield 15, 3) := by decide +kernel
theorem dX5_lowerCosts_39 : decode cX5_lowerCosts 39 = .ok (.iload_n 3, 1) := by decide +kernel
theorem dX5_lowerCosts_40 : decode cX5_lowerCosts 40 = .ok (.iload 4, 2) := by decide +kernel
theorem dX5_lowerCosts_42 : decode cX5_lowerCosts 42 = .ok (.invokevirtual 79, 3) := by decide +kernel
theorem dX5_lowerCosts_45 : decode cX5_lowerCosts 45 = .ok (.invokevirtual 84, 3) := by decide +kernel
theorem dX5_lowerCosts_48 : decode cX5_lowerCosts 48 = .ok (.ifCond .eq 5, 3) := by decide +kernel
theorem dX5_lowerCosts_51 : decode cX5_lowerCosts 51 = .ok (.iconst 1, 1) := by decide +kernel
theorem dX5_lowerCosts_52 : decode cX5_lowerCosts 52 = .ok (.istore_n 1, 1) := by decide +kernel
theorem dX5_lowerCosts_53 : decode cX5_lowerCosts 53 = .ok (.iinc 4 1, 3) := by decide +kernel
theorem dX5_lowerCosts_56 : decode cX5_lowerCosts 56 = .ok (.goto (-29), 3) := by decide +kernel
theorem dX5_lowerCosts_59 : decode cX5_lowerCosts 59 = .ok (.iinc 2 1, 3) := by decide +kernel
theorem dX5_lowerCosts_62 : decode cX5_lowerCosts 62 = .ok (.goto (-58), 3) := by decide +kernel
theorem dX5_lowerCosts_65 : decode cX5_lowerCosts 65 = .ok (.iload_n 1, 1) := by decide +kernel
theorem dX5_lowerCosts_66 : decode cX5_lowerCosts 66 = .ok (.ireturn, 1) := by decide +kernel
theorem dX5_lowerCost_0 : decode cX5_lowerCost 0 = .ok (.iload_n 1, 1) := by decide +kernel
theorem dX5_lowerCost_1 : decode cX5_lowerCost 1 = .ok (.ifCond .lt 21, 3) := by decide +kernel
theorem dX5_lowerCost_4 : decode cX5_lowerCost 4 = .ok (.iload_n 1, 1) := by decide +kernel
theorem dX5_lowerCost_5 : decode cX5_lowerCost 5 = .ok (.sipush 600, 3) := by decide +kernel
theorem dX5_lowerCost_8 : decode cX5_lowerCost 8 = .ok (.if_icmp .ge 14, 3) := by decide +kernel
theorem dX5_lowerCost_11 : decode cX5_lowerCost 11 = .ok (.iload_n 2, 1) := by decide +kernel
theorem dX5_lowerCost_12 : decode cX5_lowerCost 12 = .ok (.ifCond .lt 10, 3) := by decide +kernel
theorem dX5_lowerCost_15 : decode cX5_lowerCost 15 = .ok (.iload_n 2, 1) := by decide +kernel
theorem dX5_lowerCost_16 : decode cX5_lowerCost 16 = .ok (.sipush 600, 3) := by decide +kernel
theorem dX5_lowerCost_19 : decode cX5_lowerCost 19 = .ok (.if_icmp .lt 5, 3) := by decide +kernel
theorem dX5_lowerCost_22 : decode cX5_lowerCost 22 = .ok (.iconst 0, 1) := by decide +kernel
theorem dX5_lowerCost_23 : decode cX5_lowerCost 23 = .ok (.ireturn, 1) := by decide +kernel
theorem dX5_lowerCost_24 : decode cX5_lowerCost 24 = .ok (.aload_n 0, 1) := by decide +kernel
theorem dX5_lowerCost_25 : decode cX5_lowerCost 25 = .ok (.getfield 9, 3) := by decide +kernel
theorem dX5_lowerCost_28 : decode cX5_lowerCost 28 = .ok (.iload_n 1, 1) := by decide +kernel
theorem dX5_lowerCost_29 : decode cX5_lowerCost 29 = .ok (.iaload, 1) := by decide +kernel
theorem dX5_lowerCost_30 : decode cX5_lowerCost 30 = .ok (.iload_n 2, 1) := by decide +kernel
theorem dX5_lowerCost_31 : decode cX5_lowerCost 31 = .ok (.invokestatic 88, 3) := by decide +kernel
theorem dX5_lowerCost_34 : decode cX5_lowerCost 34 = .ok (.iadd, 1) := by decide +kernel
theorem dX5_lowerCost_35 : decode cX5_lowerCost 35 = .ok (.istore_n 3, 1) := by decide +kernel
theorem dX5_lowerCost_36 : decode cX5_lowerCost 36 = .ok (.iload_n 3, 1) := by decide +kernel
theorem dX5_lowerCost_37 : decode cX5_lowerCost 37 = .ok (.aload_n 0, 1) := by decide +kernel
theorem dX5_lowerCost_38 : decode cX5_lowerCost 38 = .ok (.getfield 9, 3) := by decide +kernel
theorem dX5_lowerCost_41 : decode cX5_lowerCost 41 = .ok (.iload_n 2, 1) := by decide +kernel
theorem dX5_lowerCost_42 : decode cX5_lowerCost 42 = .ok (.iaload, 1) := by decide +kernel
theorem dX5_lowerCost_43 : decode cX5_lowerCost 43 = .ok (.if_icmp .lt 5, 3) := by decide +kernel
theorem dX5_lowerCost_46 : decode cX5_lowerCost 46 = .ok (.iconst 0, 1) := by decide +kernel
theorem dX5_lowerCost_47 : decode cX5_lowerCost 47 = .ok (.ireturn, 1) := by decide +kernel
theorem dX5_lowerCost_48 : decode cX5_lowerCost 48 = .ok (.aload_n 0, 1) := by decide +kernel
theorem dX5_lowerCost_49 : decode cX5_lowerCost 49 = .ok (.getfield 9, 3) := by decide +kernel
theorem dX5_lowerCost_52 : decode cX5_lowerCost 52 = .ok (.iload_n 2, 1) := by decide +kernel
theorem dX5_lowerCost_53 : decode cX5_lowerCost 53 = .ok (.iload_n 3, 1) := by decide +kernel
theorem dX5_lowerCost_54 : decode cX5_lowerCost 54 = .ok (.iastore, 1) := by decide +kernel
theorem dX5_lowerCost_55 : decode cX5_lowerCost 55 = .ok (.iconst 1, 1) := by decide +kernel
theorem dX5_lowerCost_56 : decode cX5_lowerCost 56 = .ok (.ireturn, 1) := by decide +kernel
theorem dX5_stancesAt_0 : decode cX5_stancesAt 0 = .ok (.aload_n 0, 1) := by decide +kernel
theorem dX5_stancesAt_1 : decode cX5_stancesAt 1 = .ok (.getfield 19, 3) := by decide +kernel
theorem dX5_stancesAt_4 : decode cX5_stancesAt 4 = .ok (.iload_n 1, 1) := by decide +kernel
theorem dX5_stancesAt_5 : decode cX5_stancesAt 5 = .ok (.invokevirtual 55, 3) := by decide +kernel
theorem dX5_stancesAt_8 : decode cX5_stancesAt 8 = .ok (.aload_n 0, 1) := by decide +kernel
theorem dX5_stancesAt_9 : decode cX5_stancesAt 9 = .ok (.getfield 19, 3) := by decide +kernel
theorem dX5_stancesAt_12 : decode cX5_stancesAt 12 = .ok (.aload_n 0, 1) := by decide +kernel
theorem dX5_stancesAt_13 : decode cX5_stancesAt 13 = .ok (.getfield 15, 3) := by decide +kernel
theorem dX5_stancesAt_16 : decode cX5_stancesAt 16 = .ok (.invokevirtual 59, 3) := by decide +kernel
theorem dX5_stancesAt_19 : decode cX5_stancesAt 19 = .ok (.iconst 0, 1) := by decide +kernel
theorem dX5_stancesAt_20 : decode cX5_stancesAt 20 = .ok (.istore_n 3, 1) := by decide +kernel
theorem dX5_stancesAt_21 : decode cX5_stancesAt 21 = .ok (.iconst 0, 1) := by decide +kernel
theorem dX5_stancesAt_22 : decode cX5_stancesAt 22 = .ok (.istore 4, 2) := by decide +kernel
theorem dX5_stancesAt_24 : decode cX5_stancesAt 24 = .ok (.iload 4, 2) := by decide +kernel
theorem dX5_stancesAt_26 : decode cX5_stancesAt 26 = .ok (.aload_n 0, 1) := by decide +kernel
theorem dX5_stancesAt_27 : decode cX5_stancesAt 27 = .ok (.getfield 19, 3) := by decide +kernel
theorem dX5_stancesAt_30 : decode cX5_stancesAt 30 = .ok (.invokevirtual 40, 3) := by decide +kernel
theorem dX5_stancesAt_33 : decode cX5_stancesAt 33 = .ok (.if_icmp .ge 36, 3) := by decide +kernel
theorem dX5_stancesAt_36 : decode cX5_stancesAt 36 = .ok (.iload_n 3, 1) := by decide +kernel
theorem dX5_stancesAt_37 : decode cX5_stancesAt 37 = .ok (.aload_n 0, 1) := by decide +kernel
theorem dX5_stancesAt_38 : decode cX5_stancesAt 38 = .ok (.getfield 19, 3) := by decide +kernel
theorem dX5_stancesAt_41 : decode cX5_stancesAt 41 = .ok (.iload 4, 2) := by decide +kernel
theorem dX5_stancesAt_43 : decode cX5_stancesAt 43 = .ok (.invokevirtual 44, 3) := by decide +kernel
theorem dX5_stancesAt_46 : decode cX5_stancesAt 46 = .ok (.invokestatic 91, 3) := by decide +kernel
theorem dX5_stancesAt_49 : decode cX5_stancesAt 49 = .ok (.iload_n 2, 1) := by decide +kernel
theorem dX5_stancesAt_50 : decode cX5_stancesAt 50 = .ok (.if_icmp .ne 7, 3) := by decide +kernel
theorem dX5_stancesAt_53 : decode cX5_stancesAt 53 = .ok (.iconst 1, 1) := by decide +kernel
theorem dX5_stancesAt_54 : decode cX5_stancesAt 54 = .ok (.goto 4, 3) := by decide +kernel
theorem dX5_stancesAt_57 : decode cX5_stancesAt 57 = .ok (.iconst 0, 1) := by decide +kernel
theorem dX5_stancesAt_58 : decode cX5_stancesAt 58 = .ok (.invokestatic 94, 3) := by decide +kernel
theorem dX5_stancesAt_61 : decode cX5_stancesAt 61 = .ok (.iadd, 1) := by decide +kernel
theorem dX5_stancesAt_62 : decode cX5_stancesAt 62 = .ok (.istore_n 3, 1) := by decide +kernel
theorem dX5_stancesAt_63 : decode cX5_stancesAt 63 = .ok (.iinc 4 1, 3) := by decide +kernel
theorem dX5_stancesAt_66 : decode cX5_stancesAt 66 = .ok (.goto (-42), 3) := by decide +kernel
theorem dX5_stancesAt_69 : decode cX5_stancesAt 69 = .ok (.iload_n 3, 1) := by decide +kernel
theorem dX5_stancesAt_70 : decode cX5_stancesAt 70 = .ok (.ireturn, 1) := by decide +kernel
theorem dX5_cellsReached_0 : decode cX5_cellsReached 0 = .ok (.aload_n 0, 1) := by decide +kernel
theorem dX5_cellsReached_1 : decode cX5_cellsReached 1 = .ok (.getfield 19, 3) := by decide +kernel
theorem dX5_cellsReached_4 : decode cX5_cellsReached 4 = .ok (.iload_n 1, 1) := by decide +kernel
theorem dX5_cellsReached_5 : decode cX5_cellsReached 5 = .ok (.invokevirtual 55, 3) := by decide +kernel
theorem dX5_cellsReached_8 : decode cX5_cellsReached 8 = .ok (.aload_n 0, 1) := by decide +kernel
theorem dX5_cellsReached_9 : decode cX5_cellsReached 9 = .ok (.getfield 19, 3) := by decide +kernel
theorem dX5_cellsReached_12 : decode cX5_cellsReached 12 = .ok (.aload_n 0, 1) := by decide +kernel
theorem dX5_cellsReached_13 : decode cX5_cellsReached 13 = .ok (.getfield 15, 3) := by decide +kernel
theorem dX5_cellsReached_16 : decode cX5_cellsReached 16 = .ok (.invokevirtual 59, 3) := by decide +kernel
theorem dX5_cellsReached_19 : decode cX5_cellsReached 19 = .ok (.iconst 0, 1) := by decide +kernel
theorem dX5_cellsReached_20 : decode cX5_cellsReached 20 = .ok (.istore_n 2, 1) := by decide +kernel
theorem dX5_cellsReached_21 : decode cX5_cellsReached 21 = .ok (.iconst 0, 1) := by decide +kernel
theorem dX5_cellsReached_22 : decode cX5_cellsReached 22 = .ok (.istore_n 3, 1) := by decide +kernel
theorem dX5_cellsReached_23 : decode cX5_cellsReached 23 = .ok (.iload_n 3, 1) := by decide +kernel
theorem dX5_cellsReached_24 : decode cX5_cellsReached 24 = .ok (.aload_n 0, 1) := by decide +kernel
theorem dX5_cellsReached_25 : decode cX5_cellsReached 25 = .ok (.getfield 19, 3) := by decide +kernel
theorem dX5_cellsReached_28 : decode cX5_cellsReached 28 = .ok (.invokevirtual 40, 3) := by decide +kernel
theorem dX5_cellsReached_31 : decode cX5_cellsReached 31 = .ok (.if_icmp .ge 25, 3) := by decide +kernel
theorem dX5_cellsReached_34 : decode cX5_cellsReached 34 = .ok (.iload_n 2, 1) := by decide +kernel
theorem dX5_cellsReached_35 : decode cX5_cellsReached 35 = .ok (.iconst 1, 1) := by decide +kernel
theorem dX5_cellsReached_36 : decode cX5_cellsReached 36 = .ok (.aload_n 0, 1) := by decide +kernel
theorem dX5_cellsReached_37 : decode cX5_cellsReached 37 = .ok (.getfield 19, 3) := by decide +kernel
theorem dX5_cellsReached_40 : decode cX5_cellsReached 40 = .ok (.iload_n 3, 1) := by decide +kernel
theorem dX5_cellsReached_41 : decode cX5_cellsReached 41 = .ok (.invokevirtual 44, 3) := by decide +kernel
theorem dX5_cellsReached_44 : decode cX5_cellsReached 44 = .ok (.invokestatic 91, 3) := by decide +kernel
theorem dX5_cellsReached_47 : decode cX5_cellsReached 47 = .ok (.ishl, 1) := by decide +kernel
theorem dX5_cellsReached_48 : decode cX5_cellsReached 48 = .ok (.ior, 1) := by decide +kernel
theorem dX5_cellsReached_49 : decode cX5_cellsReached 49 = .ok (.istore_n 2, 1) := by decide +kernel
theorem dX5_cellsReached_50 : decode cX5_cellsReached 50 = .ok (.iinc 3 1, 3) := by decide +kernel
theorem dX5_cellsReached_53 : decode cX5_cellsReached 53 = .ok (.goto (-30), 3) := by decide +kernel
theorem dX5_cellsReached_56 : decode cX5_cellsReached 56 = .ok (.iload_n 2, 1) := by decide +kernel
theorem dX5_cellsReached_57 : decode cX5_cellsReached 57 = .ok (.invokestatic 98, 3) := by decide +kernel
theorem dX5_cellsReached_60 : decode cX5_cellsReached 60 = .ok (.ireturn, 1) := by decide +kernel
theorem dX5_endOf_0 : decode cX5_endOf 0 = .ok (.aload_n 0, 1) := by decide +kernel
theorem dX5_endOf_1 : decode cX5_endOf 1 = .ok (.getfield 19, 3) := by decide +kernel
theorem dX5_endOf_4 : decode cX5_endOf 4 = .ok (.iload_n 1, 1) := by decide +kernel
theorem dX5_endOf_5 : decode cX5_endOf 5 = .ok (.invokevirtual 55, 3) := by decide +kernel
theorem dX5_endOf_8 : decode cX5_endOf 8 = .ok (.aload_n 0, 1) := by decide +kernel
theorem dX5_endOf_9 : decode cX5_endOf 9 = .ok (.getfield 19, 3) := by decide +kernel
theorem dX5_endOf_12 : decode cX5_endOf 12 = .ok (.aload_n 0, 1) := by decide +kernel
theorem dX5_endOf_13 : decode cX5_endOf 13 = .ok (.getfield 15, 3) := by decide +kernel
theorem dX5_endOf_16 : decode cX5_endOf 16 = .ok (.invokevirtual 59, 3) := by decide +kernel
theorem dX5_endOf_19 : decode cX5_endOf 19 = .ok (.iconst 0, 1) := by decide +kernel
theorem dX5_endOf_20 : decode cX5_endOf 20 = .ok (.istore 4, 2) := by decide +kernel
theorem dX5_endOf_22 : decode cX5_endOf 22 = .ok (.iload 4, 2) := by decide +kernel
theorem dX5_endOf_24 : decode cX5_endOf 24 = .ok (.aload_n 0, 1) := by decide +kernel
theorem dX5_endOf_25 : decode cX5_endOf 25 = .ok (.getfield 19, 3) := by decide +kernel
theorem dX5_endOf_28 : decode cX5_endOf 28 = .ok (.invokevirtual 40, 3) := by decide +kernel
theorem dX5_endOf_31 : decode cX5_endOf 31 = .ok (.if_icmp .ge 33, 3) := by decide +kernel
theorem dX5_endOf_34 : decode cX5_endOf 34 = .ok (.aload_n 0, 1) := by decide +kernel
theorem dX5_endOf_35 : decode cX5_endOf 35 = .ok (.getfield 19, 3) := by decide +kernel
theorem dX5_endOf_38 : decode cX5_endOf 38 = .ok (.iload 4, 2) := by decide +kernel
theorem dX5_endOf_40 : decode cX5_endOf 40 = .ok (.invokevirtual 44, 3) := by decide +kernel
theorem dX5_endOf_43 : decode cX5_endOf 43 = .ok (.istore 5, 2) := by decide +kernel
theorem dX5_endOf_45 : decode cX5_endOf 45 = .ok (.iload 5, 2) := by decide +kernel
theorem dX5_endOf_47 : decode cX5_endOf 47 = .ok (.iload_n 2, 1) := by decide +kernel
theorem dX5_endOf_48 : decode cX5_endOf 48 = .ok (.iload_n 3, 1) := by decide +kernel
theorem dX5_endOf_49 : decode cX5_endOf 49 = .ok (.invokestatic 47, 3) := by decide +kernel
theorem dX5_endOf_52 : decode cX5_endOf 52 = .ok (.ifCond .eq 6, 3) := by decide +kernel
theorem dX5_endOf_55 : decode cX5_endOf 55 = .ok (.iload 5, 2) := by decide +kernel
theorem dX5_endOf_57 : decode cX5_endOf 57 = .ok (.ireturn, 1) := by decide +kernel
theorem dX5_endOf_58 : decode cX5_endOf 58 = .ok (.iinc 4 1, 3) := by decide +kernel
theorem dX5_endOf_61 : decode cX5_endOf 61 = .ok (.goto (-39), 3) := by decide +kernel
theorem dX5_endOf_64 : decode cX5_endOf 64 = .ok (.iconst (-1), 1) := by decide +kernel
theorem dX5_endOf_65 : decode cX5_endOf 65 = .ok (.ireturn, 1) := by decide +kernel
theorem dX5_meets_0 : decode cX5_meets 0 = .ok (.iload_n 0, 1) := by decide +kernel
theorem dX5_meets_1 : decode cX5_meets 1 = .ok (.invokestatic 91, 3) := by decide +kernel
theorem dX5_meets_4 : decode cX5_meets 4 = .ok (.iload_n 1, 1) := by decide +kernel
theorem dX5_meets_5 : decode cX5_meets 5 = .ok (.if_icmp .ne 18, 3) := by decide +kernel
theorem dX5_meets_8 : decode cX5_meets 8 = .ok (.iload_n 0, 1) := by decide +kernel
theorem dX5_meets_9 : decode cX5_meets 9 = .ok (.invokestatic 103, 3) := by decide +kernel
theorem dX5_meets_12 : decode cX5_meets 12 = .ok (.iload_n 2, 1) := by decide +kernel
theorem dX5_meets_13 : decode cX5_meets 13 = .ok (.invokestatic 106, 3) := by decide +kernel
theorem dX5_meets_16 : decode cX5_meets 16 = .ok (.ifCond .eq 7, 3) := by decide +kernel
theorem dX5_meets_19 : decode cX5_meets 19 = .ok (.iconst 1, 1) := by decide +kernel
theorem dX5_meets_20 : decode cX5_meets 20 = .ok (.goto 4, 3) := by decide +kernel
theorem dX5_meets_23 : decode cX5_meets 23 = .ok (.iconst 0, 1) := by decide +kernel
theorem dX5_meets_24 : decode cX5_meets 24 = .ok (.ireturn, 1) := by decide +kernel
theorem dX6_init_0 : decode cX6_init 0 = .ok (.aload_n 0, 1) := by decide +kernel
theorem dX6_init_1 : decode cX6_init 1 = .ok (.invokespecial 1, 3) := by decide +kernel
theorem dX6_init_4 : decode cX6_init 4 = .ok (.return_, 1) := by decide +kernel
theorem dX7_init_0 : decode cX7_init 0 = .ok (.aload_n 0, 1) := by decide +kernel
theorem dX7_init_1 : decode cX7_init 1 = .ok (.invokespecial 3, 3) := by decide +kernel
theorem dX7_init_4 : decode cX7_init 4 = .ok (.aload_n 0, 1) := by decide +kernel
theorem dX7_init_5 : decode cX7_init 5 = .ok (.bipush 20, 2) := by decide +kernel
theorem dX7_init_7 : decode cX7_init 7 = .ok (.newarray .int, 2) := by decide +kernel
theorem dX7_init_9 : decode cX7_init 9 = .ok (.putfield 9, 3) := by decide +kernel
theorem dX7_init_12 : decode cX7_init 12 = .ok (.aload_n 0, 1) := by decide +kernel
theorem dX7_init_13 : decode cX7_init 13 = .ok (.bipush 20, 2) := by decide +kernel
theorem dX7_init_15 : decode cX7_init 15 = .ok (.newarray .int, 2) := by decide +kernel
theorem dX7_init_17 : decode cX7_init 17 = .ok (.putfield 15, 3) := by decide +kernel
theorem dX7_init_20 : decode cX7_init 20 = .ok (.aload_n 0, 1) := by decide +kernel
theorem dX7_init_21 : decode cX7_init 21 = .ok (.bipush 28, 2) := by decide +kernel
theorem dX7_init_23 : decode cX7_init 23 = .ok (.newarray .int, 2) := by decide +kernel
theorem dX7_init_25 : decode cX7_init 25 = .ok (.putfield 18, 3) := by decide +kernel
theorem dX7_init_28 : decode cX7_init 28 = .ok (.aload_n 0, 1) := by decide +kernel
theorem dX7_init_29 : decode cX7_init 29 = .ok (.aload_n 1, 1) := by decide +kernel
theorem dX7_init_30 : decode cX7_init 30 = .ok (.putfield 21, 3) := by decide +kernel
theorem dX7_init_33 : decode cX7_init 33 = .ok (.aload_n 0, 1) := by decide +kernel
theorem dX7_init_34 : decode cX7_init 34 = .ok (.aload_n 2, 1) := by decide +kernel
theorem dX7_init_35 : decode cX7_init 35 = .ok (.putfield 25, 3) := by decide +kernel
theorem dX7_init_38 : decode cX7_init 38 = .ok (.return_, 1) := by decide +kernel
theorem dX7_length_0 : decode cX7_length 0 = .ok (.aload_n 0, 1) := by decide +kernel
theorem dX7_length_1 : decode cX7_length 1 = .ok (.getfield 29, 3) := by decide +kernel
theorem dX7_length_4 : decode cX7_length 4 = .ok (.ireturn, 1) := by decide +kernel
theorem dX7_append_0 : decode cX7_append 0 = .ok (.aload_n 0, 1) := by decide +kernel
theorem dX7_append_1 : decode cX7_append 1 = .ok (.getfield 29, 3) := by decide +kernel
theorem dX7_append_4 : decode cX7_append 4 = .ok (.bipush 20, 2) := by decide +kernel
theorem dX7_append_6 : decode cX7_append 6 = .ok (.if_icmp .ge 33, 3) := by decide +kernel
theorem dX7_append_9 : decode cX7_append 9 = .ok (.aload_n 0, 1) := by decide +kernel
theorem dX7_append_10 : decode cX7_append 10 = .ok (.getfield 9, 3) := by decide +kernel
theorem dX7_append_13 : decode cX7_append 13 = .ok (.aload_n 0, 1) := by decide +kernel
theorem dX7_append_14 : decode cX7_append 14 = .ok (.getfield 29, 3) := by decide +kernel
theorem dX7_append_17 : decode cX7_append 17 = .ok (.iload_n 1, 1) := by decide +kernel
theorem dX7_append_18 : decode cX7_append 18 = .ok (.iastore, 1) := by decide +kernel
theorem dX7_append_19 : decode cX7_append 19 = .ok (.aload_n 0, 1) := by decide +kernel
theorem dX7_append_20 : decode cX7_append 20 = .ok (.getfield 15, 3) := by decide +kernel
theorem dX7_append_23 : decode cX7_append 23 = .ok (.aload_n 0, 1) := by decide +kernel
theorem dX7_append_24 : decode cX7_append 24 = .ok (.getfield 29, 3) := by decide +kernel
theorem dX7_append_27 : decode cX7_append 27 = .ok (.iload_n 2, 1) := by decide +kernel
theorem dX7_append_28 : decode cX7_append 28 = .ok (.iastore, 1) := by decide +kernel
theorem dX7_append_29 : decode cX7_append 29 = .ok (.aload_n 0, 1) := by decide +kernel
theorem dX7_append_30 : decode cX7_append 30 = .ok (.dup, 1) := by decide +kernel
theorem dX7_append_31 : decode cX7_append 31 = .ok (.getfield 29, 3) := by decide +kernel
theorem dX7_append_34 : decode cX7_append 34 = .ok (.iconst 1, 1) := by decide +kernel
theorem dX7_append_35 : decode cX7_append 35 = .ok (.iadd, 1) := by decide +kernel
theorem dX7_append_36 : decode cX7_append 36 = .ok (.putfield 29, 3) := by decide +kernel
theorem dX7_append_39 : decode cX7_append 39 = .ok (.aload_n 0, 1) := by decide +kernel
theorem dX7_append_40 : decode cX7_append 40 = .ok (.getfield 29, 3) := by decide +kernel
theorem dX7_append_43 : decode cX7_append 43 = .ok (.ireturn, 1) := by decide +kernel
theorem dX7_drop_0 : decode cX7_drop 0 = .ok (.aload_n 0, 1) := by decide +kernel
theorem dX7_drop_1 : decode cX7_drop 1 = .ok (.getfield 29, 3) := by decide +kernel
theorem dX7_drop_4 : decode cX7_drop 4 = .ok (.istore_n 1, 1) := by decide +kernel
theorem dX7_drop_5 : decode cX7_drop 5 = .ok (.aload_n 0, 1) := by decide +kernel
theorem dX7_drop_6 : decode cX7_drop 6 = .ok (.iconst 0, 1) := by decide +kernel
theorem dX7_drop_7 : decode cX7_drop 7 = .ok (.putfield 29, 3) := by decide +kernel
theorem dX7_drop_10 : decode cX7_drop 10 = .ok (.iload_n 1, 1) := by decide +kernel
theorem dX7_drop_11 : decode cX7_drop 11 = .ok (.ireturn, 1) := by decide +kernel
theorem dX7_fitting_0 : decode cX7_fitting 0 = .ok (.iconst 0, 1) := by decide +kernel
theorem dX7_fitting_1 : decode cX7_fitting 1 = .ok (.istore_n 1, 1) := by decide +kernel
theorem dX7_fitting_2 : decode cX7_fitting 2 = .ok (.iconst 0, 1) := by decide +kernel
theorem dX7_fitting_3 : decode cX7_fitting 3 = .ok (.istore_n 2, 1) := by decide +kernel
theorem dX7_fitting_4 : decode cX7_fitting 4 = .ok (.iload_n 2, 1) := by decide +kernel
theorem dX7_fitting_5 : decode cX7_fitting 5 = .ok (.aload_n 0, 1) := by decide +kernel
theorem dX7_fitting_6 : decode cX7_fitting 6 = .ok (.invokevirtual 33, 3) := by decide +kernel
theorem dX7_fitting_9 : decode cX7_fitting 9 = .ok (.if_icmp .ge 29, 3) := by decide +kernel
theorem dX7_fitting_12 : decode cX7_fitting 12 = .ok (.iload_n 1, 1) := by decide +kernel
theorem dX7_fitting_13 : decode cX7_fitting 13 = .ok (.aload_n 0, 1) := by decide +kernel
theorem dX7_fitting_14 : decode cX7_fitting 14 = .ok (.iload_n 2, 1) := by decide +kernel
theorem dX7_fitting_15 : decode cX7_fitting 15 = .ok (.invokevirtual 37, 3) := by decide +kernel
theorem dX7_fitting_18 : decode cX7_fitting 18 = .ok (.iconst (-1), 1) := by decide +kernel
theorem dX7_fitting_19 : decode cX7_fitting 19 = .ok (.if_icmp .eq 7, 3) := by decide +kernel
theorem dX7_fitting_22 : decode cX7_fitting 22 = .ok (.iconst 1, 1) := by decide +kernel
theorem dX7_fitting_23 : decode cX7_fitting 23 = .ok (.goto 4, 3) := by decide +kernel
theorem dX7_fitting_26 : decode cX7_fitting 26 = .ok (.iconst 0, 1) := by decide +kernel
theorem dX7_fitting_27 : decode cX7_fitting 27 = .ok (.invokestatic 41, 3) := by decide +kernel
theorem dX7_fitting_30 : decode cX7_fitting 30 = .ok (.iadd, 1) := by decide +kernel
theorem dX7_fitting_31 : decode cX7_fitting 31 = .ok (.istore_n 1, 1) := by decide +kernel
theorem dX7_fitting_32 : decode cX7_fitting 32 = .ok (.iinc 2 1, 3) := by decide +kernel
theorem dX7_fitting_35 : decode cX7_fitting 35 = .ok (.goto (-31), 3) := by decide +kernel
theorem dX7_fitting_38 : decode cX7_fitting 38 = .ok (.iload_n 1, 1) := by decide +kernel
theorem dX7_fitting_39 : decode cX7_fitting 39 = .ok (.ireturn, 1) := by decide +kernel
theorem dX7_fittingAt_0 : decode cX7_fittingAt 0 = .ok (.iconst 0, 1) := by decide +kernel
theorem dX7_fittingAt_1 : decode cX7_fittingAt 1 = .ok (.istore_n 2, 1) := by decide +kernel
theorem dX7_fittingAt_2 : decode cX7_fittingAt 2 = .ok (.iconst 0, 1) := by decide +kernel
theorem dX7_fittingAt_3 : decode cX7_fittingAt 3 = .ok (.istore_n 3, 1) := by decide +kernel
theorem dX7_fittingAt_4 : decode cX7_fittingAt 4 = .ok (.iload_n 3, 1) := by decide +kernel
theorem dX7_fittingAt_5 : decode cX7_fittingAt 5 = .ok (.aload_n 0, 1) := by decide +kernel
theorem dX7_fittingAt_6 : decode cX7_fittingAt 6 = .ok (.invokevirtual 33, 3) := by decide +kernel
theorem dX7_fittingAt_9 : decode cX7_fittingAt 9 = .ok (.if_icmp .ge 31, 3) := by decide +kernel
theorem dX7_fittingAt_12 : decode cX7_fittingAt 12 = .ok (.aload_n 0, 1) := by decide +kernel
theorem dX7_fittingAt_13 : decode cX7_fittingAt 13 = .ok (.iload_n 3, 1) := by decide +kernel
theorem dX7_fittingAt_14 : decode cX7_fittingAt 14 = .ok (.invokevirtual 37, 3) := by decide +kernel
theorem dX7_fittingAt_17 : decode cX7_fittingAt 17 = .ok (.iconst (-1), 1) := by decide +kernel
theorem dX7_fittingAt_18 : decode cX7_fittingAt 18 = .ok (.if_icmp .ne 6, 3) := by decide +kernel
theorem dX7_fittingAt_21 : decode cX7_fittingAt 21 = .ok (.goto 13, 3) := by decide +kernel
theorem dX7_fittingAt_24 : decode cX7_fittingAt 24 = .ok (.iload_n 2, 1) := by decide +kernel
theorem dX7_fittingAt_25 : decode cX7_fittingAt 25 = .ok (.iload_n 1, 1) := by decide +kernel
theorem dX7_fittingAt_26 : decode cX7_fittingAt 26 = .ok (.if_icmp .ne 5, 3) := by decide +kernel
theorem dX7_fittingAt_29 : decode cX7_fittingAt 29 = .ok (.iload_n 3, 1) := by decide +kernel
theorem dX7_fittingAt_30 : decode cX7_fittingAt 30 = .ok (.ireturn, 1) := by decide +kernel
theorem dX7_fittingAt_31 : decode cX7_fittingAt 31 = .ok (.iinc 2 1, 3) := by decide +kernel
theorem dX7_fittingAt_34 : decode cX7_fittingAt 34 = .ok (.iinc 3 1, 3) := by decide +kernel
theorem dX7_fittingAt_37 : decode cX7_fittingAt 37 = .ok (.goto (-33), 3) := by decide +kernel
theorem dX7_fittingAt_40 : decode cX7_fittingAt 40 = .ok (.iconst (-1), 1) := by decide +kernel
theorem dX7_fittingAt_41 : decode cX7_fittingAt 41 = .ok (.ireturn, 1) := by decide +kernel
theorem dX7_agreed_0 : decode cX7_agreed 0 = .ok (.bipush (-9), 2) := by decide +kernel
theorem dX7_agreed_2 : decode cX7_agreed 2 = .ok (.istore_n 2, 1) := by decide +kernel
theorem dX7_agreed_3 : decode cX7_agreed 3 = .ok (.iconst 0, 1) := by decide +kernel
theorem dX7_agreed_4 : decode cX7_agreed 4 = .ok (.istore_n 3, 1) := by decide +kernel
theorem dX7_agreed_5 : decode cX7_agreed 5 = .ok (.iload_n 3, 1) := by decide +kernel
theorem dX7_agreed_6 : decode cX7_agreed 6 = .ok (.aload_n 0, 1) := by decide +kernel
theorem dX7_agreed_7 : decode cX7_agreed 7 = .ok (.invokevirtual 33, 3) := by decide +kernel
theorem dX7_agreed_10 : decode cX7_agreed 10 = .ok (.if_icmp .ge 52, 3) := by decide +kernel
theorem dX7_agreed_13 : decode cX7_agreed 13 = .ok (.aload_n 0, 1) := by decide +kernel
theorem dX7_agreed_14 : decode cX7_agreed 14 = .ok (.iload_n 3, 1) := by decide +kernel
theorem dX7_agreed_15 : decode cX7_agreed 15 = .ok (.invokevirtual 37, 3) := by decide +kernel
theorem dX7_agreed_18 : decode cX7_agreed 18 = .ok (.istore 4, 2) := by decide +kernel
theorem dX7_agreed_20 : decode cX7_agreed 20 = .ok (.iload 4, 2) := by decide +kernel
theorem dX7_agreed_22 : decode cX7_agreed 22 = .ok (.iconst (-1), 1) := by decide +kernel
theorem dX7_agreed_23 : decode cX7_agreed 23 = .ok (.if_icmp .ne 6, 3) := by decide +kernel
theorem dX7_agreed_26 : decode cX7_agreed 26 = .ok (.goto 30, 3) := by decide +kernel
theorem dX7_agreed_29 : decode cX7_agreed 29 = .ok (.iload_n 3, 1) := by decide +kernel
theorem dX7_agreed_30 : decode cX7_agreed 30 = .ok (.iload 4, 2) := by decide +kernel
theorem dX7_agreed_32 : decode cX7_agreed 32 = .ok (.iload_n 1, 1) := by decide +kernel
theorem dX7_agreed_33 : decode cX7_agreed 33 = .ok (.invokestatic 45, 3) := by decide +kernel
theorem dX7_agreed_36 : decode cX7_agreed 36 = .ok (.istore 5, 2) := by decide +kernel
theorem dX7_agreed_38 : decode cX7_agreed 38 = .ok (.iload_n 2, 1) := by decide +kernel
theorem dX7_agreed_39 : decode cX7_agreed 39 = .ok (.bipush (-9), 2) := by decide +kernel
theorem dX7_agreed_41 : decode cX7_agreed 41 = .ok (.if_icmp .eq 12, 3) := by decide +kernel
theorem dX7_agreed_44 : decode cX7_agreed 44 = .ok (.iload_n 2, 1) := by decide +kernel
theorem dX7_agreed_45 : decode cX7_agreed 45 = .ok (.iload 5, 2) := by decide +kernel
theorem dX7_agreed_47 : decode cX7_agreed 47 = .ok (.if_icmp .eq 6, 3) := by decide +kernel
theorem dX7_agreed_50 : decode cX7_agreed 50 = .ok (.bipush (-9), 2) := by decide +kernel
theorem dX7_agreed_52 : decode cX7_agreed 52 = .ok (.ireturn, 1) := by decide +kernel
theorem dX7_agreed_53 : decode cX7_agreed 53 = .ok (.iload 5, 2) := by decide +kernel
theorem dX7_agreed_55 : decode cX7_agreed 55 = .ok (.istore_n 2, 1) := by decide +kernel
theorem dX7_agreed_56 : decode cX7_agreed 56 = .ok (.iinc 3 1, 3) := by decide +kernel
theorem dX7_agreed_59 : decode cX7_agreed 59 = .ok (.goto (-54), 3) := by decide +kernel
theorem dX7_agreed_62 : decode cX7_agreed 62 = .ok (.iload_n 2, 1) := by decide +kernel
theorem dX7_agreed_63 : decode cX7_agreed 63 = .ok (.ireturn, 1) := by decide +kernel
theorem dX7_toldOf_0 : decode cX7_toldOf 0 = .ok (.iload_n 2, 1) := by decide +kernel
theorem dX7_toldOf_1 : decode cX7_toldOf 1 = .ok (.ifCond .ne 8, 3) := by decide +kernel
theorem dX7_toldOf_4 : decode cX7_toldOf 4 = .ok (.iload_n 1, 1) := by decide +kernel
theorem dX7_toldOf_5 : decode cX7_toldOf 5 = .ok (.invokestatic 49, 3) := by decide +kernel
theorem dX7_toldOf_8 : decode cX7_toldOf 8 = .ok (.ireturn, 1) := by decide +kernel
theorem dX7_toldOf_9 : decode cX7_toldOf 9 = .ok (.iload_n 2, 1) := by decide +kernel
theorem dX7_toldOf_10 : decode cX7_toldOf 10 = .ok (.iconst 1, 1) := by decide +kernel
theorem dX7_toldOf_11 : decode cX7_toldOf 11 = .ok (.if_icmp .ne 13, 3) := by decide +kernel
theorem dX7_toldOf_14 : decode cX7_toldOf 14 = .ok (.iload_n 1, 1) := by decide +kernel
theorem dX7_toldOf_15 : decode cX7_toldOf 15 = .ok (.invokestatic 54, 3) := by decide +kernel
theorem dX7_toldOf_18 : decode cX7_toldOf 18 = .ok (.invokestatic 57, 3) := by decide +kernel
theorem dX7_toldOf_21 : decode cX7_toldOf 21 = .ok (.goto 7, 3) := by decide +kernel
theorem dX7_toldOf_24 : decode cX7_toldOf 24 = .ok (.iload_n 0, 1) := by decide +kernel
theorem dX7_toldOf_25 : decode cX7_toldOf 25 = .ok (.invokestatic 49, 3) := by decide +kernel
theorem dX7_toldOf_28 : decode cX7_toldOf 28 = .ok (.ireturn, 1) := by decide +kernel
theorem dX7_tellingWay_0 : decode cX7_tellingWay 0 = .ok (.aload_n 0, 1) := by decide +kernel
theorem dX7_tellingWay_1 : decode cX7_tellingWay 1 = .ok (.getfield 18, 3) := by decide +kernel
theorem dX7_tellingWay_4 : decode cX7_tellingWay 4 = .ok (.iconst 0, 1) := by decide +kernel
theorem dX7_tellingWay_5 : decode cX7_tellingWay 5 = .ok (.invokestatic 62, 3) := by decide +kernel
theorem dX7_tellingWay_8 : decode cX7_tellingWay 8 = .ok (.iconst 0, 1) := by decide +kernel
theorem dX7_tellingWay_9 : decode cX7_tellingWay 9 = .ok (.istore_n 1, 1) := by decide +kernel
theorem dX7_tellingWay_10 : decode cX7_tellingWay 10 = .ok (.bipush 15, 2) := by decide +kernel
theorem dX7_tellingWay_12 : decode cX7_tellingWay 12 = .ok (.istore_n 2, 1) := by decide +kernel
theorem dX7_tellingWay_13 : decode cX7_tellingWay 13 = .ok (.iconst 0, 1) := by decide +kernel
theorem dX7_tellingWay_14 : decode cX7_tellingWay 14 = .ok (.istore_n 3, 1) := by decide +kernel
theorem dX7_tellingWay_15 : decode cX7_tellingWay 15 = .ok (.iload_n 3, 1) := by decide +kernel
theorem dX7_tellingWay_16 : decode cX7_tellingWay 16 = .ok (.aload_n 0, 1) := by decide +kernel
theorem dX7_tellingWay_17 : decode cX7_tellingWay 17 = .ok (.invokevirtual 33, 3) := by decide +kernel
theorem dX7_tellingWay_20 : decode cX7_tellingWay 20 = .ok (.if_icmp .ge 34, 3) := by decide +kernel
theorem dX7_tellingWay_23 : decode cX7_tellingWay 23 = .ok (.aload_n 0, 1) := by decide +kernel
theorem dX7_tellingWay_24 : decode cX7_tellingWay 24 = .ok (.iload_n 3, 1) := by decide +kernel
theorem dX7_tellingWay_25 : decode cX7_tellingWay 25 = .ok (.invokevirtual 37, 3) := by decide +kernel
theorem dX7_tellingWay_28 : decode cX7_tellingWay 28 = .ok (.istore 4, 2) := by decide +kernel
theorem dX7_tellingWay_30 : decode cX7_tellingWay 30 = .ok (.iload 4, 2) := by decide +kernel
theorem dX7_tellingWay_32 : decode cX7_tellingWay 32 = .ok (.iconst (-1), 1) := by decide +kernel
theorem dX7_tellingWay_33 : decode cX7_tellingWay 33 = .ok (.if_icmp .eq 15, 3) := by decide +kernel
theorem dX7_tellingWay_36 : decode cX7_tellingWay 36 = .ok (.iinc 1 1, 3) := by decide +kernel
theorem dX7_tellingWay_39 : decode cX7_tellingWay 39 = .ok (.iload_n 2, 1) := by decide +kernel
theorem dX7_tellingWay_40 : decode cX7_tellingWay 40 = .ok (.aload_n 0, 1) := by decide +kernel
theorem dX7_tellingWay_41 : decode cX7_tellingWay 41 = .ok (.iload 4, 2) := by decide +kernel
theorem dX7_tellingWay_43 : decode cX7_tellingWay 43 = .ok (.invokevirtual 68, 3) := by decide +kernel
theorem dX7_tellingWay_46 : decode cX7_tellingWay 46 = .ok (.iand, 1) := by decide +kernel
theorem dX7_tellingWay_47 : decode cX7_tellingWay 47 = .ok (.istore_n 2, 1) := by decide +kernel
theorem dX7_tellingWay_48 : decode cX7_tellingWay 48 = .ok (.iinc 3 1, 3) := by decide +kernel
theorem dX7_tellingWay_51 : decode cX7_tellingWay 51 = .ok (.goto (-36), 3) := by decide +kernel
theorem dX7_tellingWay_54 : decode cX7_tellingWay 54 = .ok (.iload_n 1, 1) := by decide +kernel
theorem dX7_tellingWay_55 : decode cX7_tellingWay 55 = .ok (.ifCond .ne 8, 3) := by decide +kernel
theorem dX7_tellingWay_58 : decode cX7_tellingWay 58 = .ok (.bipush (-9), 2) := by decide +kernel
theorem dX7_tellingWay_60 : decode cX7_tellingWay 60 = .ok (.goto 8, 3) := by decide +kernel
theorem dX7_tellingWay_63 : decode cX7_tellingWay 63 = .ok (.aload_n 0, 1) := by decide +kernel
theorem dX7_tellingWay_64 : decode cX7_tellingWay 64 = .ok (.iload_n 2, 1) := by decide +kernel
theorem dX7_tellingWay_65 : decode cX7_tellingWay 65 = .ok (.invokevirtual 71, 3) := by decide +kernel
theorem dX7_tellingWay_68 : decode cX7_tellingWay 68 = .ok (.ireturn, 1) := by decide +kernel
theorem dX7_tallyFrom_0 : decode cX7_tallyFrom 0 = .ok (.iconst 0, 1) := by decide +kernel
theorem dX7_tallyFrom_1 : decode cX7_tallyFrom 1 = .ok (.istore_n 2, 1) := by decide +kernel
theorem dX7_tallyFrom_2 : decode cX7_tallyFrom 2 = .ok (.iconst 0, 1) := by decide +kernel
theorem dX7_tallyFrom_3 : decode cX7_tallyFrom 3 = .ok (.istore_n 3, 1) := by decide +kernel
theorem dX7_tallyFrom_4 : decode cX7_tallyFrom 4 = .ok (.iload_n 3, 1) := by decide +kernel
theorem dX7_tallyFrom_5 : decode cX7_tallyFrom 5 = .ok (.iconst 4, 1) := by decide +kernel
theorem dX7_tallyFrom_6 : decode cX7_tallyFrom 6 = .ok (.if_icmp .ge 51, 3) := by decide +kernel
theorem dX7_tallyFrom_9 : decode cX7_tallyFrom 9 = .ok (.aload_n 0, 1) := by decide +kernel
theorem dX7_tallyFrom_10 : decode cX7_tallyFrom 10 = .ok (.getfield 25, 3) := by decide +kernel
theorem dX7_tallyFrom_13 : decode cX7_tallyFrom 13 = .ok (.iload_n 1, 1) := by decide +kernel
theorem dX7_tallyFrom_14 : decode cX7_tallyFrom 14 = .ok (.iload_n 3, 1) := by decide +kernel
theorem dX7_tallyFrom_15 : decode cX7_tallyFrom 15 = .ok (.invokevirtual 74, 3) := by decide +kernel
theorem dX7_tallyFrom_18 : decode cX7_tallyFrom 18 = .ok (.istore 4, 2) := by decide +kernel
theorem dX7_tallyFrom_20 : decode cX7_tallyFrom 20 = .ok (.iload 4, 2) := by decide +kernel
theorem dX7_tallyFrom_22 : decode cX7_tallyFrom 22 = .ok (.iconst (-1), 1) := by decide +kernel
theorem dX7_tallyFrom_23 : decode cX7_tallyFrom 23 = .ok (.if_icmp .eq 28, 3) := by decide +kernel
theorem dX7_tallyFrom_26 : decode cX7_tallyFrom 26 = .ok (.iload_n 2, 1) := by decide +kernel
theorem dX7_tallyFrom_27 : decode cX7_tallyFrom 27 = .ok (.iconst 1, 1) := by decide +kernel
theorem dX7_tallyFrom_28 : decode cX7_tallyFrom 28 = .ok (.iload_n 3, 1) := by decide +kernel
theorem dX7_tallyFrom_29 : decode cX7_tallyFrom 29 = .ok (.ishl, 1) := by decide +kernel
theorem dX7_tallyFrom_30 : decode cX7_tallyFrom 30 = .ok (.ior, 1) := by decide +kernel
theorem dX7_tallyFrom_31 : decode cX7_tallyFrom 31 = .ok (.istore_n 2, 1) := by decide +kernel
theorem dX7_tallyFrom_32 : decode cX7_tallyFrom 32 = .ok (.aload_n 0, 1) := by decide +kernel
theorem dX7_tallyFrom_33 : decode cX7_tallyFrom 33 = .ok (.getfield 18, 3) := by decide +kernel
theorem dX7_tallyFrom_36 : decode cX7_tallyFrom 36 = .ok (.iload_n 3, 1) := by decide +kernel
theorem dX7_tallyFrom_37 : decode cX7_tallyFrom 37 = .ok (.bipush 7, 2) := by decide +kernel
theorem dX7_tallyFrom_39 : decode cX7_tallyFrom 39 = .ok (.imul, 1) := by decide +kernel
theorem dX7_tallyFrom_40 : decode cX7_tallyFrom 40 = .ok (.iload 4, 2) := by decide +kernel
theorem dX7_tallyFrom_42 : decode cX7_tallyFrom 42 = .ok (.invokestatic 78, 3) := by decide +kernel
theorem dX7_tallyFrom_45 : decode cX7_tallyFrom 45 = .ok (.iadd, 1) := by decide +kernel
theorem dX7_tallyFrom_46 : decode cX7_tallyFrom 46 = .ok (.dup2, 1) := by decide +kernel
theorem dX7_tallyFrom_47 : decode cX7_tallyFrom 47 = .ok (.iaload, 1) := by decide +kernel
theorem dX7_tallyFrom_48 : decode cX7_tallyFrom 48 = .ok (.iconst 1, 1) := by decide +kernel
theorem dX7_tallyFrom_49 : decode cX7_tallyFrom 49 = .ok (.iadd, 1) := by decide +kernel
theorem dX7_tallyFrom_50 : decode cX7_tallyFrom 50 = .ok (.iastore, 1) := by decide +kernel
theorem dX7_tallyFrom_51 : decode cX7_tallyFrom 51 = .ok (.iinc 3 1, 3) := by decide +kernel
theorem dX7_tallyFrom_54 : decode cX7_tallyFrom 54 = .ok (.goto (-50), 3) := by decide +kernel
theorem dX7_tallyFrom_57 : decode cX7_tallyFrom 57 = .ok (.iload_n 2, 1) := by decide +kernel
theorem dX7_tallyFrom_58 : decode cX7_tallyFrom 58 = .ok (.ireturn, 1) := by decide +kernel
theorem dX7_leastTallied_0 : decode cX7_leastTallied 0 = .ok (.bipush (-9), 2) := by decide +kernel
theorem dX7_leastTallied_2 : decode cX7_leastTallied 2 = .ok (.istore_n 2, 1) := by decide +kernel
theorem dX7_leastTallied_3 : decode cX7_leastTallied 3 = .ok (.iconst 0, 1) := by decide +kernel
theorem dX7_leastTallied_4 : decode cX7_leastTallied 4 = .ok (.istore_n 3, 1) := by decide +kernel
theorem dX7_leastTallied_5 : decode cX7_leastTallied 5 = .ok (.iconst 0, 1) := by decide +kernel
theorem dX7_leastTallied_6 : decode cX7_leastTallied 6 = .ok (.istore 4, 2) := by decide +kernel
theorem dX7_leastTallied_8 : decode cX7_leastTallied 8 = .ok (.iload 4, 2) := by decide +kernel
theorem dX7_leastTallied_10 : decode cX7_leastTallied 10 = .ok (.iconst 4, 1) := by decide +kernel
theorem dX7_leastTallied_11 : decode cX7_leastTallied 11 = .ok (.if_icmp .ge 47, 3) := by decide +kernel
theorem dX7_leastTallied_14 : decode cX7_leastTallied 14 = .ok (.iload_n 1, 1) := by decide +kernel
theorem dX7_leastTallied_15 : decode cX7_leastTallied 15 = .ok (.iload 4, 2) := by decide +kernel
theorem dX7_leastTallied_17 : decode cX7_leastTallied 17 = .ok (.ishr, 1) := by decide +kernel
theorem dX7_leastTallied_18 : decode cX7_leastTallied 18 = .ok (.iconst 1, 1) := by decide +kernel
theorem dX7_leastTallied_19 : decode cX7_leastTallied 19 = .ok (.iand, 1) := by decide +kernel
theorem dX7_leastTallied_20 : decode cX7_leastTallied 20 = .ok (.ifCond .ne 6, 3) := by decide +kernel
theorem dX7_leastTallied_23 : decode cX7_leastTallied 23 = .ok (.goto 29, 3) := by decide +kernel
theorem dX7_leastTallied_26 : decode cX7_leastTallied 26 = .ok (.aload_n 0, 1) := by decide +kernel
theorem dX7_leastTallied_27 : decode cX7_leastTallied 27 = .ok (.iload 4, 2) := by decide +kernel
theorem dX7_leastTallied_29 : decode cX7_leastTallied 29 = .ok (.invokevirtual 81, 3) := by decide +kernel
theorem dX7_leastTallied_32 : decode cX7_leastTallied 32 = .ok (.istore 5, 2) := by decide +kernel
theorem dX7_leastTallied_34 : decode cX7_leastTallied 34 = .ok (.iload_n 2, 1) := by decide +kernel
theorem dX7_leastTallied_35 : decode cX7_leastTallied 35 = .ok (.bipush (-9), 2) := by decide +kernel
theorem dX7_leastTallied_37 : decode cX7_leastTallied 37 = .ok (.if_icmp .eq 9, 3) := by decide +kernel
theorem dX7_leastTallied_40 : decode cX7_leastTallied 40 = .ok (.iload 5, 2) := by decide +kernel
theorem dX7_leastTallied_42 : decode cX7_leastTallied 42 = .ok (.iload_n 3, 1) := by decide +kernel
theorem dX7_leastTallied_43 : decode cX7_leastTallied 43 = .ok (.if_icmp .ge 9, 3) := by decide +kernel
theorem dX7_leastTallied_46 : decode cX7_leastTallied 46 = .ok (.iload 4, 2) := by decide +kernel
theorem dX7_leastTallied_48 : decode cX7_leastTallied 48 = .ok (.istore_n 2, 1) := by decide +kernel
theorem dX7_leastTallied_49 : decode cX7_leastTallied 49 = .ok (.iload 5, 2) := by decide +kernel
theorem dX7_leastTallied_51 : decode cX7_leastTallied 51 = .ok (.istore_n 3, 1) := by decide +kernel
theorem dX7_leastTallied_52 : decode cX7_leastTallied 52 = .ok (.iinc 4 1, 3) := by decide +kernel
theorem dX7_leastTallied_55 : decode cX7_leastTallied 55 = .ok (.goto (-47), 3) := by decide +kernel
theorem dX7_leastTallied_58 : decode cX7_leastTallied 58 = .ok (.iload_n 2, 1) := by decide +kernel
theorem dX7_leastTallied_59 : decode cX7_leastTallied 59 = .ok (.ireturn, 1) := by decide +kernel
theorem dX7_mostTallied_0 : decode cX7_mostTallied 0 = .ok (.iconst 0, 1) := by decide +kernel
theorem dX7_mostTallied_1 : decode cX7_mostTallied 1 = .ok (.istore_n 2, 1) := by decide +kernel
theorem dX7_mostTallied_2 : decode cX7_mostTallied 2 = .ok (.iconst 1, 1) := by decide +kernel
theorem dX7_mostTallied_3 : decode cX7_mostTallied 3 = .ok (.istore_n 3, 1) := by decide +kernel
theorem dX7_mostTallied_4 : decode cX7_mostTallied 4 = .ok (.iload_n 3, 1) := by decide +kernel
theorem dX7_mostTallied_5 : decode cX7_mostTallied 5 = .ok (.bipush 6, 2) := by decide +kernel
theorem dX7_mostTallied_7 : decode cX7_mostTallied 7 = .ok (.if_icmp .gt 25, 3) := by decide +kernel
theorem dX7_mostTallied_10 : decode cX7_mostTallied 10 = .ok (.iload_n 2, 1) := by decide +kernel
theorem dX7_mostTallied_11 : decode cX7_mostTallied 11 = .ok (.aload_n 0, 1) := by decide +kernel
theorem dX7_mostTallied_12 : decode cX7_mostTallied 12 = .ok (.getfield 18, 3) := by decide +kernel
theorem dX7_mostTallied_15 : decode cX7_mostTallied 15 = .ok (.iload_n 1, 1) := by decide +kernel
theorem dX7_mostTallied_16 : decode cX7_mostTallied 16 = .ok (.bipush 7, 2) := by decide +kernel
theorem dX7_mostTallied_18 : decode cX7_mostTallied 18 = .ok (.imul, 1) := by decide +kernel
theorem dX7_mostTallied_19 : decode cX7_mostTallied 19 = .ok (.iload_n 3, 1) := by decide +kernel
theorem dX7_mostTallied_20 : decode cX7_mostTallied 20 = .ok (.iadd, 1) := by decide +kernel
theorem dX7_mostTallied_21 : decode cX7_mostTallied 21 = .ok (.iaload, 1) := by decide +kernel
theorem dX7_mostTallied_22 : decode cX7_mostTallied 22 = .ok (.invokestatic 84, 3) := by decide +kernel
theorem dX7_mostTallied_25 : decode cX7_mostTallied 25 = .ok (.istore_n 2, 1) := by decide +kernel
theorem dX7_mostTallied_26 : decode cX7_mostTallied 26 = .ok (.iinc 3 1, 3) := by decide +kernel
theorem dX7_mostTallied_29 : decode cX7_mostTallied 29 = .ok (.goto (-25), 3) := by decide +kernel
theorem dX7_mostTallied_32 : decode cX7_mostTallied 32 = .ok (.iload_n 2, 1) := by decide +kernel
theorem dX7_mostTallied_33 : decode cX7_mostTallied 33 = .ok (.ireturn, 1) := by decide +kernel
theorem dX7_allStarts_0 : decode cX7_allStarts 0 = .ok (.bipush 24, 2) := by decide +kernel
theorem dX7_allStarts_2 : decode cX7_allStarts 2 = .ok (.aload_n 0, 1) := by decide +kernel
theorem dX7_allStarts_3 : decode cX7_allStarts 3 = .ok (.getfield 21, 3) := by decide +kernel
theorem dX7_allStarts_6 : decode cX7_allStarts 6 = .ok (.invokevirtual 89, 3) := by decide +kernel
theorem dX7_allStarts_9 : decode cX7_allStarts 9 = .ok (.imul, 1) := by decide +kernel
theorem dX7_allStarts_10 : decode cX7_allStarts 10 = .ok (.ireturn, 1) := by decide +kernel
theorem dX7_endOf_0 : decode cX7_endOf 0 = .ok (.iload_n 1, 1) := by decide +kernel
theorem dX7_endOf_1 : decode cX7_endOf 1 = .ok (.istore_n 2, 1) := by decide +kernel
theorem dX7_endOf_2 : decode cX7_endOf 2 = .ok (.iconst 0, 1) := by decide +kernel
theorem dX7_endOf_3 : decode cX7_endOf 3 = .ok (.istore_n 3, 1) := by decide +kernel
theorem dX7_endOf_4 : decode cX7_endOf 4 = .ok (.iload_n 3, 1) := by decide +kernel
theorem dX7_endOf_5 : decode cX7_endOf 5 = .ok (.aload_n 0, 1) := by decide +kernel
theorem dX7_endOf_6 : decode cX7_endOf 6 = .ok (.getfield 29, 3) := by decide +kernel
theorem dX7_endOf_9 : decode cX7_endOf 9 = .ok (.if_icmp .ge 61, 3) := by decide +kernel
theorem dX7_endOf_12 : decode cX7_endOf 12 = .ok (.iload_n 3, 1) := by decide +kernel
theorem dX7_endOf_13 : decode cX7_endOf 13 = .ok (.bipush 20, 2) := by decide +kernel
theorem dX7_endOf_15 : decode cX7_endOf 15 = .ok (.if_icmp .ge 55, 3) := by decide +kernel
theorem dX7_endOf_18 : decode cX7_endOf 18 = .ok (.aload_n 0, 1) := by decide +kernel
theorem dX7_endOf_19 : decode cX7_endOf 19 = .ok (.getfield 25, 3) := by decide +kernel
theorem dX7_endOf_22 : decode cX7_endOf 22 = .ok (.iload_n 2, 1) := by decide +kernel
theorem dX7_endOf_23 : decode cX7_endOf 23 = .ok (.aload_n 0, 1) := by decide +kernel
theorem dX7_endOf_24 : decode cX7_endOf 24 = .ok (.getfield 9, 3) := by decide +kernel
theorem dX7_endOf_27 : decode cX7_endOf 27 = .ok (.iload_n 3, 1) := by decide +kernel
theorem dX7_endOf_28 : decode cX7_endOf 28 = .ok (.iaload, 1) := by decide +kernel
theorem dX7_endOf_29 : decode cX7_endOf 29 = .ok (.invokevirtual 74, 3) := by decide +kernel
theorem dX7_endOf_32 : decode cX7_endOf 32 = .ok (.istore_n 2, 1) := by decide +kernel
theorem dX7_endOf_33 : decode cX7_endOf 33 = .ok (.iload_n 2, 1) := by decide +kernel
theorem dX7_endOf_34 : decode cX7_endOf 34 = .ok (.iconst (-1), 1) := by decide +kernel
theorem dX7_endOf_35 : decode cX7_endOf 35 = .ok (.if_icmp .ne 5, 3) := by decide +kernel
theorem dX7_endOf_38 : decode cX7_endOf 38 = .ok (.iconst (-1), 1) := by decide +kernel
theorem dX7_endOf_39 : decode cX7_endOf 39 = .ok (.ireturn, 1) := by decide +kernel
theorem dX7_endOf_40 : decode cX7_endOf 40 = .ok (.aload_n 0, 1) := by decide +kernel
theorem dX7_endOf_41 : decode cX7_endOf 41 = .ok (.getfield 15, 3) := by decide +kernel
theorem dX7_endOf_44 : decode cX7_endOf 44 = .ok (.iload_n 3, 1) := by decide +kernel
theorem dX7_endOf_45 : decode cX7_endOf 45 = .ok (.iaload, 1) := by decide +kernel
theorem dX7_endOf_46 : decode cX7_endOf 46 = .ok (.ifCond .eq 18, 3) := by decide +kernel
theorem dX7_endOf_49 : decode cX7_endOf 49 = .ok (.aload_n 0, 1) := by decide +kernel
theorem dX7_endOf_50 : decode cX7_endOf 50 = .ok (.getfield 15, 3) := by decide +kernel
theorem dX7_endOf_53 : decode cX7_endOf 53 = .ok (.iload_n 3, 1) := by decide +kernel
theorem dX7_endOf_54 : decode cX7_endOf 54 = .ok (.iaload, 1) := by decide +kernel
theorem dX7_endOf_55 : decode cX7_endOf 55 = .ok (.iload_n 2, 1) := by decide +kernel
theorem dX7_endOf_56 : decode cX7_endOf 56 = .ok (.invokestatic 78, 3) := by decide +kernel
theorem dX7_endOf_59 : decode cX7_endOf 59 = .ok (.if_icmp .eq 5, 3) := by decide +kernel
theorem dX7_endOf_62 : decode cX7_endOf 62 = .ok (.iconst (-1), 1) := by decide +kernel
theorem dX7_endOf_63 : decode cX7_endOf 63 = .ok (.ireturn, 1) := by decide +kernel
theorem dX7_endOf_64 : decode cX7_endOf 64 = .ok (.iinc 3 1, 3) := by decide +kernel
theorem dX7_endOf_67 : decode cX7_endOf 67 = .ok (.goto (-63), 3) := by decide +kernel
theorem dX7_endOf_70 : decode cX7_endOf 70 = .ok (.iload_n 2, 1) := by decide +kernel
theorem dX7_endOf_71 : decode cX7_endOf 71 = .ok (.ireturn, 1) := by decide +kernel
theorem dX8_init_0 : decode cX8_init 0 = .ok (.aload_n 0, 1) := by decide +kernel
theorem dX8_init_1 : decode cX8_init 1 = .ok (.invokespecial 3, 3) := by decide +kernel
theorem dX8_init_4 : decode cX8_init 4 = .ok (.aload_n 0, 1) := by decide +kernel
theorem dX8_init_5 : decode cX8_init 5 = .ok (.sipush 600, 3) := by decide +kernel
theorem dX8_init_8 : decode cX8_init 8 = .ok (.newarray .int, 2) := by decide +kernel
theorem dX8_init_10 : decode cX8_init 10 = .ok (.putfield 9, 3) := by decide +kernel
theorem dX8_init_13 : decode cX8_init 13 = .ok (.aload_n 0, 1) := by decide +kernel
theorem dX8_init_14 : decode cX8_init 14 = .ok (.sipush 600, 3) := by decide +kernel
theorem dX8_init_17 : decode cX8_init 17 = .ok (.newarray .int, 2) := by decide +kernel
theorem dX8_init_19 : decode cX8_init 19 = .ok (.putfield 15, 3) := by decide +kernel
theorem dX8_init_22 : decode cX8_init 22 = .ok (.aload_n 0, 1) := by decide +kernel
theorem dX8_init_23 : decode cX8_init 23 = .ok (.sipush 600, 3) := by decide +kernel
theorem dX8_init_26 : decode cX8_init 26 = .ok (.newarray .int, 2) := by decide +kernel
theorem dX8_init_28 : decode cX8_init 28 = .ok (.putfield 18, 3) := by decide +kernel
theorem dX8_init_31 : decode cX8_init 31 = .ok (.aload_n 0, 1) := by decide +kernel
theorem dX8_init_32 : decode cX8_init 32 = .ok (.sipush 600, 3) := by decide +kernel
theorem dX8_init_35 : decode cX8_init 35 = .ok (.newarray .int, 2) := by decide +kernel
theorem dX8_init_37 : decode cX8_init 37 = .ok (.putfield 21, 3) := by decide +kernel
theorem dX8_init_40 : decode cX8_init 40 = .ok (.aload_n 0, 1) := by decide +kernel
theorem dX8_init_41 : decode cX8_init 41 = .ok (.sipush 600, 3) := by decide +kernel
theorem dX8_init_44 : decode cX8_init 44 = .ok (.newarray .long, 2) := by decide +kernel
theorem dX8_init_46 : decode cX8_init 46 = .ok (.putfield 24, 3) := by decide +kernel
theorem dX8_init_49 : decode cX8_init 49 = .ok (.return_, 1) := by decide +kernel
theorem dX8_forget_0 : decode cX8_forget 0 = .ok (.aload_n 0, 1) := by decide +kernel
theorem dX8_forget_1 : decode cX8_forget 1 = .ok (.getfield 9, 3) := by decide +kernel
theorem dX8_forget_4 : decode cX8_forget 4 = .ok (.iconst (-1), 1) := by decide +kernel
theorem dX8_forget_5 : decode cX8_forget 5 = .ok (.invokestatic 28, 3) := by decide +kernel
theorem dX8_forget_8 : decode cX8_forget 8 = .ok (.aload_n 0, 1) := by decide +kernel
theorem dX8_forget_9 : decode cX8_forget 9 = .ok (.iconst 0, 1) := by decide +kernel
theorem dX8_forget_10 : decode cX8_forget 10 = .ok (.putfield 34, 3) := by decide +kernel
theorem dX8_forget_13 : decode cX8_forget 13 = .ok (.return_, 1) := by decide +kernel
theorem dX8_enter_0 : decode cX8_enter 0 = .ok (.iload_n 1, 1) := by decide +kernel
theorem dX8_enter_1 : decode cX8_enter 1 = .ok (.invokestatic 38, 3) := by decide +kernel
theorem dX8_enter_4 : decode cX8_enter 4 = .ok (.ifCond .eq 28, 3) := by decide +kernel
theorem dX8_enter_7 : decode cX8_enter 7 = .ok (.aload_n 0, 1) := by decide +kernel
theorem dX8_enter_8 : decode cX8_enter 8 = .ok (.getfield 9, 3) := by decide +kernel
theorem dX8_enter_11 : decode cX8_enter 11 = .ok (.iload_n 1, 1) := by decide +kernel
theorem dX8_enter_12 : decode cX8_enter 12 = .ok (.iaload, 1) := by decide +kernel
theorem dX8_enter_13 : decode cX8_enter 13 = .ok (.iconst (-1), 1) := by decide +kernel
theorem dX8_enter_14 : decode cX8_enter 14 = .ok (.if_icmp .ne 18, 3) := by decide +kernel
theorem dX8_enter_17 : decode cX8_enter 17 = .ok (.aload_n 0, 1) := by decide +kernel
theorem dX8_enter_18 : decode cX8_enter 18 = .ok (.iload_n 1, 1) := by decide +kernel
theorem dX8_enter_19 : decode cX8_enter 19 = .ok (.iconst 0, 1) := by decide +kernel
theorem dX8_enter_20 : decode cX8_enter 20 = .ok (.iconst (-1), 1) := by decide +kernel
theorem dX8_enter_21 : decode cX8_enter 21 = .ok (.iconst (-1), 1) := by decide +kernel
theorem dX8_enter_22 : decode cX8_enter 22 = .ok (.invokevirtual 42, 3) := by decide +kernel
theorem dX8_enter_25 : decode cX8_enter 25 = .ok (.aload_n 0, 1) := by decide +kernel
theorem dX8_enter_26 : decode cX8_enter 26 = .ok (.getfield 24, 3) := by decide +kernel
theorem dX8_enter_29 : decode cX8_enter 29 = .ok (.iload_n 1, 1) := by decide +kernel
theorem dX8_enter_30 : decode cX8_enter 30 = .ok (.lconst 1, 1) := by decide +kernel
theorem dX8_enter_31 : decode cX8_enter 31 = .ok (.lastore, 1) := by decide +kernel
theorem dX8_enter_32 : decode cX8_enter 32 = .ok (.return_, 1) := by decide +kernel
theorem dX8_begin_0 : decode cX8_begin 0 = .ok (.aload_n 0, 1) := by decide +kernel
theorem dX8_begin_1 : decode cX8_begin 1 = .ok (.invokevirtual 46, 3) := by decide +kernel
theorem dX8_begin_4 : decode cX8_begin 4 = .ok (.aload_n 0, 1) := by decide +kernel
theorem dX8_begin_5 : decode cX8_begin 5 = .ok (.iload_n 1, 1) := by decide +kernel
theorem dX8_begin_6 : decode cX8_begin 6 = .ok (.invokevirtual 49, 3) := by decide +kernel
theorem dX8_begin_9 : decode cX8_begin 9 = .ok (.return_, 1) := by decide +kernel
theorem dX8_spread_0 : decode cX8_spread 0 = .ok (.iconst 0, 1) := by decide +kernel
theorem dX8_spread_1 : decode cX8_spread 1 = .ok (.istore_n 2, 1) := by decide +kernel
theorem dX8_spread_2 : decode cX8_spread 2 = .ok (.iload_n 2, 1) := by decide +kernel
theorem dX8_spread_3 : decode cX8_spread 3 = .ok (.aload_n 0, 1) := by decide +kernel
theorem dX8_spread_4 : decode cX8_spread 4 = .ok (.getfield 34, 3) := by decide +kernel
theorem dX8_spread_7 : decode cX8_spread 7 = .ok (.if_icmp .ge 52, 3) := by decide +kernel
theorem dX8_spread_10 : decode cX8_spread 10 = .ok (.iload_n 2, 1) := by decide +kernel
theorem dX8_spread_11 : decode cX8_spread 11 = .ok (.sipush 600, 3) := by decide +kernel
theorem dX8_spread_14 : decode cX8_spread 14 = .ok (.if_icmp .ge 45, 3) := by decide +kernel
theorem dX8_spread_17 : decode cX8_spread 17 = .ok (.aload_n 0, 1) := by decide +kernel
theorem dX8_spread_18 : decode cX8_spread 18 = .ok (.getfield 21, 3) := by decide +kernel
theorem dX8_spread_21 : decode cX8_spread 21 = .ok (.iload_n 2, 1) := by decide +kernel
theorem dX8_spread_22 : decode cX8_spread 22 = .ok (.iaload, 1) := by decide +kernel
theorem dX8_spread_23 : decode cX8_spread 23 = .ok (.istore_n 3, 1) := by decide +kernel
theorem dX8_spread_24 : decode cX8_spread 24 = .ok (.iconst 0, 1) := by decide +kernel
theorem dX8_spread_25 : decode cX8_spread 25 = .ok (.istore 4, 2) := by decide +kernel
theorem dX8_spread_27 : decode cX8_spread 27 = .ok (.iload 4, 2) := by decide +kernel
theorem dX8_spread_29 : decode cX8_spread 29 = .ok (.iconst 4, 1) := by decide +kernel
theorem dX8_spread_30 : decode cX8_spread 30 = .ok (.if_icmp .ge 23, 3) := by decide +kernel
theorem dX8_spread_33 : decode cX8_spread 33 = .ok (.aload_n 0, 1) := by decide +kernel
theorem dX8_spread_34 : decode cX8_spread 34 = .ok (.iload_n 3, 1) := by decide +kernel
theorem dX8_spread_35 : decode cX8_spread 35 = .ok (.iload 4, 2) := by decide +kernel
theorem dX8_spread_37 : decode cX8_spread 37 = .ok (.aload_n 1, 1) := by decide +kernel
theorem dX8_spread_38 : decode cX8_spread 38 = .ok (.iload_n 3, 1) := by decide +kernel
theorem dX8_spread_39 : decode cX8_spread 39 = .ok (.iload 4, 2) := by decide +kernel
theorem dX8_spread_41 : decode cX8_spread 41 = .ok (.invokevirtual 53, 3) := by decide +kernel
theorem dX8_spread_44 : decode cX8_spread 44 = .ok (.invokevirtual 59, 3) := by decide +kernel
theorem dX8_spread_47 : decode cX8_spread 47 = .ok (.iinc 4 1, 3) := by decide +kernel
theorem dX8_spread_50 : decode cX8_spread 50 = .ok (.goto (-23), 3) := by decide +kernel
theorem dX8_spread_53 : decode cX8_spread 53 = .ok (.iinc 2 1, 3) := by decide +kernel
theorem dX8_spread_56 : decode cX8_spread 56 = .ok (.goto (-54), 3) := by decide +kernel
theorem dX8_spread_59 : decode cX8_spread 59 = .ok (.return_, 1) := by decide +kernel
theorem dX8_meet_0 : decode cX8_meet 0 = .ok (.iload_n 1, 1) := by decide +kernel
theorem dX8_meet_1 : decode cX8_meet 1 = .ok (.invokestatic 38, 3) := by decide +kernel
theorem dX8_meet_4 : decode cX8_meet 4 = .ok (.ifCond .eq 10, 3) := by decide +kernel
theorem dX8_meet_7 : decode cX8_meet 7 = .ok (.iload_n 3, 1) := by decide +kernel
theorem dX8_meet_8 : decode cX8_meet 8 = .ok (.invokestatic 38, 3) := by decide +kernel
theorem dX8_meet_11 : decode cX8_meet 11 = .ok (.ifCond .ne 4, 3) := by decide +kernel
theorem dX8_meet_14 : decode cX8_meet 14 = .ok (.return_, 1) := by decide +kernel
theorem dX8_meet_15 : decode cX8_meet 15 = .ok (.aload_n 0, 1) := by decide +kernel
theorem dX8_meet_16 : decode cX8_meet 16 = .ok (.getfield 9, 3) := by decide +kernel
theorem dX8_meet_19 : decode cX8_meet 19 = .ok (.iload_n 3, 1) := by decide +kernel
theorem dX8_meet_20 : decode cX8_meet 20 = .ok (.iaload, 1) := by decide +kernel
theorem dX8_meet_21 : decode cX8_meet 21 = .ok (.iconst (-1), 1) := by decide +kernel
theorem dX8_meet_22 : decode cX8_meet 22 = .ok (.if_icmp .ne 18, 3) := by decide +kernel
theorem dX8_meet_25 : decode cX8_meet 25 = .ok (.aload_n 0, 1) := by decide +kernel
theorem dX8_meet_26 : decode cX8_meet 26 = .ok (.iload_n 3, 1) := by decide +kernel
theorem dX8_meet_27 : decode cX8_meet 27 = .ok (.aload_n 0, 1) := by decide +kernel
theorem dX8_meet_28 : decode cX8_meet 28 = .ok (.getfield 9, 3) := by decide +kernel
theorem dX8_meet_31 : decode cX8_meet 31 = .ok (.iload_n 1, 1) := by decide +kernel
theorem dX8_meet_32 : decode cX8_meet 32 = .ok (.iaload, 1) := by decide +kernel
theorem dX8_meet_33 : decode cX8_meet 33 = .ok (.iconst 1, 1) := by decide +kernel
theorem dX8_meet_34 : decode cX8_meet 34 = .ok (.iadd, 1) := by decide +kernel
theorem dX8_meet_35 : decode cX8_meet 35 = .ok (.iload_n 1, 1) := by decide +kernel
theorem dX8_meet_36 : decode cX8_meet 36 = .ok (.iload_n 2, 1) := by decide +kernel
theorem dX8_meet_37 : decode cX8_meet 37 = .ok (.invokevirtual 42, 3) := by decide +kernel
theorem dX8_meet_40 : decode cX8_meet 40 = .ok (.aload_n 0, 1) := by decide +kernel
theorem dX8_meet_41 : decode cX8_meet 41 = .ok (.getfield 9, 3) := by decide +kernel
theorem dX8_meet_44 : decode cX8_meet 44 = .ok (.iload_n 3, 1) := by decide +kernel
theorem dX8_meet_45 : decode cX8_meet 45 = .ok (.iaload, 1) := by decide +kernel
theorem dX8_meet_46 : decode cX8_meet 46 = .ok (.aload_n 0, 1) := by decide +kernel
theorem dX8_meet_47 : decode cX8_meet 47 = .ok (.getfield 9, 3) := by decide +kernel
theorem dX8_meet_50 : decode cX8_meet 50 = .ok (.iload_n 1, 1) := by decide +kernel
theorem dX8_meet_51 : decode cX8_meet 51 = .ok (.iaload, 1) := by decide +kernel
theorem dX8_meet_52 : decode cX8_meet 52 = .ok (.iconst 1, 1) := by decide +kernel
theorem dX8_meet_53 : decode cX8_meet 53 = .ok (.iadd, 1) := by decide +kernel
theorem dX8_meet_54 : decode cX8_meet 54 = .ok (.if_icmp .ne 18, 3) := by decide +kernel
theorem dX8_meet_57 : decode cX8_meet 57 = .ok (.aload_n 0, 1) := by decide +kernel
theorem dX8_meet_58 : decode cX8_meet 58 = .ok (.getfield 24, 3) := by decide +kernel
theorem dX8_meet_61 : decode cX8_meet 61 = .ok (.iload_n 3, 1) := by decide +kernel
theorem dX8_meet_62 : decode cX8_meet 62 = .ok (.dup2, 1) := by decide +kernel
theorem dX8_meet_63 : decode cX8_meet 63 = .ok (.laload, 1) := by decide +kernel
theorem dX8_meet_64 : decode cX8_meet 64 = .ok (.aload_n 0, 1) := by decide +kernel
theorem dX8_meet_65 : decode cX8_meet 65 = .ok (.getfield 24, 3) := by decide +kernel
theorem dX8_meet_68 : decode cX8_meet 68 = .ok (.iload_n 1, 1) := by decide +kernel
theorem dX8_meet_69 : decode cX8_meet 69 = .ok (.laload, 1) := by decide +kernel
theorem dX8_meet_70 : decode cX8_meet 70 = .ok (.ladd, 1) := by decide +kernel
theorem dX8_meet_71 : decode cX8_meet 71 = .ok (.lastore, 1) := by decide +kernel
theorem dX8_meet_72 : decode cX8_meet 72 = .ok (.return_, 1) := by decide +kernel
theorem dX8_add_0 : decode cX8_add 0 = .ok (.iload_n 1, 1) := by decide +kernel
theorem dX8_add_1 : decode cX8_add 1 = .ok (.invokestatic 38, 3) := by decide +kernel
theorem dX8_add_4 : decode cX8_add 4 = .ok (.ifCond .eq 13, 3) := by decide +kernel
theorem dX8_add_7 : decode cX8_add 7 = .ok (.aload_n 0, 1) := by decide +kernel
theorem dX8_add_8 : decode cX8_add 8 = .ok (.getfield 34, 3) := by decide +kernel
theorem dX8_add_11 : decode cX8_add 11 = .ok (.sipush 600, 3) := by decide +kernel
theorem dX8_add_14 : decode cX8_add 14 = .ok (.if_icmp .lt 4, 3) := by decide +kernel
theorem dX8_add_17 : decode cX8_add 17 = .ok (.return_, 1) := by decide +kernel
theorem dX8_add_18 : decode cX8_add 18 = .ok (.aload_n 0, 1) := by decide +kernel
theorem dX8_add_19 : decode cX8_add 19 = .ok (.getfield 9, 3) := by decide +kernel
theorem dX8_add_22 : decode cX8_add 22 = .ok (.iload_n 1, 1) := by decide +kernel
theorem dX8_add_23 : decode cX8_add 23 = .ok (.iload_n 2, 1) := by decide +kernel
theorem dX8_add_24 : decode cX8_add 24 = .ok (.iastore, 1) := by decide +kernel
theorem dX8_add_25 : decode cX8_add 25 = .ok (.aload_n 0, 1) := by decide +kernel
theorem dX8_add_26 : decode cX8_add 26 = .ok (.getfield 18, 3) := by decide +kernel
theorem dX8_add_29 : decode cX8_add 29 = .ok (.iload_n 1, 1) := by decide +kernel
theorem dX8_add_30 : decode cX8_add 30 = .ok (.iload_n 3, 1) := by decide +kernel
theorem dX8_add_31 : decode cX8_add 31 = .ok (.iastore, 1) := by decide +kernel
theorem dX8_add_32 : decode cX8_add 32 = .ok (.aload_n 0, 1) := by decide +kernel
theorem dX8_add_33 : decode cX8_add 33 = .ok (.getfield 15, 3) := by decide +kernel
theorem dX8_add_36 : decode cX8_add 36 = .ok (.iload_n 1, 1) := by decide +kernel
theorem dX8_add_37 : decode cX8_add 37 = .ok (.iload 4, 2) := by decide +kernel
theorem dX8_add_39 : decode cX8_add 39 = .ok (.iastore, 1) := by decide +kernel
theorem dX8_add_40 : decode cX8_add 40 = .ok (.aload_n 0, 1) := by decide +kernel
theorem dX8_add_41 : decode cX8_add 41 = .ok (.getfield 24, 3) := by decide +kernel
theorem dX8_add_44 : decode cX8_add 44 = .ok (.iload_n 1, 1) := by decide +kernel
theorem dX8_add_45 : decode cX8_add 45 = .ok (.lconst 0, 1) := by decide +kernel
theorem dX8_add_46 : decode cX8_add 46 = .ok (.lastore, 1) := by decide +kernel
theorem dX8_add_47 : decode cX8_add 47 = .ok (.aload_n 0, 1) := by decide +kernel
theorem dX8_add_48 : decode cX8_add 48 = .ok (.getfield 21, 3) := by decide +kernel
theorem dX8_add_51 : decode cX8_add 51 = .ok (.aload_n 0, 1) := by decide +kernel
theorem dX8_add_52 : decode cX8_add 52 = .ok (.getfield 34, 3) := by decide +kernel
theorem dX8_add_55 : decode cX8_add 55 = .ok (.iload_n 1, 1) := by decide +kernel
theorem dX8_add_56 : decode cX8_add 56 = .ok (.iastore, 1) := by decide +kernel
theorem dX8_add_57 : decode cX8_add 57 = .ok (.aload_n 0, 1) := by decide +kernel
theorem dX8_add_58 : decode cX8_add 58 = .ok (.dup, 1) := by decide +kernel
theorem dX8_add_59 : decode cX8_add 59 = .ok (.getfield 34, 3) := by decide +kernel
theorem dX8_add_62 : decode cX8_add 62 = .ok (.iconst 1, 1) := by decide +kernel
theorem dX8_add_63 : decode cX8_add 63 = .ok (.iadd, 1) := by decide +kernel
theorem dX8_add_64 : decode cX8_add 64 = .ok (.putfield 34, 3) := by decide +kernel
theorem dX8_add_67 : decode cX8_add 67 = .ok (.return_, 1) := by decide +kernel
theorem dX8_isState_0 : decode cX8_isState 0 = .ok (.iload_n 0, 1) := by decide +kernel
theorem dX8_isState_1 : decode cX8_isState 1 = .ok (.ifCond .lt 14, 3) := by decide +kernel
theorem dX8_isState_4 : decode cX8_isState 4 = .ok (.iload_n 0, 1) := by decide +kernel
theorem dX8_isState_5 : decode cX8_isState 5 = .ok (.sipush 600, 3) := by decide +kernel
theorem dX8_isState_8 : decode cX8_isState 8 = .ok (.if_icmp .ge 7, 3) := by decide +kernel
theorem dX8_isState_11 : decode cX8_isState 11 = .ok (.iconst 1, 1) := by decide +kernel
theorem dX8_isState_12 : decode cX8_isState 12 = .ok (.goto 4, 3) := by decide +kernel
theorem dX8_isState_15 : decode cX8_isState 15 = .ok (.iconst 0, 1) := by decide +kernel
theorem dX8_isState_16 : decode cX8_isState 16 = .ok (.ireturn, 1) := by decide +kernel
theorem dX8_reached_0 : decode cX8_reached 0 = .ok (.aload_n 0, 1) := by decide +kernel
theorem dX8_reached_1 : decode cX8_reached 1 = .ok (.getfield 34, 3) := by decide +kernel
theorem dX8_reached_4 : decode cX8_reached 4 = .ok (.ireturn, 1) := by decide +kernel
theorem dX8_reachedAt_0 : decode cX8_reachedAt 0 = .ok (.iload_n 1, 1) := by decide +kernel
theorem dX8_reachedAt_1 : decode cX8_reachedAt 1 = .ok (.ifCond .lt 27, 3) := by decide +kernel
theorem dX8_reachedAt_4 : decode cX8_reachedAt 4 = .ok (.iload_n 1, 1) := by decide +kernel
theorem dX8_reachedAt_5 : decode cX8_reachedAt 5 = .ok (.aload_n 0, 1) := by decide +kernel
theorem dX8_reachedAt_6 : decode cX8_reachedAt 6 = .ok (.getfield 34, 3) := by decide +kernel
theorem dX8_reachedAt_9 : decode cX8_reachedAt 9 = .ok (.if_icmp .ge 19, 3) := by decide +kernel
theorem dX8_reachedAt_12 : decode cX8_reachedAt 12 = .ok (.iload_n 1, 1) := by decide +kernel
theorem dX8_reachedAt_13 : decode cX8_reachedAt 13 = .ok (.sipush 600, 3) := by decide +kernel
theorem dX8_reachedAt_16 : decode cX8_reachedAt 16 = .ok (.if_icmp .ge 12, 3) := by decide +kernel
theorem dX8_reachedAt_19 : decode cX8_reachedAt 19 = .ok (.aload_n 0, 1) := by decide +kernel
theorem dX8_reachedAt_20 : decode cX8_reachedAt 20 = .ok (.getfield 21, 3) := by decide +kernel
theorem dX8_reachedAt_23 : decode cX8_reachedAt 23 = .ok (.iload_n 1, 1) := by decide +kernel
theorem dX8_reachedAt_24 : decode cX8_reachedAt 24 = .ok (.iaload, 1) := by decide +kernel
theorem dX8_reachedAt_25 : decode cX8_reachedAt 25 = .ok (.goto 4, 3) := by decide +kernel
theorem dX8_reachedAt_28 : decode cX8_reachedAt 28 = .ok (.iconst (-1), 1) := by decide +kernel
theorem dX8_reachedAt_29 : decode cX8_reachedAt 29 = .ok (.ireturn, 1) := by decide +kernel
theorem dX8_distanceTo_0 : decode cX8_distanceTo 0 = .ok (.iload_n 1, 1) := by decide +kernel
theorem dX8_distanceTo_1 : decode cX8_distanceTo 1 = .ok (.invokestatic 38, 3) := by decide +kernel
theorem dX8_distanceTo_4 : decode cX8_distanceTo 4 = .ok (.ifCond .eq 12, 3) := by decide +kernel
theorem dX8_distanceTo_7 : decode cX8_distanceTo 7 = .ok (.aload_n 0, 1) := by decide +kernel
theorem dX8_distanceTo_8 : decode cX8_distanceTo 8 = .ok (.getfield 9, 3) := by decide +kernel
theorem dX8_distanceTo_11 : decode cX8_distanceTo 11 = .ok (.iload_n 1, 1) := by decide +kernel
theorem dX8_distanceTo_12 : decode cX8_distanceTo 12 = .ok (.iaload, 1) := by decide +kernel
theorem dX8_distanceTo_13 : decode cX8_distanceTo 13 = .ok (.goto 4, 3) := by decide +kernel
theorem dX8_distanceTo_16 : decode cX8_distanceTo 16 = .ok (.iconst (-1), 1) := by decide +kernel
theorem dX8_distanceTo_17 : decode cX8_distanceTo 17 = .ok (.ireturn, 1) := by decide +kernel
theorem dX8_pathsTo_0 : decode cX8_pathsTo 0 = .ok (.iload_n 1, 1) := by decide +kernel
theorem dX8_pathsTo_1 : decode cX8_pathsTo 1 = .ok (.invokestatic 38, 3) := by decide +kernel
theorem dX8_pathsTo_4 : decode cX8_pathsTo 4 = .ok (.ifCond .eq 12, 3) := by decide +kernel
theorem dX8_pathsTo_7 : decode cX8_pathsTo 7 = .ok (.aload_n 0, 1) := by decide +kernel
theorem dX8_pathsTo_8 : decode cX8_pathsTo 8 = .ok (.getfield 24, 3) := by decide +kernel
theorem dX8_pathsTo_11 : decode cX8_pathsTo 11 = .ok (.iload_n 1, 1) := by decide +kernel
theorem dX8_pathsTo_12 : decode cX8_pathsTo 12 = .ok (.laload, 1) := by decide +kernel
theorem dX8_pathsTo_13 : decode cX8_pathsTo 13 = .ok (.goto 4, 3) := by decide +kernel
theorem dX8_pathsTo_16 : decode cX8_pathsTo 16 = .ok (.lconst 0, 1) := by decide +kernel
theorem dX8_pathsTo_17 : decode cX8_pathsTo 17 = .ok (.lreturn, 1) := by decide +kernel
theorem dX8_stepTo_0 : decode cX8_stepTo 0 = .ok (.aload_n 0, 1) := by decide +kernel
theorem dX8_stepTo_1 : decode cX8_stepTo 1 = .ok (.iload_n 1, 1) := by decide +kernel
theorem dX8_stepTo_2 : decode cX8_stepTo 2 = .ok (.invokevirtual 63, 3) := by decide +kernel
theorem dX8_stepTo_5 : decode cX8_stepTo 5 = .ok (.istore_n 3, 1) := by decide +kernel
theorem dX8_stepTo_6 : decode cX8_stepTo 6 = .ok (.iload_n 2, 1) := by decide +kernel
theorem dX8_stepTo_7 : decode cX8_stepTo 7 = .ok (.ifCond .lt 8, 3) := by decide +kernel
theorem dX8_stepTo_10 : decode cX8_stepTo 10 = .ok (.iload_n 2, 1) := by decide +kernel
theorem dX8_stepTo_11 : decode cX8_stepTo 11 = .ok (.iload_n 3, 1) := by decide +kernel
theorem dX8_stepTo_12 : decode cX8_stepTo 12 = .ok (.if_icmp .lt 6, 3) := by decide +kernel
theorem dX8_stepTo_15 : decode cX8_stepTo 15 = .ok (.bipush (-9), 2) := by decide +kernel
theorem dX8_stepTo_17 : decode cX8_stepTo 17 = .ok (.ireturn, 1) := by decide +kernel
theorem dX8_stepTo_18 : decode cX8_stepTo 18 = .ok (.iload_n 1, 1) := by decide +kernel
theorem dX8_stepTo_19 : decode cX8_stepTo 19 = .ok (.istore 4, 2) := by decide +kernel
theorem dX8_stepTo_21 : decode cX8_stepTo 21 = .ok (.iload_n 3, 1) := by decide +kernel
theorem dX8_stepTo_22 : decode cX8_stepTo 22 = .ok (.iconst 1, 1) := by decide +kernel
theorem dX8_stepTo_23 : decode cX8_stepTo 23 = .ok (.isub, 1) := by decide +kernel
theorem dX8_stepTo_24 : decode cX8_stepTo 24 = .ok (.istore 5, 2) := by decide +kernel
theorem dX8_stepTo_26 : decode cX8_stepTo 26 = .ok (.iload 5, 2) := by decide +kernel
theorem dX8_stepTo_28 : decode cX8_stepTo 28 = .ok (.iload_n 2, 1) := by decide +kernel
theorem dX8_stepTo_29 : decode cX8_stepTo 29 = .ok (.if_icmp .le 26, 3) := by decide +kernel
theorem dX8_stepTo_32 : decode cX8_stepTo 32 = .ok (.iload 4, 2) := by decide +kernel
theorem dX8_stepTo_34 : decode cX8_stepTo 34 = .ok (.invokestatic 38, 3) := by decide +kernel
theorem dX8_stepTo_37 : decode cX8_stepTo 37 = .ok (.ifCond .eq 18, 3) := by decide +kernel
theorem dX8_stepTo_40 : decode cX8_stepTo 40 = .ok (.aload_n 0, 1) := by decide +kernel
theorem dX8_stepTo_41 : decode cX8_stepTo 41 = .ok (.getfield 18, 3) := by decide +kernel
theorem dX8_stepTo_44 : decode cX8_stepTo 44 = .ok (.iload 4, 2) := by decide +kernel
theorem dX8_stepTo_46 : decode cX8_stepTo 46 = .ok (.iaload, 1) := by decide +kernel
theorem dX8_stepTo_47 : decode cX8_stepTo 47 = .ok (.istore 4, 2) := by decide +kernel
theorem dX8_stepTo_49 : decode cX8_stepTo 49 = .ok (.iinc 5 (-1), 3) := by decide +kernel
theorem dX8_stepTo_52 : decode cX8_stepTo 52 = .ok (.goto (-26), 3) := by decide +kernel
theorem dX8_stepTo_55 : decode cX8_stepTo 55 = .ok (.iload 4, 2) := by decide +kernel
theorem dX8_stepTo_57 : decode cX8_stepTo 57 = .ok (.invokestatic 38, 3) := by decide +kernel
theorem dX8_stepTo_60 : decode cX8_stepTo 60 = .ok (.ifCond .eq 13, 3) := by decide +kernel
theorem dX8_stepTo_63 : decode cX8_stepTo 63 = .ok (.aload_n 0, 1) := by decide +kernel
theorem dX8_stepTo_64 : decode cX8_stepTo 64 = .ok (.getfield 15, 3) := by decide +kernel
theorem dX8_stepTo_67 : decode cX8_stepTo 67 = .ok (.iload 4, 2) := by decide +kernel
theorem dX8_stepTo_69 : decode cX8_stepTo 69 = .ok (.iaload, 1) := by decide +kernel
theorem dX8_stepTo_70 : decode cX8_stepTo 70 = .ok (.goto 5, 3) := by decide +kernel
theorem dX8_stepTo_73 : decode cX8_stepTo 73 = .ok (.bipush (-9), 2) := by decide +kernel
theorem dX8_stepTo_75 : decode cX8_stepTo 75 = .ok (.ireturn, 1) := by decide +kernel
theorem dX9_init_0 : decode cX9_init 0 = .ok (.aload_n 0, 1) := by decide +kernel
theorem dX9_init_1 : decode cX9_init 1 = .ok (.invokespecial 3, 3) := by decide +kernel
theorem dX9_init_4 : decode cX9_init 4 = .ok (.aload_n 0, 1) := by decide +kernel
theorem dX9_init_5 : decode cX9_init 5 = .ok (.bipush 16, 2) := by decide +kernel
theorem dX9_init_7 : decode cX9_init 7 = .ok (.newarray .int, 2) := by decide +kernel
theorem dX9_init_9 : decode cX9_init 9 = .ok (.putfield 9, 3) := by decide +kernel
theorem dX9_init_12 : decode cX9_init 12 = .ok (.aload_n 0, 1) := by decide +kernel
theorem dX9_init_13 : decode cX9_init 13 = .ok (.aload_n 1, 1) := by decide +kernel
theorem dX9_init_14 : decode cX9_init 14 = .ok (.putfield 15, 3) := by decide +kernel
theorem dX9_init_17 : decode cX9_init 17 = .ok (.aload_n 0, 1) := by decide +kernel
theorem dX9_init_18 : decode cX9_init 18 = .ok (.aload_n 2, 1) := by decide +kernel
theorem dX9_init_19 : decode cX9_init 19 = .ok (.putfield 19, 3) := by decide +kernel
theorem dX9_init_22 : decode cX9_init 22 = .ok (.return_, 1) := by decide +kernel
theorem dX9_howMany_0 : decode cX9_howMany 0 = .ok (.aload_n 0, 1) := by decide +kernel
theorem dX9_howMany_1 : decode cX9_howMany 1 = .ok (.iload_n 1, 1) := by decide +kernel
theorem dX9_howMany_2 : decode cX9_howMany 2 = .ok (.iload_n 2, 1) := by decide +kernel
theorem dX9_howMany_3 : decode cX9_howMany 3 = .ok (.iconst 0, 1) := by decide +kernel
theorem dX9_howMany_4 : decode cX9_howMany 4 = .ok (.invokevirtual 23, 3) := by decide +kernel
theorem dX9_howMany_7 : decode cX9_howMany 7 = .ok (.aload_n 0, 1) := by decide +kernel
theorem dX9_howMany_8 : decode cX9_howMany 8 = .ok (.getfield 27, 3) := by decide +kernel
theorem dX9_howMany_11 : decode cX9_howMany 11 = .ok (.ireturn, 1) := by decide +kernel
theorem dX9_stepAt_0 : decode cX9_stepAt 0 = .ok (.aload_n 0, 1) := by decide +kernel
theorem dX9_stepAt_1 : decode cX9_stepAt 1 = .ok (.iload_n 1, 1) := by decide +kernel
theorem dX9_stepAt_2 : decode cX9_stepAt 2 = .ok (.iload_n 2, 1) := by decide +kernel
theorem dX9_stepAt_3 : decode cX9_stepAt 3 = .ok (.iconst 1, 1) := by decide +kernel
theorem dX9_stepAt_4 : decode cX9_stepAt 4 = .ok (.invokevirtual 23, 3) := by decide +kernel
theorem dX9_stepAt_7 : decode cX9_stepAt 7 = .ok (.aload_n 0, 1) := by decide +kernel
theorem dX9_stepAt_8 : decode cX9_stepAt 8 = .ok (.getfield 27, 3) := by decide +kernel
theorem dX9_stepAt_11 : decode cX9_stepAt 11 = .ok (.ifCond .le 30, 3) := by decide +kernel
theorem dX9_stepAt_14 : decode cX9_stepAt 14 = .ok (.iload_n 3, 1) := by decide +kernel
theorem dX9_stepAt_15 : decode cX9_stepAt 15 = .ok (.ifCond .lt 26, 3) := by decide +kernel
theorem dX9_stepAt_18 : decode cX9_stepAt 18 = .ok (.iload_n 3, 1) := by decide +kernel
theorem dX9_stepAt_19 : decode cX9_stepAt 19 = .ok (.aload_n 0, 1) := by decide +kernel
theorem dX9_stepAt_20 : decode cX9_stepAt 20 = .ok (.getfield 31, 3) := by decide +kernel
theorem dX9_stepAt_23 : decode cX9_stepAt 23 = .ok (.if_icmp .ge 18, 3) := by decide +kernel
theorem dX9_stepAt_26 : decode cX9_stepAt 26 = .ok (.iload_n 3, 1) := by decide +kernel
theorem dX9_stepAt_27 : decode cX9_stepAt 27 = .ok (.bipush 16, 2) := by decide +kernel
theorem dX9_stepAt_29 : decode cX9_stepAt 29 = .ok (.if_icmp .ge 12, 3) := by decide +kernel
theorem dX9_stepAt_32 : decode cX9_stepAt 32 = .ok (.aload_n 0, 1) := by decide +kernel
theorem dX9_stepAt_33 : decode cX9_stepAt 33 = .ok (.getfield 9, 3) := by decide +kernel
theorem dX9_stepAt_36 : decode cX9_stepAt 36 = .ok (.iload_n 3, 1) := by decide +kernel
theorem dX9_stepAt_37 : decode cX9_stepAt 37 = .ok (.iaload, 1) := by decide +kernel
theorem dX9_stepAt_38 : decode cX9_stepAt 38 = .ok (.goto 5, 3) := by decide +kernel
theorem dX9_stepAt_41 : decode cX9_stepAt 41 = .ok (.bipush (-9), 2) := by decide +kernel
theorem dX9_stepAt_43 : decode cX9_stepAt 43 = .ok (.ireturn, 1) := by decide +kernel
theorem dX9_seek_0 : decode cX9_seek 0 = .ok (.aload_n 0, 1) := by decide +kernel
theorem dX9_seek_1 : decode cX9_seek 1 = .ok (.iload_n 2, 1) := by decide +kernel
theorem dX9_seek_2 : decode cX9_seek 2 = .ok (.putfield 34, 3) := by decide +kernel
theorem dX9_seek_5 : decode cX9_seek 5 = .ok (.aload_n 0, 1) := by decide +kernel
theorem dX9_seek_6 : decode cX9_seek 6 = .ok (.aload_n 0, 1) := by decide +kernel
theorem dX9_seek_7 : decode cX9_seek 7 = .ok (.getfield 15, 3) := by decide +kernel
theorem dX9_seek_10 : decode cX9_seek 10 = .ok (.invokevirtual 37, 3) := by decide +kernel
theorem dX9_seek_13 : decode cX9_seek 13 = .ok (.iconst 1, 1) := by decide +kernel
theorem dX9_seek_14 : decode cX9_seek 14 = .ok (.isub, 1) := by decide +kernel
theorem dX9_seek_15 : decode cX9_seek 15 = .ok (.putfield 31, 3) := by decide +kernel
theorem dX9_seek_18 : decode cX9_seek 18 = .ok (.aload_n 0, 1) := by decide +kernel
theorem dX9_seek_19 : decode cX9_seek 19 = .ok (.iload_n 3, 1) := by decide +kernel
theorem dX9_seek_20 : decode cX9_seek 20 = .ok (.putfield 43, 3) := by decide +kernel
theorem dX9_seek_23 : decode cX9_seek 23 = .ok (.aload_n 0, 1) := by decide +kernel
theorem dX9_seek_24 : decode cX9_seek 24 = .ok (.iconst 0, 1) := by decide +kernel
theorem dX9_seek_25 : decode cX9_seek 25 = .ok (.putfield 27, 3) := by decide +kernel
theorem dX9_seek_28 : decode cX9_seek 28 = .ok (.aload_n 0, 1) := by decide +kernel
theorem dX9_seek_29 : decode cX9_seek 29 = .ok (.iload_n 1, 1) := by decide +kernel
theorem dX9_seek_30 : decode cX9_seek 30 = .ok (.iconst 1, 1) := by decide +kernel
theorem dX9_seek_31 : decode cX9_seek 31 = .ok (.iload_n 1, 1) := by decide +kernel
theorem dX9_seek_32 : decode cX9_seek 32 = .ok (.invokestatic 47, 3) := by decide +kernel
theorem dX9_seek_35 : decode cX9_seek 35 = .ok (.ishl, 1) := by decide +kernel
theorem dX9_seek_36 : decode cX9_seek 36 = .ok (.iconst 0, 1) := by decide +kernel
theorem dX9_seek_37 : decode cX9_seek 37 = .ok (.invokevirtual 53, 3) := by decide +kernel
theorem dX9_seek_40 : decode cX9_seek 40 = .ok (.return_, 1) := by decide +kernel
theorem dX9_extend_0 : decode cX9_extend 0 = .ok (.iload_n 3, 1) := by decide +kernel
theorem dX9_extend_1 : decode cX9_extend 1 = .ok (.aload_n 0, 1) := by decide +kernel
theorem dX9_extend_2 : decode cX9_extend 2 = .ok (.getfield 31, 3) := by decide +kernel
theorem dX9_extend_5 : decode cX9_extend 5 = .ok (.if_icmp .ge 9, 3) := by decide +kernel
theorem dX9_extend_8 : decode cX9_extend 8 = .ok (.iload_n 3, 1) := by decide +kernel
theorem dX9_extend_9 : decode cX9_extend 9 = .ok (.bipush 16, 2) := by decide +kernel
theorem dX9_extend_11 : decode cX9_extend 11 = .ok (.if_icmp .lt 27, 3) := by decide +kernel
theorem dX9_extend_14 : decode cX9_extend 14 = .ok (.aload_n 0, 1) := by decide +kernel
theorem dX9_extend_15 : decode cX9_extend 15 = .ok (.dup, 1) := by decide +kernel
theorem dX9_extend_16 : decode cX9_extend 16 = .ok (.getfield 27, 3) := by decide +kernel
theorem dX9_extend_19 : decode cX9_extend 19 = .ok (.iload_n 1, 1) := by decide +kernel
theorem dX9_extend_20 : decode cX9_extend 20 = .ok (.invokestatic 57, 3) := by decide +kernel
theorem dX9_extend_23 : decode cX9_extend 23 = .ok (.aload_n 0, 1) := by decide +kernel
theorem dX9_extend_24 : decode cX9_extend 24 = .ok (.getfield 34, 3) := by decide +kernel
theorem dX9_extend_27 : decode cX9_extend 27 = .ok (.invokestatic 60, 3) := by decide +kernel
theorem dX9_extend_30 : decode cX9_extend 30 = .ok (.invokestatic 66, 3) := by decide +kernel
theorem dX9_extend_33 : decode cX9_extend 33 = .ok (.iadd, 1) := by decide +kernel
theorem dX9_extend_34 : decode cX9_extend 34 = .ok (.putfield 27, 3) := by decide +kernel
theorem dX9_extend_37 : decode cX9_extend 37 = .ok (.return_, 1) := by decide +kernel
theorem dX9_extend_38 : decode cX9_extend 38 = .ok (.iconst 0, 1) := by decide +kernel
theorem dX9_extend_39 : decode cX9_extend 39 = .ok (.istore 4, 2) := by decide +kernel
theorem dX9_extend_41 : decode cX9_extend 41 = .ok (.iload 4, 2) := by decide +kernel
theorem dX9_extend_43 : decode cX9_extend 43 = .ok (.iconst 4, 1) := by decide +kernel
theorem dX9_extend_44 : decode cX9_extend 44 = .ok (.if_icmp .ge 78, 3) := by decide +kernel
theorem dX9_extend_47 : decode cX9_extend 47 = .ok (.aload_n 0, 1) := by decide +kernel
theorem dX9_extend_48 : decode cX9_extend 48 = .ok (.getfield 43, 3) := by decide +kernel
theorem dX9_extend_51 : decode cX9_extend 51 = .ok (.ifCond .eq 10, 3) := by decide +kernel
theorem dX9_extend_54 : decode cX9_extend 54 = .ok (.aload_n 0, 1) := by decide +kernel
theorem dX9_extend_55 : decode cX9_extend 55 = .ok (.getfield 27, 3) := by decide +kernel
theorem dX9_extend_58 : decode cX9_extend 58 = .ok (.ifCond .gt 64, 3) := by decide +kernel
theorem dX9_extend_61 : decode cX9_extend 61 = .ok (.aload_n 0, 1) := by decide +kernel
theorem dX9_extend_62 : decode cX9_extend 62 = .ok (.getfield 19, 3) := by decide +kernel
theorem dX9_extend_65 : decode cX9_extend 65 = .ok (.iload_n 1, 1) := by decide +kernel
theorem dX9_extend_66 : decode cX9_extend 66 = .ok (.iload 4, 2) := by decide +kernel
theorem dX9_extend_68 : decode cX9_extend 68 = .ok (.invokevirtual 70, 3) := by decide +kernel
theorem dX9_extend_71 : decode cX9_extend 71 = .ok (.istore 5, 2) := by decide +kernel
theorem dX9_extend_73 : decode cX9_extend 73 = .ok (.iconst 1, 1) := by decide +kernel
theorem dX9_extend_74 : decode cX9_extend 74 = .ok (.iload 5, 2) := by decide +kernel
theorem dX9_extend_76 : decode cX9_extend 76 = .ok (.invokestatic 47, 3) := by decide +kernel
theorem dX9_extend_79 : decode cX9_extend 79 = .ok (.ishl, 1) := by decide +kernel
theorem dX9_extend_80 : decode cX9_extend 80 = .ok (.istore 6, 2) := by decide +kernel
theorem dX9_extend_82 : decode cX9_extend 82 = .ok (.iload 5, 2) := by decide +kernel
theorem dX9_extend_84 : decode cX9_extend 84 = .ok (.iconst (-1), 1) := by decide +kernel
theorem dX9_extend_85 : decode cX9_extend 85 = .ok (.if_icmp .eq 31, 3) := by decide +kernel
theorem dX9_extend_88 : decode cX9_extend 88 = .ok (.iload_n 2, 1) := by decide +kernel
theorem dX9_extend_89 : decode cX9_extend 89 = .ok (.iload 6, 2) := by decide +kernel
theorem dX9_extend_91 : decode cX9_extend 91 = .ok (.iand, 1) := by decide +kernel
theorem dX9_extend_92 : decode cX9_extend 92 = .ok (.ifCond .ne 24, 3) := by decide +kernel
theorem dX9_extend_95 : decode cX9_extend 95 = .ok (.aload_n 0, 1) := by decide +kernel
theorem dX9_extend_96 : decode cX9_extend 96 = .ok (.getfield 9, 3) := by decide +kernel
theorem dX9_extend_99 : decode cX9_extend 99 = .ok (.iload_n 3, 1) := by decide +kernel
theorem dX9_extend_100 : decode cX9_extend 100 = .ok (.iload 4, 2) := by decide +kernel
theorem dX9_extend_102 : decode cX9_extend 102 = .ok (.iastore, 1) := by decide +kernel
theorem dX9_extend_103 : decode cX9_extend 103 = .ok (.aload_n 0, 1) := by decide +kernel
theorem dX9_extend_104 : decode cX9_extend 104 = .ok (.iload 5, 2) := by decide +kernel
theorem dX9_extend_106 : decode cX9_extend 106 = .ok (.iload_n 2, 1) := by decide +kernel
theorem dX9_extend_107 : decode cX9_extend 107 = .ok (.iload 6, 2) := by decide +kernel
theorem dX9_extend_109 : decode cX9_extend 109 = .ok (.ior, 1) := by decide +kernel
theorem dX9_extend_110 : decode cX9_extend 110 = .ok (.iload_n 3, 1) := by decide +kernel
theorem dX9_extend_111 : decode cX9_extend 111 = .ok (.iconst 1, 1) := by decide +kernel
theorem dX9_extend_112 : decode cX9_extend 112 = .ok (.iadd, 1) := by decide +kernel
theorem dX9_extend_113 : decode cX9_extend 113 = .ok (.invokevirtual 53, 3) := by decide +kernel
theorem dX9_extend_116 : decode cX9_extend 116 = .ok (.iinc 4 1, 3) := by decide +kernel
theorem dX9_extend_119 : decode cX9_extend 119 = .ok (.goto (-78), 3) := by decide +kernel
theorem dX9_extend_122 : decode cX9_extend 122 = .ok (.return_, 1) := by decide +kernel
theorem dX10_init_0 : decode cX10_init 0 = .ok (.aload_n 0, 1) := by decide +kernel
theorem dX10_init_1 : decode cX10_init 1 = .ok (.invokespecial 3, 3) := by decide +kernel
theorem dX10_init_4 : decode cX10_init 4 = .ok (.aload_n 0, 1) := by decide +kernel
theorem dX10_init_5 : decode cX10_init 5 = .ok (.new 9, 3) := by decide +kernel
theorem dX10_init_8 : decode cX10_init 8 = .ok (.dup, 1) := by decide +kernel
theorem dX10_init_9 : decode cX10_init 9 = .ok (.invokespecial 11, 3) := by decide +kernel
theorem dX10_init_12 : decode cX10_init 12 = .ok (.putfield 12, 3) := by decide +kernel
theorem dX10_init_15 : decode cX10_init 15 = .ok (.aload_n 0, 1) := by decide +kernel
theorem dX10_init_16 : decode cX10_init 16 = .ok (.new 16, 3) := by decide +kernel
theorem dX10_init_19 : decode cX10_init 19 = .ok (.dup, 1) := by decide +kernel
theorem dX10_init_20 : decode cX10_init 20 = .ok (.invokespecial 18, 3) := by decide +kernel
theorem dX10_init_23 : decode cX10_init 23 = .ok (.putfield 19, 3) := by decide +kernel
theorem dX10_init_26 : decode cX10_init 26 = .ok (.aload_n 0, 1) := by decide +kernel
theorem dX10_init_27 : decode cX10_init 27 = .ok (.new 23, 3) := by decide +kernel
theorem dX10_init_30 : decode cX10_init 30 = .ok (.dup, 1) := by decide +kernel
theorem dX10_init_31 : decode cX10_init 31 = .ok (.invokespecial 25, 3) := by decide +kernel
theorem dX10_init_34 : decode cX10_init 34 = .ok (.putfield 26, 3) := by decide +kernel
theorem dX10_init_37 : decode cX10_init 37 = .ok (.aload_n 0, 1) := by decide +kernel
theorem dX10_init_38 : decode cX10_init 38 = .ok (.new 30, 3) := by decide +kernel
theorem dX10_init_41 : decode cX10_init 41 = .ok (.dup, 1) := by decide +kernel
theorem dX10_init_42 : decode cX10_init 42 = .ok (.aload_n 0, 1) := by decide +kernel
theorem dX10_init_43 : decode cX10_init 43 = .ok (.getfield 12, 3) := by decide +kernel
theorem dX10_init_46 : decode cX10_init 46 = .ok (.invokespecial 32, 3) := by decide +kernel
theorem dX10_init_49 : decode cX10_init 49 = .ok (.putfield 35, 3) := by decide +kernel
theorem dX10_init_52 : decode cX10_init 52 = .ok (.aload_n 0, 1) := by decide +kernel
theorem dX10_init_53 : decode cX10_init 53 = .ok (.new 39, 3) := by decide +kernel
theorem dX10_init_56 : decode cX10_init 56 = .ok (.dup, 1) := by decide +kernel
theorem dX10_init_57 : decode cX10_init 57 = .ok (.aload_n 0, 1) := by decide +kernel
theorem dX10_init_58 : decode cX10_init 58 = .ok (.getfield 35, 3) := by decide +kernel
theorem dX10_init_61 : decode cX10_init 61 = .ok (.aload_n 0, 1) := by decide +kernel
theorem dX10_init_62 : decode cX10_init 62 = .ok (.getfield 26, 3) := by decide +kernel
theorem dX10_init_65 : decode cX10_init 65 = .ok (.invokespecial 41, 3) := by decide +kernel
theorem dX10_init_68 : decode cX10_init 68 = .ok (.putfield 44, 3) := by decide +kernel
theorem dX10_init_71 : decode cX10_init 71 = .ok (.aload_n 0, 1) := by decide +kernel
theorem dX10_init_72 : decode cX10_init 72 = .ok (.new 48, 3) := by decide +kernel
theorem dX10_init_75 : decode cX10_init 75 = .ok (.dup, 1) := by decide +kernel
theorem dX10_init_76 : decode cX10_init 76 = .ok (.aload_n 0, 1) := by decide +kernel
theorem dX10_init_77 : decode cX10_init 77 = .ok (.getfield 12, 3) := by decide +kernel
theorem dX10_init_80 : decode cX10_init 80 = .ok (.aload_n 0, 1) := by decide +kernel
theorem dX10_init_81 : decode cX10_init 81 = .ok (.getfield 35, 3) := by decide +kernel
theorem dX10_init_84 : decode cX10_init 84 = .ok (.invokespecial 50, 3) := by decide +kernel
theorem dX10_init_87 : decode cX10_init 87 = .ok (.putfield 53, 3) := by decide +kernel
theorem dX10_init_90 : decode cX10_init 90 = .ok (.aload_n 0, 1) := by decide +kernel
theorem dX10_init_91 : decode cX10_init 91 = .ok (.new 57, 3) := by decide +kernel
theorem dX10_init_94 : decode cX10_init 94 = .ok (.dup, 1) := by decide +kernel
theorem dX10_init_95 : decode cX10_init 95 = .ok (.aload_n 0, 1) := by decide +kernel
theorem dX10_init_96 : decode cX10_init 96 = .ok (.getfield 12, 3) := by decide +kernel
theorem dX10_init_99 : decode cX10_init 99 = .ok (.aload_n 0, 1) := by decide +kernel
theorem dX10_init_100 : decode cX10_init 100 = .ok (.getfield 35, 3) := by decide +kernel
theorem dX10_init_103 : decode cX10_init 103 = .ok (.invokespecial 59, 3) := by decide +kernel
theorem dX10_init_106 : decode cX10_init 106 = .ok (.putfield 60, 3) := by decide +kernel
theorem dX10_init_109 : decode cX10_init 109 = .ok (.aload_n 0, 1) := by decide +kernel
theorem dX10_init_110 : decode cX10_init 110 = .ok (.new 64, 3) := by decide +kernel
theorem dX10_init_113 : decode cX10_init 113 = .ok (.dup, 1) := by decide +kernel
theorem dX10_init_114 : decode cX10_init 114 = .ok (.aload_n 0, 1) := by decide +kernel
theorem dX10_init_115 : decode cX10_init 115 = .ok (.getfield 12, 3) := by decide +kernel
theorem dX10_init_118 : decode cX10_init 118 = .ok (.aload_n 0, 1) := by decide +kernel
theorem dX10_init_119 : decode cX10_init 119 = .ok (.getfield 26, 3) := by decide +kernel
theorem dX10_init_122 : decode cX10_init 122 = .ok (.invokespecial 66, 3) := by decide +kernel
theorem dX10_init_125 : decode cX10_init 125 = .ok (.putfield 69, 3) := by decide +kernel
theorem dX10_init_128 : decode cX10_init 128 = .ok (.return_, 1) := by decide +kernel
theorem dX10_board_0 : decode cX10_board 0 = .ok (.iload_n 1, 1) := by decide +kernel
theorem dX10_board_1 : decode cX10_board 1 = .ok (.invokestatic 73, 3) := by decide +kernel
theorem dX10_board_4 : decode cX10_board 4 = .ok (.ifCond .eq 10, 3) := by decide +kernel
theorem dX10_board_7 : decode cX10_board 7 = .ok (.iload_n 2, 1) := by decide +kernel
theorem dX10_board_8 : decode cX10_board 8 = .ok (.invokestatic 73, 3) := by decide +kernel
theorem dX10_board_11 : decode cX10_board 11 = .ok (.ifCond .ne 6, 3) := by decide +kernel
theorem dX10_board_14 : decode cX10_board 14 = .ok (.bipush (-2), 2) := by decide +kernel
theorem dX10_board_16 : decode cX10_board 16 = .ok (.ireturn, 1) := by decide +kernel
theorem dX10_board_17 : decode cX10_board 17 = .ok (.aload_n 0, 1) := by decide +kernel
theorem dX10_board_18 : decode cX10_board 18 = .ok (.getfield 12, 3) := by decide +kernel
theorem dX10_board_21 : decode cX10_board 21 = .ok (.iload_n 1, 1) := by decide +kernel
theorem dX10_board_22 : decode cX10_board 22 = .ok (.iload_n 2, 1) := by decide +kernel
theorem dX10_board_23 : decode cX10_board 23 = .ok (.invokevirtual 77, 3) := by decide +kernel
theorem dX10_board_26 : decode cX10_board 26 = .ok (.aload_n 0, 1) := by decide +kernel
theorem dX10_board_27 : decode cX10_board 27 = .ok (.getfield 12, 3) := by decide +kernel
theorem dX10_board_30 : decode cX10_board 30 = .ok (.invokevirtual 81, 3) := by decide +kernel
theorem dX10_board_33 : decode cX10_board 33 = .ok (.ireturn, 1) := by decide +kernel
theorem dX10_cell_0 : decode cX10_cell 0 = .ok (.aload_n 0, 1) := by decide +kernel
theorem dX10_cell_1 : decode cX10_cell 1 = .ok (.getfield 12, 3) := by decide +kernel
theorem dX10_cell_4 : decode cX10_cell 4 = .ok (.iload_n 1, 1) := by decide +kernel
theorem dX10_cell_5 : decode cX10_cell 5 = .ok (.invokevirtual 85, 3) := by decide +kernel
theorem dX10_cell_8 : decode cX10_cell 8 = .ok (.ifCond .ne 5, 3) := by decide +kernel
theorem dX10_cell_11 : decode cX10_cell 11 = .ok (.iconst (-1), 1) := by decide +kernel
theorem dX10_cell_12 : decode cX10_cell 12 = .ok (.ireturn, 1) := by decide +kernel
theorem dX10_cell_13 : decode cX10_cell 13 = .ok (.iload_n 2, 1) := by decide +kernel
theorem dX10_cell_14 : decode cX10_cell 14 = .ok (.ifCond .ne 23, 3) := by decide +kernel
theorem dX10_cell_17 : decode cX10_cell 17 = .ok (.iload_n 3, 1) := by decide +kernel
theorem dX10_cell_18 : decode cX10_cell 18 = .ok (.ifCond .lt 19, 3) := by decide +kernel
theorem dX10_cell_21 : decode cX10_cell 21 = .ok (.iload_n 3, 1) := by decide +kernel
theorem dX10_cell_22 : decode cX10_cell 22 = .ok (.bipush 8, 2) := by decide +kernel
theorem dX10_cell_24 : decode cX10_cell 24 = .ok (.if_icmp .gt 13, 3) := by decide +kernel
theorem dX10_cell_27 : decode cX10_cell 27 = .ok (.aload_n 0, 1) := by decide +kernel
theorem dX10_cell_28 : decode cX10_cell 28 = .ok (.getfield 12, 3) := by decide +kernel
theorem dX10_cell_31 : decode cX10_cell 31 = .ok (.iload_n 1, 1) := by decide +kernel
theorem dX10_cell_32 : decode cX10_cell 32 = .ok (.iload_n 3, 1) := by decide +kernel
theorem dX10_cell_33 : decode cX10_cell 33 = .ok (.invokevirtual 88, 3) := by decide +kernel
theorem dX10_cell_36 : decode cX10_cell 36 = .ok (.ireturn, 1) := by decide +kernel
theorem dX10_cell_37 : decode cX10_cell 37 = .ok (.iload_n 2, 1) := by decide +kernel
theorem dX10_cell_38 : decode cX10_cell 38 = .ok (.iconst 1, 1) := by decide +kernel
theorem dX10_cell_39 : decode cX10_cell 39 = .ok (.if_icmp .ne 23, 3) := by decide +kernel
theorem dX10_cell_42 : decode cX10_cell 42 = .ok (.iload_n 3, 1) := by decide +kernel
theorem dX10_cell_43 : decode cX10_cell 43 = .ok (.ifCond .lt 19, 3) := by decide +kernel
theorem dX10_cell_46 : decode cX10_cell 46 = .ok (.iload_n 3, 1) := by decide +kernel
theorem dX10_cell_47 : decode cX10_cell 47 = .ok (.bipush 6, 2) := by decide +kernel
theorem dX10_cell_49 : decode cX10_cell 49 = .ok (.if_icmp .gt 13, 3) := by decide +kernel
theorem dX10_cell_52 : decode cX10_cell 52 = .ok (.aload_n 0, 1) := by decide +kernel
theorem dX10_cell_53 : decode cX10_cell 53 = .ok (.getfield 12, 3) := by decide +kernel
theorem dX10_cell_56 : decode cX10_cell 56 = .ok (.iload_n 1, 1) := by decide +kernel
theorem dX10_cell_57 : decode cX10_cell 57 = .ok (.iload_n 3, 1) := by decide +kernel
theorem dX10_cell_58 : decode cX10_cell 58 = .ok (.invokevirtual 92, 3) := by decide +kernel
theorem dX10_cell_61 : decode cX10_cell 61 = .ok (.ireturn, 1) := by decide +kernel
theorem dX10_cell_62 : decode cX10_cell 62 = .ok (.bipush (-2), 2) := by decide +kernel
theorem dX10_cell_64 : decode cX10_cell 64 = .ok (.ireturn, 1) := by decide +kernel
theorem dX10_group_0 : decode cX10_group 0 = .ok (.iload_n 1, 1) := by decide +kernel
theorem dX10_group_1 : decode cX10_group 1 = .ok (.ifCond .lt 8, 3) := by decide +kernel
theorem dX10_group_4 : decode cX10_group 4 = .ok (.iload_n 1, 1) := by decide +kernel
theorem dX10_group_5 : decode cX10_group 5 = .ok (.iconst 3, 1) := by decide +kernel
theorem dX10_group_6 : decode cX10_group 6 = .ok (.if_icmp .lt 5, 3) := by decide +kernel
theorem dX10_group_9 : decode cX10_group 9 = .ok (.iconst (-1), 1) := by decide +kernel
theorem dX10_group_10 : decode cX10_group 10 = .ok (.ireturn, 1) := by decide +kernel
theorem dX10_group_11 : decode cX10_group 11 = .ok (.aload_n 0, 1) := by decide +kernel
theorem dX10_group_12 : decode cX10_group 12 = .ok (.getfield 12, 3) := by decide +kernel
theorem dX10_group_15 : decode cX10_group 15 = .ok (.iload_n 1, 1) := by decide +kernel
theorem dX10_group_16 : decode cX10_group 16 = .ok (.iload_n 2, 1) := by decide +kernel
theorem dX10_group_17 : decode cX10_group 17 = .ok (.invokevirtual 95, 3) := by decide +kernel
theorem dX10_group_20 : decode cX10_group 20 = .ok (.ireturn, 1) := by decide +kernel
theorem dX10_open_0 : decode cX10_open 0 = .ok (.aload_n 0, 1) := by decide +kernel
theorem dX10_open_1 : decode cX10_open 1 = .ok (.getfield 12, 3) := by decide +kernel
theorem dX10_open_4 : decode cX10_open 4 = .ok (.iload_n 1, 1) := by decide +kernel
theorem dX10_open_5 : decode cX10_open 5 = .ok (.invokevirtual 85, 3) := by decide +kernel
theorem dX10_open_8 : decode cX10_open 8 = .ok (.ifCond .ne 5, 3) := by decide +kernel
theorem dX10_open_11 : decode cX10_open 11 = .ok (.iconst (-1), 1) := by decide +kernel
theorem dX10_open_12 : decode cX10_open 12 = .ok (.ireturn, 1) := by decide +kernel
theorem dX10_open_13 : decode cX10_open 13 = .ok (.aload_n 0, 1) := by decide +kernel
theorem dX10_open_14 : decode cX10_open 14 = .ok (.getfield 12, 3) := by decide +kernel
theorem dX10_open_17 : decode cX10_open 17 = .ok (.iload_n 1, 1) := by decide +kernel
theorem dX10_open_18 : decode cX10_open 18 = .ok (.aload_n 0, 1) := by decide +kernel
theorem dX10_open_19 : decode cX10_open 19 = .ok (.getfield 12, 3) := by decide +kernel
theorem dX10_open_22 : decode cX10_open 22 = .ok (.invokevirtual 99, 3) := by decide +kernel
theorem dX10_open_25 : decode cX10_open 25 = .ok (.invokevirtual 102, 3) := by decide +kernel
theorem dX10_open_28 : decode cX10_open 28 = .ok (.invokestatic 106, 3) := by decide +kernel
theorem dX10_open_31 : decode cX10_open 31 = .ok (.ireturn, 1) := by decide +kernel
theorem dX10_face_0 : decode cX10_face 0 = .ok (.iload_n 1, 1) := by decide +kernel
theorem dX10_face_1 : decode cX10_face 1 = .ok (.invokestatic 110, 3) := by decide +kernel
theorem dX10_face_4 : decode cX10_face 4 = .ok (.ifCond .ne 5, 3) := by decide +kernel
theorem dX10_face_7 : decode cX10_face 7 = .ok (.iconst (-1), 1) := by decide +kernel
theorem dX10_face_8 : decode cX10_face 8 = .ok (.ireturn, 1) := by decide +kernel
theorem dX10_face_9 : decode cX10_face 9 = .ok (.iload_n 2, 1) := by decide +kernel
theorem dX10_face_10 : decode cX10_face 10 = .ok (.tableswitch 41 0 2 #[26, 31, 36], 26) := by decide +kernel
theorem dX10_face_36 : decode cX10_face 36 = .ok (.iload_n 1, 1) := by decide +kernel
theorem dX10_face_37 : decode cX10_face 37 = .ok (.invokestatic 113, 3) := by decide +kernel
theorem dX10_face_40 : decode cX10_face 40 = .ok (.ireturn, 1) := by decide +kernel
theorem dX10_face_41 : decode cX10_face 41 = .ok (.iload_n 1, 1) := by decide +kernel
theorem dX10_face_42 : decode cX10_face 42 = .ok (.invokestatic 117, 3) := by decide +kernel
theorem dX10_face_45 : decode cX10_face 45 = .ok (.ireturn, 1) := by decide +kernel
theorem dX10_face_46 : decode cX10_face 46 = .ok (.iload_n 1, 1) := by decide +kernel
theorem dX10_face_47 : decode cX10_face 47 = .ok (.invokestatic 120, 3) := by decide +kernel
theorem dX10_face_50 : decode cX10_face 50 = .ok (.ireturn, 1) := by decide +kernel
theorem dX10_face_51 : decode cX10_face 51 = .ok (.bipush (-2), 2) := by decide +kernel
theorem dX10_face_53 : decode cX10_face 53 = .ok (.ireturn, 1) := by decide +kernel
theorem dX10_turn_0 : decode cX10_turn 0 = .ok (.iload_n 1, 1) := by decide +kernel
theorem dX10_turn_1 : decode cX10_turn 1 = .ok (.invokestatic 110, 3) := by decide +kernel
theorem dX10_turn_4 : decode cX10_turn 4 = .ok (.ifCond .ne 5, 3) := by decide +kernel
theorem dX10_turn_7 : decode cX10_turn 7 = .ok (.iconst (-1), 1) := by decide +kernel
theorem dX10_turn_8 : decode cX10_turn 8 = .ok (.ireturn, 1) := by decide +kernel
theorem dX10_turn_9 : decode cX10_turn 9 = .ok (.iload_n 2, 1) := by decide +kernel
theorem dX10_turn_10 : decode cX10_turn 10 = .ok (.invokestatic 123, 3) := by decide +kernel
theorem dX10_turn_13 : decode cX10_turn 13 = .ok (.ifCond .eq 11, 3) := by decide +kernel
theorem dX10_turn_16 : decode cX10_turn 16 = .ok (.iload_n 1, 1) := by decide +kernel
theorem dX10_turn_17 : decode cX10_turn 17 = .ok (.iload_n 2, 1) := by decide +kernel
theorem dX10_turn_18 : decode cX10_turn 18 = .ok (.invokestatic 126, 3) := by decide +kernel
theorem dX10_turn_21 : decode cX10_turn 21 = .ok (.goto 5, 3) := by decide +kernel
theorem dX10_turn_24 : decode cX10_turn 24 = .ok (.bipush (-2), 2) := by decide +kernel
theorem dX10_turn_26 : decode cX10_turn 26 = .ok (.ireturn, 1) := by decide +kernel
theorem dX10_stance_0 : decode cX10_stance 0 = .ok (.iload_n 1, 1) := by decide +kernel
theorem dX10_stance_1 : decode cX10_stance 1 = .ok (.invokestatic 129, 3) := by decide +kernel
theorem dX10_stance_4 : decode cX10_stance 4 = .ok (.ifCond .eq 10, 3) := by decide +kernel
theorem dX10_stance_7 : decode cX10_stance 7 = .ok (.iload_n 2, 1) := by decide +kernel
theorem dX10_stance_8 : decode cX10_stance 8 = .ok (.invokestatic 129, 3) := by decide +kernel
theorem dX10_stance_11 : decode cX10_stance 11 = .ok (.ifCond .ne 6, 3) := by decide +kernel
theorem dX10_stance_14 : decode cX10_stance 14 = .ok (.bipush (-2), 2) := by decide +kernel
theorem dX10_stance_16 : decode cX10_stance 16 = .ok (.ireturn, 1) := by decide +kernel
theorem dX10_stance_17 : decode cX10_stance 17 = .ok (.iload_n 2, 1) := by decide +kernel
theorem dX10_stance_18 : decode cX10_stance 18 = .ok (.iload_n 1, 1) := by decide +kernel
theorem dX10_stance_19 : decode cX10_stance 19 = .ok (.if_icmp .eq 11, 3) := by decide +kernel
theorem dX10_stance_22 : decode cX10_stance 22 = .ok (.iload_n 2, 1) := by decide +kernel
theorem dX10_stance_23 : decode cX10_stance 23 = .ok (.bipush 7, 2) := by decide +kernel
theorem dX10_stance_25 : decode cX10_stance 25 = .ok (.iload_n 1, 1) := by decide +kernel
theorem dX10_stance_26 : decode cX10_stance 26 = .ok (.isub, 1) := by decide +kernel
theorem dX10_stance_27 : decode cX10_stance 27 = .ok (.if_icmp .ne 8, 3) := by decide +kernel
theorem dX10_stance_30 : decode cX10_stance 30 = .ok (.bipush (-9), 2) := by decide +kernel
theorem dX10_stance_32 : decode cX10_stance 32 = .ok (.goto 8, 3) := by decide +kernel
theorem dX10_stance_35 : decode cX10_stance 35 = .ok (.iload_n 1, 1) := by decide +kernel
theorem dX10_stance_36 : decode cX10_stance 36 = .ok (.iload_n 2, 1) := by decide +kernel
theorem dX10_stance_37 : decode cX10_stance 37 = .ok (.invokestatic 132, 3) := by decide +kernel
theorem dX10_stance_40 : decode cX10_stance 40 = .ok (.ireturn, 1) := by decide +kernel
theorem dX10_apart_0 : decode cX10_apart 0 = .ok (.iload_n 1, 1) := by decide +kernel
theorem dX10_apart_1 : decode cX10_apart 1 = .ok (.invokestatic 110, 3) := by decide +kernel
theorem dX10_apart_4 : decode cX10_apart 4 = .ok (.ifCond .eq 10, 3) := by decide +kernel
theorem dX10_apart_7 : decode cX10_apart 7 = .ok (.iload_n 2, 1) := by decide +kernel
theorem dX10_apart_8 : decode cX10_apart 8 = .ok (.invokestatic 110, 3) := by decide +kernel
theorem dX10_apart_11 : decode cX10_apart 11 = .ok (.ifCond .ne 5, 3) := by decide +kernel
theorem dX10_apart_14 : decode cX10_apart 14 = .ok (.iconst (-1), 1) := by decide +kernel
theorem dX10_apart_15 : decode cX10_apart 15 = .ok (.ireturn, 1) := by decide +kernel
theorem dX10_apart_16 : decode cX10_apart 16 = .ok (.aload_n 0, 1) := by decide +kernel
theorem dX10_apart_17 : decode cX10_apart 17 = .ok (.getfield 26, 3) := by decide +kernel
theorem dX10_apart_20 : decode cX10_apart 20 = .ok (.iload_n 1, 1) := by decide +kernel
theorem dX10_apart_21 : decode cX10_apart 21 = .ok (.invokevirtual 135, 3) := by decide +kernel
theorem dX10_apart_24 : decode cX10_apart 24 = .ok (.aload_n 0, 1) := by decide +kernel
theorem dX10_apart_25 : decode cX10_apart 25 = .ok (.getfield 26, 3) := by decide +kernel
theorem dX10_apart_28 : decode cX10_apart 28 = .ok (.aload_n 0, 1) := by decide +kernel
theorem dX10_apart_29 : decode cX10_apart 29 = .ok (.getfield 19, 3) := by decide +kernel
theorem dX10_apart_32 : decode cX10_apart 32 = .ok (.invokevirtual 139, 3) := by decide +kernel
theorem dX10_apart_35 : decode cX10_apart 35 = .ok (.aload_n 0, 1) := by decide +kernel
theorem dX10_apart_36 : decode cX10_apart 36 = .ok (.getfield 26, 3) := by decide +kernel
theorem dX10_apart_39 : decode cX10_apart 39 = .ok (.iload_n 2, 1) := by decide +kernel
theorem dX10_apart_40 : decode cX10_apart 40 = .ok (.invokevirtual 143, 3) := by decide +kernel
theorem dX10_apart_43 : decode cX10_apart 43 = .ok (.invokestatic 146, 3) := by decide +kernel
theorem dX10_apart_46 : decode cX10_apart 46 = .ok (.ireturn, 1) := by decide +kernel
theorem dX10_roll_0 : decode cX10_roll 0 = .ok (.aload_n 0, 1) := by decide +kernel
theorem dX10_roll_1 : decode cX10_roll 1 = .ok (.iload_n 1, 1) := by decide +kernel
theorem dX10_roll_2 : decode cX10_roll 2 = .ok (.iload_n 2, 1) := by decide +kernel
theorem dX10_roll_3 : decode cX10_roll 3 = .ok (.invokevirtual 149, 3) := by decide +kernel
theorem dX10_roll_6 : decode cX10_roll 6 = .ok (.ifCond .ne 5, 3) := by decide +kernel
theorem dX10_roll_9 : decode cX10_roll 9 = .ok (.iconst (-1), 1) := by decide +kernel
theorem dX10_roll_10 : decode cX10_roll 10 = .ok (.ireturn, 1) := by decide +kernel
theorem dX10_roll_11 : decode cX10_roll 11 = .ok (.iload_n 3, 1) := by decide +kernel
theorem dX10_roll_12 : decode cX10_roll 12 = .ok (.invokestatic 123, 3) := by decide +kernel
theorem dX10_roll_15 : decode cX10_roll 15 = .ok (.ifCond .ne 6, 3) := by decide +kernel
theorem dX10_roll_18 : decode cX10_roll 18 = .ok (.bipush (-2), 2) := by decide +kernel
theorem dX10_roll_20 : decode cX10_roll 20 = .ok (.ireturn, 1) := by decide +kernel
theorem dX10_roll_21 : decode cX10_roll 21 = .ok (.aload_n 0, 1) := by decide +kernel
theorem dX10_roll_22 : decode cX10_roll 22 = .ok (.getfield 35, 3) := by decide +kernel
theorem dX10_roll_25 : decode cX10_roll 25 = .ok (.iload_n 1, 1) := by decide +kernel
theorem dX10_roll_26 : decode cX10_roll 26 = .ok (.iload_n 2, 1) := by decide +kernel
theorem dX10_roll_27 : decode cX10_roll 27 = .ok (.invokestatic 152, 3) := by decide +kernel
theorem dX10_roll_30 : decode cX10_roll 30 = .ok (.iload_n 3, 1) := by decide +kernel
theorem dX10_roll_31 : decode cX10_roll 31 = .ok (.invokevirtual 155, 3) := by decide +kernel
theorem dX10_roll_34 : decode cX10_roll 34 = .ok (.invokestatic 146, 3) := by decide +kernel
theorem dX10_roll_37 : decode cX10_roll 37 = .ok (.ireturn, 1) := by decide +kernel
theorem dX10_shortest_0 : decode cX10_shortest 0 = .ok (.aload_n 0, 1) := by decide +kernel
theorem dX10_shortest_1 : decode cX10_shortest 1 = .ok (.iload_n 1, 1) := by decide +kernel
theorem dX10_shortest_2 : decode cX10_shortest 2 = .ok (.iload_n 2, 1) := by decide +kernel
theorem dX10_shortest_3 : decode cX10_shortest 3 = .ok (.iload_n 3, 1) := by decide +kernel
theorem dX10_shortest_4 : decode cX10_shortest 4 = .ok (.iload 4, 2) := by decide +kernel
theorem dX10_shortest_6 : decode cX10_shortest 6 = .ok (.invokevirtual 158, 3) := by decide +kernel
theorem dX10_shortest_9 : decode cX10_shortest 9 = .ok (.istore 5, 2) := by decide +kernel
theorem dX10_shortest_11 : decode cX10_shortest 11 = .ok (.iload 5, 2) := by decide +kernel
theorem dX10_shortest_13 : decode cX10_shortest 13 = .ok (.ifCond .eq 8, 3) := by decide +kernel
theorem dX10_shortest_16 : decode cX10_shortest 16 = .ok (.iload 5, 2) := by decide +kernel
theorem dX10_shortest_18 : decode cX10_shortest 18 = .ok (.goto 18, 3) := by decide +kernel
theorem dX10_shortest_21 : decode cX10_shortest 21 = .ok (.aload_n 0, 1) := by decide +kernel
theorem dX10_shortest_22 : decode cX10_shortest 22 = .ok (.getfield 44, 3) := by decide +kernel
theorem dX10_shortest_25 : decode cX10_shortest 25 = .ok (.iload_n 1, 1) := by decide +kernel
theorem dX10_shortest_26 : decode cX10_shortest 26 = .ok (.iload_n 2, 1) := by decide +kernel
theorem dX10_shortest_27 : decode cX10_shortest 27 = .ok (.invokestatic 152, 3) := by decide +kernel
theorem dX10_shortest_30 : decode cX10_shortest 30 = .ok (.iload_n 3, 1) := by decide +kernel
theorem dX10_shortest_31 : decode cX10_shortest 31 = .ok (.iload 4, 2) := by decide +kernel
theorem dX10_shortest_33 : decode cX10_shortest 33 = .ok (.invokevirtual 162, 3) := by decide +kernel
theorem dX10_shortest_36 : decode cX10_shortest 36 = .ok (.ireturn, 1) := by decide +kernel
theorem dX10_way_0 : decode cX10_way 0 = .ok (.aload_n 0, 1) := by decide +kernel
theorem dX10_way_1 : decode cX10_way 1 = .ok (.iload_n 1, 1) := by decide +kernel
theorem dX10_way_2 : decode cX10_way 2 = .ok (.iload_n 2, 1) := by decide +kernel
theorem dX10_way_3 : decode cX10_way 3 = .ok (.iload_n 3, 1) := by decide +kernel
theorem dX10_way_4 : decode cX10_way 4 = .ok (.iload 4, 2) := by decide +kernel
theorem dX10_way_6 : decode cX10_way 6 = .ok (.invokevirtual 158, 3) := by decide +kernel
theorem dX10_way_9 : decode cX10_way 9 = .ok (.istore 6, 2) := by decide +kernel
theorem dX10_way_11 : decode cX10_way 11 = .ok (.iload 6, 2) := by decide +kernel
theorem dX10_way_13 : decode cX10_way 13 = .ok (.ifCond .eq 8, 3) := by decide +kernel
theorem dX10_way_16 : decode cX10_way 16 = .ok (.iload 6, 2) := by decide +kernel
theorem dX10_way_18 : decode cX10_way 18 = .ok (.goto 20, 3) := by decide +kernel
theorem dX10_way_21 : decode cX10_way 21 = .ok (.aload_n 0, 1) := by decide +kernel
theorem dX10_way_22 : decode cX10_way 22 = .ok (.getfield 44, 3) := by decide +kernel
theorem dX10_way_25 : decode cX10_way 25 = .ok (.iload_n 1, 1) := by decide +kernel
theorem dX10_way_26 : decode cX10_way 26 = .ok (.iload_n 2, 1) := by decide +kernel
theorem dX10_way_27 : decode cX10_way 27 = .ok (.invokestatic 152, 3) := by decide +kernel
theorem dX10_way_30 : decode cX10_way 30 = .ok (.iload_n 3, 1) := by decide +kernel
theorem dX10_way_31 : decode cX10_way 31 = .ok (.iload 4, 2) := by decide +kernel
theorem dX10_way_33 : decode cX10_way 33 = .ok (.iload 5, 2) := by decide +kernel
theorem dX10_way_35 : decode cX10_way 35 = .ok (.invokevirtual 166, 3) := by decide +kernel
theorem dX10_way_38 : decode cX10_way 38 = .ok (.ireturn, 1) := by decide +kernel
theorem dX10_ways_0 : decode cX10_ways 0 = .ok (.aload_n 0, 1) := by decide +kernel
theorem dX10_ways_1 : decode cX10_ways 1 = .ok (.iload_n 1, 1) := by decide +kernel
theorem dX10_ways_2 : decode cX10_ways 2 = .ok (.iload_n 2, 1) := by decide +kernel
theorem dX10_ways_3 : decode cX10_ways 3 = .ok (.iload_n 3, 1) := by decide +kernel
theorem dX10_ways_4 : decode cX10_ways 4 = .ok (.iload 4, 2) := by decide +kernel
theorem dX10_ways_6 : decode cX10_ways 6 = .ok (.invokevirtual 158, 3) := by decide +kernel
theorem dX10_ways_9 : decode cX10_ways 9 = .ok (.istore 5, 2) := by decide +kernel
theorem dX10_ways_11 : decode cX10_ways 11 = .ok (.iload 5, 2) := by decide +kernel
theorem dX10_ways_13 : decode cX10_ways 13 = .ok (.ifCond .eq 9, 3) := by decide +kernel
theorem dX10_ways_16 : decode cX10_ways 16 = .ok (.iload 5, 2) := by decide +kernel
theorem dX10_ways_18 : decode cX10_ways 18 = .ok (.i2l, 1) := by decide +kernel
theorem dX10_ways_19 : decode cX10_ways 19 = .ok (.goto 18, 3) := by decide +kernel
theorem dX10_ways_22 : decode cX10_ways 22 = .ok (.aload_n 0, 1) := by decide +kernel
theorem dX10_ways_23 : decode cX10_ways 23 = .ok (.getfield 44, 3) := by decide +kernel
theorem dX10_ways_26 : decode cX10_ways 26 = .ok (.iload_n 1, 1) := by decide +kernel
theorem dX10_ways_27 : decode cX10_ways 27 = .ok (.iload_n 2, 1) := by decide +kernel
theorem dX10_ways_28 : decode cX10_ways 28 = .ok (.invokestatic 152, 3) := by decide +kernel
theorem dX10_ways_31 : decode cX10_ways 31 = .ok (.iload_n 3, 1) := by decide +kernel
theorem dX10_ways_32 : decode cX10_ways 32 = .ok (.iload 4, 2) := by decide +kernel
theorem dX10_ways_34 : decode cX10_ways 34 = .ok (.invokevirtual 169, 3) := by decide +kernel
theorem dX10_ways_37 : decode cX10_ways 37 = .ok (.lreturn, 1) := by decide +kernel
theorem dX10_cheapest_0 : decode cX10_cheapest 0 = .ok (.aload_n 0, 1) := by decide +kernel
theorem dX10_cheapest_1 : decode cX10_cheapest 1 = .ok (.iload_n 1, 1) := by decide +kernel
theorem dX10_cheapest_2 : decode cX10_cheapest 2 = .ok (.iload_n 2, 1) := by decide +kernel
theorem dX10_cheapest_3 : decode cX10_cheapest 3 = .ok (.iload_n 3, 1) := by decide +kernel
theorem dX10_cheapest_4 : decode cX10_cheapest 4 = .ok (.iload 4, 2) := by decide +kernel
theorem dX10_cheapest_6 : decode cX10_cheapest 6 = .ok (.invokevirtual 158, 3) := by decide +kernel
theorem dX10_cheapest_9 : decode cX10_cheapest 9 = .ok (.istore 5, 2) := by decide +kernel
theorem dX10_cheapest_11 : decode cX10_cheapest 11 = .ok (.iload 5, 2) := by decide +kernel
theorem dX10_cheapest_13 : decode cX10_cheapest 13 = .ok (.ifCond .eq 8, 3) := by decide +kernel
theorem dX10_cheapest_16 : decode cX10_cheapest 16 = .ok (.iload 5, 2) := by decide +kernel
theorem dX10_cheapest_18 : decode cX10_cheapest 18 = .ok (.goto 18, 3) := by decide +kernel
theorem dX10_cheapest_21 : decode cX10_cheapest 21 = .ok (.aload_n 0, 1) := by decide +kernel
theorem dX10_cheapest_22 : decode cX10_cheapest 22 = .ok (.getfield 44, 3) := by decide +kernel
theorem dX10_cheapest_25 : decode cX10_cheapest 25 = .ok (.iload_n 1, 1) := by decide +kernel
theorem dX10_cheapest_26 : decode cX10_cheapest 26 = .ok (.iload_n 2, 1) := by decide +kernel
theorem dX10_cheapest_27 : decode cX10_cheapest 27 = .ok (.invokestatic 152, 3) := by decide +kernel
theorem dX10_cheapest_30 : decode cX10_cheapest 30 = .ok (.iload_n 3, 1) := by decide +kernel
theorem dX10_cheapest_31 : decode cX10_cheapest 31 = .ok (.iload 4, 2) := by decide +kernel
theorem dX10_cheapest_33 : decode cX10_cheapest 33 = .ok (.invokevirtual 173, 3) := by decide +kernel
theorem dX10_cheapest_36 : decode cX10_cheapest 36 = .ok (.ireturn, 1) := by decide +kernel
theorem dX10_stances_0 : decode cX10_stances 0 = .ok (.aload_n 0, 1) := by decide +kernel
theorem dX10_stances_1 : decode cX10_stances 1 = .ok (.iload_n 1, 1) := by decide +kernel
theorem dX10_stances_2 : decode cX10_stances 2 = .ok (.iload_n 2, 1) := by decide +kernel
theorem dX10_stances_3 : decode cX10_stances 3 = .ok (.invokevirtual 149, 3) := by decide +kernel
theorem dX10_stances_6 : decode cX10_stances 6 = .ok (.ifCond .eq 14, 3) := by decide +kernel
theorem dX10_stances_9 : decode cX10_stances 9 = .ok (.aload_n 0, 1) := by decide +kernel
theorem dX10_stances_10 : decode cX10_stances 10 = .ok (.getfield 12, 3) := by decide +kernel
theorem dX10_stances_13 : decode cX10_stances 13 = .ok (.iload_n 3, 1) := by decide +kernel
theorem dX10_stances_14 : decode cX10_stances 14 = .ok (.invokevirtual 85, 3) := by decide +kernel
theorem dX10_stances_17 : decode cX10_stances 17 = .ok (.ifCond .ne 5, 3) := by decide +kernel
theorem dX10_stances_20 : decode cX10_stances 20 = .ok (.iconst (-1), 1) := by decide +kernel
theorem dX10_stances_21 : decode cX10_stances 21 = .ok (.ireturn, 1) := by decide +kernel
theorem dX10_stances_22 : decode cX10_stances 22 = .ok (.aload_n 0, 1) := by decide +kernel
theorem dX10_stances_23 : decode cX10_stances 23 = .ok (.getfield 44, 3) := by decide +kernel
theorem dX10_stances_26 : decode cX10_stances 26 = .ok (.iload_n 1, 1) := by decide +kernel
theorem dX10_stances_27 : decode cX10_stances 27 = .ok (.iload_n 2, 1) := by decide +kernel
theorem dX10_stances_28 : decode cX10_stances 28 = .ok (.invokestatic 152, 3) := by decide +kernel
theorem dX10_stances_31 : decode cX10_stances 31 = .ok (.iload_n 3, 1) := by decide +kernel
theorem dX10_stances_32 : decode cX10_stances 32 = .ok (.invokevirtual 176, 3) := by decide +kernel
theorem dX10_stances_35 : decode cX10_stances 35 = .ok (.ireturn, 1) := by decide +kernel
theorem dX10_reach_0 : decode cX10_reach 0 = .ok (.aload_n 0, 1) := by decide +kernel
theorem dX10_reach_1 : decode cX10_reach 1 = .ok (.iload_n 1, 1) := by decide +kernel
theorem dX10_reach_2 : decode cX10_reach 2 = .ok (.iload_n 2, 1) := by decide +kernel
theorem dX10_reach_3 : decode cX10_reach 3 = .ok (.invokevirtual 149, 3) := by decide +kernel
theorem dX10_reach_6 : decode cX10_reach 6 = .ok (.ifCond .eq 18, 3) := by decide +kernel
theorem dX10_reach_9 : decode cX10_reach 9 = .ok (.aload_n 0, 1) := by decide +kernel
theorem dX10_reach_10 : decode cX10_reach 10 = .ok (.getfield 44, 3) := by decide +kernel
theorem dX10_reach_13 : decode cX10_reach 13 = .ok (.iload_n 1, 1) := by decide +kernel
theorem dX10_reach_14 : decode cX10_reach 14 = .ok (.iload_n 2, 1) := by decide +kernel
theorem dX10_reach_15 : decode cX10_reach 15 = .ok (.invokestatic 152, 3) := by decide +kernel
theorem dX10_reach_18 : decode cX10_reach 18 = .ok (.invokevirtual 179, 3) := by decide +kernel
theorem dX10_reach_21 : decode cX10_reach 21 = .ok (.goto 4, 3) := by decide +kernel
theorem dX10_reach_24 : decode cX10_reach 24 = .ok (.iconst (-1), 1) := by decide +kernel
theorem dX10_reach_25 : decode cX10_reach 25 = .ok (.ireturn, 1) := by decide +kernel
theorem dX10_tours_0 : decode cX10_tours 0 = .ok (.aload_n 0, 1) := by decide +kernel
theorem dX10_tours_1 : decode cX10_tours 1 = .ok (.iload_n 1, 1) := by decide +kernel
theorem dX10_tours_2 : decode cX10_tours 2 = .ok (.iload_n 2, 1) := by decide +kernel
theorem dX10_tours_3 : decode cX10_tours 3 = .ok (.iload_n 3, 1) := by decide +kernel
theorem dX10_tours_4 : decode cX10_tours 4 = .ok (.invokevirtual 182, 3) := by decide +kernel
theorem dX10_tours_7 : decode cX10_tours 7 = .ok (.istore 4, 2) := by decide +kernel
theorem dX10_tours_9 : decode cX10_tours 9 = .ok (.iload 4, 2) := by decide +kernel
theorem dX10_tours_11 : decode cX10_tours 11 = .ok (.ifCond .eq 8, 3) := by decide +kernel
theorem dX10_tours_14 : decode cX10_tours 14 = .ok (.iload 4, 2) := by decide +kernel
theorem dX10_tours_16 : decode cX10_tours 16 = .ok (.goto 16, 3) := by decide +kernel
theorem dX10_tours_19 : decode cX10_tours 19 = .ok (.aload_n 0, 1) := by decide +kernel
theorem dX10_tours_20 : decode cX10_tours 20 = .ok (.getfield 53, 3) := by decide +kernel
theorem dX10_tours_23 : decode cX10_tours 23 = .ok (.iload_n 1, 1) := by decide +kernel
theorem dX10_tours_24 : decode cX10_tours 24 = .ok (.iload_n 2, 1) := by decide +kernel
theorem dX10_tours_25 : decode cX10_tours 25 = .ok (.invokestatic 152, 3) := by decide +kernel
theorem dX10_tours_28 : decode cX10_tours 28 = .ok (.iload_n 3, 1) := by decide +kernel
theorem dX10_tours_29 : decode cX10_tours 29 = .ok (.invokevirtual 185, 3) := by decide +kernel
theorem dX10_tours_32 : decode cX10_tours 32 = .ok (.ireturn, 1) := by decide +kernel
theorem dX10_tour_0 : decode cX10_tour 0 = .ok (.aload_n 0, 1) := by decide +kernel
theorem dX10_tour_1 : decode cX10_tour 1 = .ok (.iload_n 1, 1) := by decide +kernel
theorem dX10_tour_2 : decode cX10_tour 2 = .ok (.iload_n 2, 1) := by decide +kernel
theorem dX10_tour_3 : decode cX10_tour 3 = .ok (.iload_n 3, 1) := by decide +kernel
theorem dX10_tour_4 : decode cX10_tour 4 = .ok (.invokevirtual 182, 3) := by decide +kernel
theorem dX10_tour_7 : decode cX10_tour 7 = .ok (.istore 5, 2) := by decide +kernel
theorem dX10_tour_9 : decode cX10_tour 9 = .ok (.iload 5, 2) := by decide +kernel
theorem dX10_tour_11 : decode cX10_tour 11 = .ok (.ifCond .eq 8, 3) := by decide +kernel
theorem dX10_tour_14 : decode cX10_tour 14 = .ok (.iload 5, 2) := by decide +kernel
theorem dX10_tour_16 : decode cX10_tour 16 = .ok (.goto 18, 3) := by decide +kernel
theorem dX10_tour_19 : decode cX10_tour 19 = .ok (.aload_n 0, 1) := by decide +kernel
theorem dX10_tour_20 : decode cX10_tour 20 = .ok (.getfield 53, 3) := by decide +kernel
theorem dX10_tour_23 : decode cX10_tour 23 = .ok (.iload_n 1, 1) := by decide +kernel
theorem dX10_tour_24 : decode cX10_tour 24 = .ok (.iload_n 2, 1) := by decide +kernel
theorem dX10_tour_25 : decode cX10_tour 25 = .ok (.invokestatic 152, 3) := by decide +kernel
theorem dX10_tour_28 : decode cX10_tour 28 = .ok (.iload_n 3, 1) := by decide +kernel
theorem dX10_tour_29 : decode cX10_tour 29 = .ok (.iload 4, 2) := by decide +kernel
theorem dX10_tour_31 : decode cX10_tour 31 = .ok (.invokevirtual 187, 3) := by decide +kernel
theorem dX10_tour_34 : decode cX10_tour 34 = .ok (.ireturn, 1) := by decide +kernel
theorem dX10_row_0 : decode cX10_row 0 = .ok (.iload_n 1, 1) := by decide +kernel
theorem dX10_row_1 : decode cX10_row 1 = .ok (.invokestatic 123, 3) := by decide +kernel
theorem dX10_row_4 : decode cX10_row 4 = .ok (.ifCond .eq 13, 3) := by decide +kernel
theorem dX10_row_7 : decode cX10_row 7 = .ok (.iload_n 2, 1) := by decide +kernel
theorem dX10_row_8 : decode cX10_row 8 = .ok (.ifCond .lt 9, 3) := by decide +kernel
theorem dX10_row_11 : decode cX10_row 11 = .ok (.iload_n 2, 1) := by decide +kernel
theorem dX10_row_12 : decode cX10_row 12 = .ok (.bipush 6, 2) := by decide +kernel
theorem dX10_row_14 : decode cX10_row 14 = .ok (.if_icmp .le 6, 3) := by decide +kernel
theorem dX10_row_17 : decode cX10_row 17 = .ok (.bipush (-2), 2) := by decide +kernel
theorem dX10_row_19 : decode cX10_row 19 = .ok (.ireturn, 1) := by decide +kernel
theorem dX10_row_20 : decode cX10_row 20 = .ok (.aload_n 0, 1) := by decide +kernel
theorem dX10_row_21 : decode cX10_row 21 = .ok (.getfield 60, 3) := by decide +kernel
theorem dX10_row_24 : decode cX10_row 24 = .ok (.invokevirtual 189, 3) := by decide +kernel
theorem dX10_row_27 : decode cX10_row 27 = .ok (.bipush 20, 2) := by decide +kernel
theorem dX10_row_29 : decode cX10_row 29 = .ok (.if_icmp .lt 8, 3) := by decide +kernel
theorem dX10_row_32 : decode cX10_row 32 = .ok (.bipush (-4), 2) := by decide +kernel
theorem dX10_row_34 : decode cX10_row 34 = .ok (.goto 12, 3) := by decide +kernel
theorem dX10_row_37 : decode cX10_row 37 = .ok (.aload_n 0, 1) := by decide +kernel
theorem dX10_row_38 : decode cX10_row 38 = .ok (.getfield 60, 3) := by decide +kernel
theorem dX10_row_41 : decode cX10_row 41 = .ok (.iload_n 1, 1) := by decide +kernel
theorem dX10_row_42 : decode cX10_row 42 = .ok (.iload_n 2, 1) := by decide +kernel
theorem dX10_row_43 : decode cX10_row 43 = .ok (.invokevirtual 191, 3) := by decide +kernel
theorem dX10_row_46 : decode cX10_row 46 = .ok (.ireturn, 1) := by decide +kernel
theorem dX10_clear_0 : decode cX10_clear 0 = .ok (.aload_n 0, 1) := by decide +kernel
theorem dX10_clear_1 : decode cX10_clear 1 = .ok (.getfield 60, 3) := by decide +kernel
theorem dX10_clear_4 : decode cX10_clear 4 = .ok (.invokevirtual 194, 3) := by decide +kernel
theorem dX10_clear_7 : decode cX10_clear 7 = .ok (.ireturn, 1) := by decide +kernel
theorem dX10_starts_0 : decode cX10_starts 0 = .ok (.aload_n 0, 1) := by decide +kernel
theorem dX10_starts_1 : decode cX10_starts 1 = .ok (.getfield 60, 3) := by decide +kernel
theorem dX10_starts_4 : decode cX10_starts 4 = .ok (.invokevirtual 197, 3) := by decide +kernel
theorem dX10_starts_7 : decode cX10_starts 7 = .ok (.ireturn, 1) := by decide +kernel
theorem dX10_start_0 : decode cX10_start 0 = .ok (.aload_n 0, 1) := by decide +kernel
theorem dX10_start_1 : decode cX10_start 1 = .ok (.getfield 60, 3) := by decide +kernel
theorem dX10_start_4 : decode cX10_start 4 = .ok (.iload_n 1, 1) := by decide +kernel
theorem dX10_start_5 : decode cX10_start 5 = .ok (.invokevirtual 200, 3) := by decide +kernel
theorem dX10_start_8 : decode cX10_start 8 = .ok (.invokestatic 146, 3) := by decide +kernel
theorem dX10_start_11 : decode cX10_start 11 = .ok (.ireturn, 1) := by decide +kernel
theorem dX10_sure_0 : decode cX10_sure 0 = .ok (.iload_n 1, 1) := by decide +kernel
theorem dX10_sure_1 : decode cX10_sure 1 = .ok (.ifCond .lt 8, 3) := by decide +kernel
theorem dX10_sure_4 : decode cX10_sure 4 = .ok (.iload_n 1, 1) := by decide +kernel
theorem dX10_sure_5 : decode cX10_sure 5 = .ok (.iconst 2, 1) := by decide +kernel
theorem dX10_sure_6 : decode cX10_sure 6 = .ok (.if_icmp .le 8, 3) := by decide +kernel
theorem dX10_sure_9 : decode cX10_sure 9 = .ok (.bipush (-2), 2) := by decide +kernel
theorem dX10_sure_11 : decode cX10_sure 11 = .ok (.goto 11, 3) := by decide +kernel
theorem dX10_sure_14 : decode cX10_sure 14 = .ok (.aload_n 0, 1) := by decide +kernel
theorem dX10_sure_15 : decode cX10_sure 15 = .ok (.getfield 60, 3) := by decide +kernel
theorem dX10_sure_18 : decode cX10_sure 18 = .ok (.iload_n 1, 1) := by decide +kernel
theorem dX10_sure_19 : decode cX10_sure 19 = .ok (.invokevirtual 203, 3) := by decide +kernel
theorem dX10_sure_22 : decode cX10_sure 22 = .ok (.ireturn, 1) := by decide +kernel
theorem dX10_next_0 : decode cX10_next 0 = .ok (.aload_n 0, 1) := by decide +kernel
theorem dX10_next_1 : decode cX10_next 1 = .ok (.getfield 60, 3) := by decide +kernel
theorem dX10_next_4 : decode cX10_next 4 = .ok (.invokevirtual 206, 3) := by decide +kernel
theorem dX10_next_7 : decode cX10_next 7 = .ok (.ireturn, 1) := by decide +kernel
theorem dX10_sound_0 : decode cX10_sound 0 = .ok (.aload_n 0, 1) := by decide +kernel
theorem dX10_sound_1 : decode cX10_sound 1 = .ok (.iload_n 1, 1) := by decide +kernel
theorem dX10_sound_2 : decode cX10_sound 2 = .ok (.invokevirtual 209, 3) := by decide +kernel
theorem dX10_sound_5 : decode cX10_sound 5 = .ok (.ifCond .eq 17, 3) := by decide +kernel
theorem dX10_sound_8 : decode cX10_sound 8 = .ok (.aload_n 0, 1) := by decide +kernel
theorem dX10_sound_9 : decode cX10_sound 9 = .ok (.getfield 69, 3) := by decide +kernel
theorem dX10_sound_12 : decode cX10_sound 12 = .ok (.iload_n 1, 1) := by decide +kernel
theorem dX10_sound_13 : decode cX10_sound 13 = .ok (.invokevirtual 212, 3) := by decide +kernel
theorem dX10_sound_16 : decode cX10_sound 16 = .ok (.invokestatic 106, 3) := by decide +kernel
theorem dX10_sound_19 : decode cX10_sound 19 = .ok (.goto 4, 3) := by decide +kernel
theorem dX10_sound_22 : decode cX10_sound 22 = .ok (.iconst (-1), 1) := by decide +kernel
theorem dX10_sound_23 : decode cX10_sound 23 = .ok (.ireturn, 1) := by decide +kernel
theorem dX10_rolls_0 : decode cX10_rolls 0 = .ok (.aload_n 0, 1) := by decide +kernel
theorem dX10_rolls_1 : decode cX10_rolls 1 = .ok (.iload_n 1, 1) := by decide +kernel
theorem dX10_rolls_2 : decode cX10_rolls 2 = .ok (.invokevirtual 209, 3) := by decide +kernel
theorem dX10_rolls_5 : decode cX10_rolls 5 = .ok (.ifCond .ne 5, 3) := by decide +kernel
theorem dX10_rolls_8 : decode cX10_rolls 8 = .ok (.iconst (-1), 1) := by decide +kernel
theorem dX10_rolls_9 : decode cX10_rolls 9 = .ok (.ireturn, 1) := by decide +kernel
theorem dX10_rolls_10 : decode cX10_rolls 10 = .ok (.iload_n 2, 1) := by decide +kernel
theorem dX10_rolls_11 : decode cX10_rolls 11 = .ok (.invokestatic 123, 3) := by decide +kernel
theorem dX10_rolls_14 : decode cX10_rolls 14 = .ok (.ifCond .eq 15, 3) := by decide +kernel
theorem dX10_rolls_17 : decode cX10_rolls 17 = .ok (.aload_n 0, 1) := by decide +kernel
theorem dX10_rolls_18 : decode cX10_rolls 18 = .ok (.getfield 69, 3) := by decide +kernel
theorem dX10_rolls_21 : decode cX10_rolls 21 = .ok (.iload_n 1, 1) := by decide +kernel
theorem dX10_rolls_22 : decode cX10_rolls 22 = .ok (.iload_n 2, 1) := by decide +kernel
theorem dX10_rolls_23 : decode cX10_rolls 23 = .ok (.invokevirtual 215, 3) := by decide +kernel
theorem dX10_rolls_26 : decode cX10_rolls 26 = .ok (.goto 5, 3) := by decide +kernel
theorem dX10_rolls_29 : decode cX10_rolls 29 = .ok (.bipush (-2), 2) := by decide +kernel
theorem dX10_rolls_31 : decode cX10_rolls 31 = .ok (.ireturn, 1) := by decide +kernel
theorem dX10_home_0 : decode cX10_home 0 = .ok (.aload_n 0, 1) := by decide +kernel
theorem dX10_home_1 : decode cX10_home 1 = .ok (.iload_n 1, 1) := by decide +kernel
theorem dX10_home_2 : decode cX10_home 2 = .ok (.invokevirtual 209, 3) := by decide +kernel
theorem dX10_home_5 : decode cX10_home 5 = .ok (.ifCond .eq 26, 3) := by decide +kernel
theorem dX10_home_8 : decode cX10_home 8 = .ok (.aload_n 0, 1) := by decide +kernel
theorem dX10_home_9 : decode cX10_home 9 = .ok (.getfield 12, 3) := by decide +kernel
theorem dX10_home_12 : decode cX10_home 12 = .ok (.iload_n 2, 1) := by decide +kernel
theorem dX10_home_13 : decode cX10_home 13 = .ok (.invokevirtual 85, 3) := by decide +kernel
theorem dX10_home_16 : decode cX10_home 16 = .ok (.ifCond .eq 15, 3) := by decide +kernel
theorem dX10_home_19 : decode cX10_home 19 = .ok (.aload_n 0, 1) := by decide +kernel
theorem dX10_home_20 : decode cX10_home 20 = .ok (.getfield 69, 3) := by decide +kernel
theorem dX10_home_23 : decode cX10_home 23 = .ok (.iload_n 1, 1) := by decide +kernel
theorem dX10_home_24 : decode cX10_home 24 = .ok (.iload_n 2, 1) := by decide +kernel
theorem dX10_home_25 : decode cX10_home 25 = .ok (.invokevirtual 218, 3) := by decide +kernel
theorem dX10_home_28 : decode cX10_home 28 = .ok (.goto 4, 3) := by decide +kernel
theorem dX10_home_31 : decode cX10_home 31 = .ok (.iconst (-1), 1) := by decide +kernel
theorem dX10_home_32 : decode cX10_home 32 = .ok (.ireturn, 1) := by decide +kernel
theorem dX10_homeWay_0 : decode cX10_homeWay 0 = .ok (.aload_n 0, 1) := by decide +kernel
theorem dX10_homeWay_1 : decode cX10_homeWay 1 = .ok (.iload_n 1, 1) := by decide +kernel
theorem dX10_homeWay_2 : decode cX10_homeWay 2 = .ok (.invokevirtual 209, 3) := by decide +kernel
theorem dX10_homeWay_5 : decode cX10_homeWay 5 = .ok (.ifCond .eq 27, 3) := by decide +kernel
theorem dX10_homeWay_8 : decode cX10_homeWay 8 = .ok (.aload_n 0, 1) := by decide +kernel
theorem dX10_homeWay_9 : decode cX10_homeWay 9 = .ok (.getfield 12, 3) := by decide +kernel
theorem dX10_homeWay_12 : decode cX10_homeWay 12 = .ok (.iload_n 2, 1) := by decide +kernel
theorem dX10_homeWay_13 : decode cX10_homeWay 13 = .ok (.invokevirtual 85, 3) := by decide +kernel
theorem dX10_homeWay_16 : decode cX10_homeWay 16 = .ok (.ifCond .eq 16, 3) := by decide +kernel
theorem dX10_homeWay_19 : decode cX10_homeWay 19 = .ok (.aload_n 0, 1) := by decide +kernel
theorem dX10_homeWay_20 : decode cX10_homeWay 20 = .ok (.getfield 69, 3) := by decide +kernel
theorem dX10_homeWay_23 : decode cX10_homeWay 23 = .ok (.iload_n 1, 1) := by decide +kernel
theorem dX10_homeWay_24 : decode cX10_homeWay 24 = .ok (.iload_n 2, 1) := by decide +kernel
theorem dX10_homeWay_25 : decode cX10_homeWay 25 = .ok (.iload_n 3, 1) := by decide +kernel
theorem dX10_homeWay_26 : decode cX10_homeWay 26 = .ok (.invokevirtual 220, 3) := by decide +kernel
theorem dX10_homeWay_29 : decode cX10_homeWay 29 = .ok (.goto 4, 3) := by decide +kernel
theorem dX10_homeWay_32 : decode cX10_homeWay 32 = .ok (.iconst (-1), 1) := by decide +kernel
theorem dX10_homeWay_33 : decode cX10_homeWay 33 = .ok (.ireturn, 1) := by decide +kernel
theorem dX10_homeGroups_0 : decode cX10_homeGroups 0 = .ok (.aload_n 0, 1) := by decide +kernel
theorem dX10_homeGroups_1 : decode cX10_homeGroups 1 = .ok (.iload_n 1, 1) := by decide +kernel
theorem dX10_homeGroups_2 : decode cX10_homeGroups 2 = .ok (.invokevirtual 209, 3) := by decide +kernel
theorem dX10_homeGroups_5 : decode cX10_homeGroups 5 = .ok (.ifCond .eq 26, 3) := by decide +kernel
theorem dX10_homeGroups_8 : decode cX10_homeGroups 8 = .ok (.aload_n 0, 1) := by decide +kernel
theorem dX10_homeGroups_9 : decode cX10_homeGroups 9 = .ok (.getfield 12, 3) := by decide +kernel
theorem dX10_homeGroups_12 : decode cX10_homeGroups 12 = .ok (.iload_n 2, 1) := by decide +kernel
theorem dX10_homeGroups_13 : decode cX10_homeGroups 13 = .ok (.invokevirtual 85, 3) := by decide +kernel
theorem dX10_homeGroups_16 : decode cX10_homeGroups 16 = .ok (.ifCond .eq 15, 3) := by decide +kernel
theorem dX10_homeGroups_19 : decode cX10_homeGroups 19 = .ok (.aload_n 0, 1) := by decide +kernel
theorem dX10_homeGroups_20 : decode cX10_homeGroups 20 = .ok (.getfield 69, 3) := by decide +kernel
theorem dX10_homeGroups_23 : decode cX10_homeGroups 23 = .ok (.iload_n 1, 1) := by decide +kernel
theorem dX10_homeGroups_24 : decode cX10_homeGroups 24 = .ok (.iload_n 2, 1) := by decide +kernel
theorem dX10_homeGroups_25 : decode cX10_homeGroups 25 = .ok (.invokevirtual 221, 3) := by decide +kernel
theorem dX10_homeGroups_28 : decode cX10_homeGroups 28 = .ok (.goto 4, 3) := by decide +kernel
theorem dX10_homeGroups_31 : decode cX10_homeGroups 31 = .ok (.iconst (-1), 1) := by decide +kernel
theorem dX10_homeGroups_32 : decode cX10_homeGroups 32 = .ok (.ireturn, 1) := by decide +kernel
theorem dX10_whence_0 : decode cX10_whence 0 = .ok (.aload_n 0, 1) := by decide +kernel
theorem dX10_whence_1 : decode cX10_whence 1 = .ok (.getfield 12, 3) := by decide +kernel
theorem dX10_whence_4 : decode cX10_whence 4 = .ok (.iload_n 1, 1) := by decide +kernel
theorem dX10_whence_5 : decode cX10_whence 5 = .ok (.invokevirtual 85, 3) := by decide +kernel
theorem dX10_whence_8 : decode cX10_whence 8 = .ok (.ifCond .ne 5, 3) := by decide +kernel
theorem dX10_whence_11 : decode cX10_whence 11 = .ok (.iconst (-1), 1) := by decide +kernel
theorem dX10_whence_12 : decode cX10_whence 12 = .ok (.ireturn, 1) := by decide +kernel
theorem dX10_whence_13 : decode cX10_whence 13 = .ok (.iload_n 2, 1) := by decide +kernel
theorem dX10_whence_14 : decode cX10_whence 14 = .ok (.ifCond .eq 14, 3) := by decide +kernel
theorem dX10_whence_17 : decode cX10_whence 17 = .ok (.aload_n 0, 1) := by decide +kernel
theorem dX10_whence_18 : decode cX10_whence 18 = .ok (.getfield 69, 3) := by decide +kernel
theorem dX10_whence_21 : decode cX10_whence 21 = .ok (.iload_n 1, 1) := by decide +kernel
theorem dX10_whence_22 : decode cX10_whence 22 = .ok (.invokevirtual 224, 3) := by decide +kernel
theorem dX10_whence_25 : decode cX10_whence 25 = .ok (.goto 11, 3) := by decide +kernel
theorem dX10_whence_28 : decode cX10_whence 28 = .ok (.aload_n 0, 1) := by decide +kernel
theorem dX10_whence_29 : decode cX10_whence 29 = .ok (.getfield 69, 3) := by decide +kernel
theorem dX10_whence_32 : decode cX10_whence 32 = .ok (.iload_n 1, 1) := by decide +kernel
theorem dX10_whence_33 : decode cX10_whence 33 = .ok (.invokevirtual 227, 3) := by decide +kernel
theorem dX10_whence_36 : decode cX10_whence 36 = .ok (.ireturn, 1) := by decide +kernel
theorem dX10_must_0 : decode cX10_must 0 = .ok (.aload_n 0, 1) := by decide +kernel
theorem dX10_must_1 : decode cX10_must 1 = .ok (.iload_n 1, 1) := by decide +kernel
theorem dX10_must_2 : decode cX10_must 2 = .ok (.invokevirtual 209, 3) := by decide +kernel
theorem dX10_must_5 : decode cX10_must 5 = .ok (.ifCond .eq 25, 3) := by decide +kernel
theorem dX10_must_8 : decode cX10_must 8 = .ok (.aload_n 0, 1) := by decide +kernel
theorem dX10_must_9 : decode cX10_must 9 = .ok (.getfield 12, 3) := by decide +kernel
theorem dX10_must_12 : decode cX10_must 12 = .ok (.iload_n 2, 1) := by decide +kernel
theorem dX10_must_13 : decode cX10_must 13 = .ok (.invokevirtual 85, 3) := by decide +kernel
theorem dX10_must_16 : decode cX10_must 16 = .ok (.ifCond .eq 14, 3) := by decide +kernel
theorem dX10_must_19 : decode cX10_must 19 = .ok (.aload_n 0, 1) := by decide +kernel
theorem dX10_must_20 : decode cX10_must 20 = .ok (.getfield 12, 3) := by decide +kernel
theorem dX10_must_23 : decode cX10_must 23 = .ok (.iload_n 3, 1) := by decide +kernel
theorem dX10_must_24 : decode cX10_must 24 = .ok (.invokevirtual 85, 3) := by decide +kernel
theorem dX10_must_27 : decode cX10_must 27 = .ok (.ifCond .ne 5, 3) := by decide +kernel
theorem dX10_must_30 : decode cX10_must 30 = .ok (.iconst (-1), 1) := by decide +kernel
theorem dX10_must_31 : decode cX10_must 31 = .ok (.ireturn, 1) := by decide +kernel
theorem dX10_must_32 : decode cX10_must 32 = .ok (.aload_n 0, 1) := by decide +kernel
theorem dX10_must_33 : decode cX10_must 33 = .ok (.getfield 69, 3) := by decide +kernel
theorem dX10_must_36 : decode cX10_must 36 = .ok (.iload_n 1, 1) := by decide +kernel
theorem dX10_must_37 : decode cX10_must 37 = .ok (.iload_n 2, 1) := by decide +kernel
theorem dX10_must_38 : decode cX10_must 38 = .ok (.iload_n 3, 1) := by decide +kernel
theorem dX10_must_39 : decode cX10_must 39 = .ok (.invokevirtual 230, 3) := by decide +kernel
theorem dX10_must_42 : decode cX10_must 42 = .ok (.invokestatic 106, 3) := by decide +kernel
theorem dX10_must_45 : decode cX10_must 45 = .ok (.ireturn, 1) := by decide +kernel
theorem dX10_count_0 : decode cX10_count 0 = .ok (.iload_n 1, 1) := by decide +kernel
theorem dX10_count_1 : decode cX10_count 1 = .ok (.tableswitch 90 0 5 #[39, 47, 55, 66, 74, 82], 39) := by decide +kernel
theorem dX10_count_40 : decode cX10_count 40 = .ok (.aload_n 0, 1) := by decide +kernel
theorem dX10_count_41 : decode cX10_count 41 = .ok (.getfield 12, 3) := by decide +kernel
theorem dX10_count_44 : decode cX10_count 44 = .ok (.invokevirtual 81, 3) := by decide +kernel
theorem dX10_count_47 : decode cX10_count 47 = .ok (.ireturn, 1) := by decide +kernel
theorem dX10_count_48 : decode cX10_count 48 = .ok (.aload_n 0, 1) := by decide +kernel
theorem dX10_count_49 : decode cX10_count 49 = .ok (.getfield 12, 3) := by decide +kernel
theorem dX10_count_52 : decode cX10_count 52 = .ok (.invokevirtual 234, 3) := by decide +kernel
theorem dX10_count_55 : decode cX10_count 55 = .ok (.ireturn, 1) := by decide +kernel
theorem dX10_count_56 : decode cX10_count 56 = .ok (.aload_n 0, 1) := by decide +kernel
theorem dX10_count_57 : decode cX10_count 57 = .ok (.getfield 12, 3) := by decide +kernel
theorem dX10_count_60 : decode cX10_count 60 = .ok (.invokevirtual 99, 3) := by decide +kernel
theorem dX10_count_63 : decode cX10_count 63 = .ok (.invokestatic 237, 3) := by decide +kernel
theorem dX10_count_66 : decode cX10_count 66 = .ok (.ireturn, 1) := by decide +kernel
theorem dX10_count_67 : decode cX10_count 67 = .ok (.aload_n 0, 1) := by decide +kernel
theorem dX10_count_68 : decode cX10_count 68 = .ok (.getfield 60, 3) := by decide +kernel
theorem dX10_count_71 : decode cX10_count 71 = .ok (.invokevirtual 189, 3) := by decide +kernel
theorem dX10_count_74 : decode cX10_count 74 = .ok (.ireturn, 1) := by decide +kernel
theorem dX10_count_75 : decode cX10_count 75 = .ok (.aload_n 0, 1) := by decide +kernel
theorem dX10_count_76 : decode cX10_count 76 = .ok (.getfield 12, 3) := by decide +kernel
theorem dX10_count_79 : decode cX10_count 79 = .ok (.invokevirtual 242, 3) := by decide +kernel
theorem dX10_count_82 : decode cX10_count 82 = .ok (.ireturn, 1) := by decide +kernel
theorem dX10_count_83 : decode cX10_count 83 = .ok (.aload_n 0, 1) := by decide +kernel
theorem dX10_count_84 : decode cX10_count 84 = .ok (.getfield 69, 3) := by decide +kernel
theorem dX10_count_87 : decode cX10_count 87 = .ok (.invokevirtual 245, 3) := by decide +kernel
theorem dX10_count_90 : decode cX10_count 90 = .ok (.ireturn, 1) := by decide +kernel
theorem dX10_count_91 : decode cX10_count 91 = .ok (.bipush (-2), 2) := by decide +kernel
theorem dX10_count_93 : decode cX10_count 93 = .ok (.ireturn, 1) := by decide +kernel
theorem dX10_refusalOfGoal_0 : decode cX10_refusalOfGoal 0 = .ok (.aload_n 0, 1) := by decide +kernel
theorem dX10_refusalOfGoal_1 : decode cX10_refusalOfGoal 1 = .ok (.iload_n 1, 1) := by decide +kernel
theorem dX10_refusalOfGoal_2 : decode cX10_refusalOfGoal 2 = .ok (.iload_n 2, 1) := by decide +kernel
theorem dX10_refusalOfGoal_3 : decode cX10_refusalOfGoal 3 = .ok (.invokevirtual 149, 3) := by decide +kernel
theorem dX10_refusalOfGoal_6 : decode cX10_refusalOfGoal 6 = .ok (.ifCond .eq 14, 3) := by decide +kernel
theorem dX10_refusalOfGoal_9 : decode cX10_refusalOfGoal 9 = .ok (.aload_n 0, 1) := by decide +kernel
theorem dX10_refusalOfGoal_10 : decode cX10_refusalOfGoal 10 = .ok (.getfield 12, 3) := by decide +kernel
theorem dX10_refusalOfGoal_13 : decode cX10_refusalOfGoal 13 = .ok (.iload_n 3, 1) := by decide +kernel
theorem dX10_refusalOfGoal_14 : decode cX10_refusalOfGoal 14 = .ok (.invokevirtual 85, 3) := by decide +kernel
theorem dX10_refusalOfGoal_17 : decode cX10_refusalOfGoal 17 = .ok (.ifCond .ne 5, 3) := by decide +kernel
theorem dX10_refusalOfGoal_20 : decode cX10_refusalOfGoal 20 = .ok (.iconst (-1), 1) := by decide +kernel
theorem dX10_refusalOfGoal_21 : decode cX10_refusalOfGoal 21 = .ok (.ireturn, 1) := by decide +kernel
theorem dX10_refusalOfGoal_22 : decode cX10_refusalOfGoal 22 = .ok (.iload 4, 2) := by decide +kernel
theorem dX10_refusalOfGoal_24 : decode cX10_refusalOfGoal 24 = .ok (.bipush 10, 2) := by decide +kernel
theorem dX10_refusalOfGoal_26 : decode cX10_refusalOfGoal 26 = .ok (.if_icmp .lt 14, 3) := by decide +kernel
theorem dX10_refusalOfGoal_29 : decode cX10_refusalOfGoal 29 = .ok (.iload 4, 2) := by decide +kernel
theorem dX10_refusalOfGoal_31 : decode cX10_refusalOfGoal 31 = .ok (.bipush 34, 2) := by decide +kernel
theorem dX10_refusalOfGoal_33 : decode cX10_refusalOfGoal 33 = .ok (.if_icmp .ge 7, 3) := by decide +kernel
theorem dX10_refusalOfGoal_36 : decode cX10_refusalOfGoal 36 = .ok (.iconst 1, 1) := by decide +kernel
theorem dX10_refusalOfGoal_37 : decode cX10_refusalOfGoal 37 = .ok (.goto 4, 3) := by decide +kernel
theorem dX10_refusalOfGoal_40 : decode cX10_refusalOfGoal 40 = .ok (.iconst 0, 1) := by decide +kernel
theorem dX10_refusalOfGoal_41 : decode cX10_refusalOfGoal 41 = .ok (.istore 5, 2) := by decide +kernel
theorem dX10_refusalOfGoal_43 : decode cX10_refusalOfGoal 43 = .ok (.iload 4, 2) := by decide +kernel
theorem dX10_refusalOfGoal_45 : decode cX10_refusalOfGoal 45 = .ok (.ifCond .eq 16, 3) := by decide +kernel
theorem dX10_refusalOfGoal_48 : decode cX10_refusalOfGoal 48 = .ok (.iload 4, 2) := by decide +kernel
theorem dX10_refusalOfGoal_50 : decode cX10_refusalOfGoal 50 = .ok (.invokestatic 129, 3) := by decide +kernel
theorem dX10_refusalOfGoal_53 : decode cX10_refusalOfGoal 53 = .ok (.ifCond .ne 8, 3) := by decide +kernel
theorem dX10_refusalOfGoal_56 : decode cX10_refusalOfGoal 56 = .ok (.iload 5, 2) := by decide +kernel
theorem dX10_refusalOfGoal_58 : decode cX10_refusalOfGoal 58 = .ok (.ifCond .eq 7, 3) := by decide +kernel
theorem dX10_refusalOfGoal_61 : decode cX10_refusalOfGoal 61 = .ok (.iconst 0, 1) := by decide +kernel
theorem dX10_refusalOfGoal_62 : decode cX10_refusalOfGoal 62 = .ok (.goto 5, 3) := by decide +kernel
theorem dX10_refusalOfGoal_65 : decode cX10_refusalOfGoal 65 = .ok (.bipush (-2), 2) := by decide +kernel
theorem dX10_refusalOfGoal_67 : decode cX10_refusalOfGoal 67 = .ok (.ireturn, 1) := by decide +kernel
theorem dX10_refusalOfTour_0 : decode cX10_refusalOfTour 0 = .ok (.aload_n 0, 1) := by decide +kernel
theorem dX10_refusalOfTour_1 : decode cX10_refusalOfTour 1 = .ok (.iload_n 1, 1) := by decide +kernel
theorem dX10_refusalOfTour_2 : decode cX10_refusalOfTour 2 = .ok (.iload_n 2, 1) := by decide +kernel
theorem dX10_refusalOfTour_3 : decode cX10_refusalOfTour 3 = .ok (.invokevirtual 149, 3) := by decide +kernel
theorem dX10_refusalOfTour_6 : decode cX10_refusalOfTour 6 = .ok (.ifCond .ne 5, 3) := by decide +kernel
theorem dX10_refusalOfTour_9 : decode cX10_refusalOfTour 9 = .ok (.iconst (-1), 1) := by decide +kernel
theorem dX10_refusalOfTour_10 : decode cX10_refusalOfTour 10 = .ok (.ireturn, 1) := by decide +kernel
theorem dX10_refusalOfTour_11 : decode cX10_refusalOfTour 11 = .ok (.iload_n 3, 1) := by decide +kernel
theorem dX10_refusalOfTour_12 : decode cX10_refusalOfTour 12 = .ok (.ifCond .eq 13, 3) := by decide +kernel
theorem dX10_refusalOfTour_15 : decode cX10_refusalOfTour 15 = .ok (.iload_n 3, 1) := by decide +kernel
theorem dX10_refusalOfTour_16 : decode cX10_refusalOfTour 16 = .ok (.invokestatic 129, 3) := by decide +kernel
theorem dX10_refusalOfTour_19 : decode cX10_refusalOfTour 19 = .ok (.ifCond .ne 6, 3) := by decide +kernel
theorem dX10_refusalOfTour_22 : decode cX10_refusalOfTour 22 = .ok (.bipush (-2), 2) := by decide +kernel
theorem dX10_refusalOfTour_24 : decode cX10_refusalOfTour 24 = .ok (.ireturn, 1) := by decide +kernel
theorem dX10_refusalOfTour_25 : decode cX10_refusalOfTour 25 = .ok (.aload_n 0, 1) := by decide +kernel
theorem dX10_refusalOfTour_26 : decode cX10_refusalOfTour 26 = .ok (.getfield 12, 3) := by decide +kernel
theorem dX10_refusalOfTour_29 : decode cX10_refusalOfTour 29 = .ok (.iload_n 1, 1) := by decide +kernel
theorem dX10_refusalOfTour_30 : decode cX10_refusalOfTour 30 = .ok (.aload_n 0, 1) := by decide +kernel
theorem dX10_refusalOfTour_31 : decode cX10_refusalOfTour 31 = .ok (.getfield 12, 3) := by decide +kernel
theorem dX10_refusalOfTour_34 : decode cX10_refusalOfTour 34 = .ok (.invokevirtual 99, 3) := by decide +kernel
theorem dX10_refusalOfTour_37 : decode cX10_refusalOfTour 37 = .ok (.invokevirtual 102, 3) := by decide +kernel
theorem dX10_refusalOfTour_40 : decode cX10_refusalOfTour 40 = .ok (.istore 4, 2) := by decide +kernel
theorem dX10_refusalOfTour_42 : decode cX10_refusalOfTour 42 = .ok (.iload 4, 2) := by decide +kernel
theorem dX10_refusalOfTour_44 : decode cX10_refusalOfTour 44 = .ok (.ifCond .eq 19, 3) := by decide +kernel
theorem dX10_refusalOfTour_47 : decode cX10_refusalOfTour 47 = .ok (.aload_n 0, 1) := by decide +kernel
theorem dX10_refusalOfTour_48 : decode cX10_refusalOfTour 48 = .ok (.getfield 12, 3) := by decide +kernel
theorem dX10_refusalOfTour_51 : decode cX10_refusalOfTour 51 = .ok (.invokevirtual 234, 3) := by decide +kernel
theorem dX10_refusalOfTour_54 : decode cX10_refusalOfTour 54 = .ok (.bipush 16, 2) := by decide +kernel
theorem dX10_refusalOfTour_56 : decode cX10_refusalOfTour 56 = .ok (.if_icmp .gt 7, 3) := by decide +kernel
theorem dX10_refusalOfTour_59 : decode cX10_refusalOfTour 59 = .ok (.iconst 0, 1) := by decide +kernel
theorem dX10_refusalOfTour_60 : decode cX10_refusalOfTour 60 = .ok (.goto 5, 3) := by decide +kernel
theorem dX10_refusalOfTour_63 : decode cX10_refusalOfTour 63 = .ok (.bipush (-3), 2) := by decide +kernel
theorem dX10_refusalOfTour_65 : decode cX10_refusalOfTour 65 = .ok (.ireturn, 1) := by decide +kernel
theorem dX10_isStart_0 : decode cX10_isStart 0 = .ok (.aload_n 0, 1) := by decide +kernel
theorem dX10_isStart_1 : decode cX10_isStart 1 = .ok (.getfield 12, 3) := by decide +kernel
theorem dX10_isStart_4 : decode cX10_isStart 4 = .ok (.iload_n 1, 1) := by decide +kernel
theorem dX10_isStart_5 : decode cX10_isStart 5 = .ok (.invokevirtual 85, 3) := by decide +kernel
theorem dX10_isStart_8 : decode cX10_isStart 8 = .ok (.ifCond .eq 14, 3) := by decide +kernel
theorem dX10_isStart_11 : decode cX10_isStart 11 = .ok (.iload_n 2, 1) := by decide +kernel
theorem dX10_isStart_12 : decode cX10_isStart 12 = .ok (.invokestatic 110, 3) := by decide +kernel
theorem dX10_isStart_15 : decode cX10_isStart 15 = .ok (.ifCond .eq 7, 3) := by decide +kernel
theorem dX10_isStart_18 : decode cX10_isStart 18 = .ok (.iconst 1, 1) := by decide +kernel
theorem dX10_isStart_19 : decode cX10_isStart 19 = .ok (.goto 4, 3) := by decide +kernel
theorem dX10_isStart_22 : decode cX10_isStart 22 = .ok (.iconst 0, 1) := by decide +kernel
theorem dX10_isStart_23 : decode cX10_isStart 23 = .ok (.ireturn, 1) := by decide +kernel
theorem dX10_isPlace_0 : decode cX10_isPlace 0 = .ok (.iload_n 1, 1) := by decide +kernel
theorem dX10_isPlace_1 : decode cX10_isPlace 1 = .ok (.ifCond .lt 20, 3) := by decide +kernel
theorem dX10_isPlace_4 : decode cX10_isPlace 4 = .ok (.iload_n 1, 1) := by decide +kernel
theorem dX10_isPlace_5 : decode cX10_isPlace 5 = .ok (.iconst 3, 1) := by decide +kernel
theorem dX10_isPlace_6 : decode cX10_isPlace 6 = .ok (.aload_n 0, 1) := by decide +kernel
theorem dX10_isPlace_7 : decode cX10_isPlace 7 = .ok (.getfield 12, 3) := by decide +kernel
theorem dX10_isPlace_10 : decode cX10_isPlace 10 = .ok (.invokevirtual 81, 3) := by decide +kernel
theorem dX10_isPlace_13 : decode cX10_isPlace 13 = .ok (.imul, 1) := by decide +kernel
theorem dX10_isPlace_14 : decode cX10_isPlace 14 = .ok (.if_icmp .ge 7, 3) := by decide +kernel
theorem dX10_isPlace_17 : decode cX10_isPlace 17 = .ok (.iconst 1, 1) := by decide +kernel
theorem dX10_isPlace_18 : decode cX10_isPlace 18 = .ok (.goto 4, 3) := by decide +kernel
theorem dX10_isPlace_21 : decode cX10_isPlace 21 = .ok (.iconst 0, 1) := by decide +kernel
theorem dX10_isPlace_22 : decode cX10_isPlace 22 = .ok (.ireturn, 1) := by decide +kernel
theorem dX10_isSide_0 : decode cX10_isSide 0 = .ok (.iload_n 0, 1) := by decide +kernel
theorem dX10_isSide_1 : decode cX10_isSide 1 = .ok (.iconst 2, 1) := by decide +kernel
theorem dX10_isSide_2 : decode cX10_isSide 2 = .ok (.if_icmp .lt 12, 3) := by decide +kernel
theorem dX10_isSide_5 : decode cX10_isSide 5 = .ok (.iload_n 0, 1) := by decide +kernel
theorem dX10_isSide_6 : decode cX10_isSide 6 = .ok (.iconst 5, 1) := by decide +kernel
theorem dX10_isSide_7 : decode cX10_isSide 7 = .ok (.if_icmp .gt 7, 3) := by decide +kernel
theorem dX10_isSide_10 : decode cX10_isSide 10 = .ok (.iconst 1, 1) := by decide +kernel
theorem dX10_isSide_11 : decode cX10_isSide 11 = .ok (.goto 4, 3) := by decide +kernel
theorem dX10_isSide_14 : decode cX10_isSide 14 = .ok (.iconst 0, 1) := by decide +kernel
theorem dX10_isSide_15 : decode cX10_isSide 15 = .ok (.ireturn, 1) := by decide +kernel
theorem dX10_isStance_0 : decode cX10_isStance 0 = .ok (.iload_n 0, 1) := by decide +kernel
theorem dX10_isStance_1 : decode cX10_isStance 1 = .ok (.ifCond .lt 13, 3) := by decide +kernel
theorem dX10_isStance_4 : decode cX10_isStance 4 = .ok (.iload_n 0, 1) := by decide +kernel
theorem dX10_isStance_5 : decode cX10_isStance 5 = .ok (.bipush 24, 2) := by decide +kernel
theorem dX10_isStance_7 : decode cX10_isStance 7 = .ok (.if_icmp .ge 7, 3) := by decide +kernel
theorem dX10_isStance_10 : decode cX10_isStance 10 = .ok (.iconst 1, 1) := by decide +kernel
theorem dX10_isStance_11 : decode cX10_isStance 11 = .ok (.goto 4, 3) := by decide +kernel
theorem dX10_isStance_14 : decode cX10_isStance 14 = .ok (.iconst 0, 1) := by decide +kernel
theorem dX10_isStance_15 : decode cX10_isStance 15 = .ok (.ireturn, 1) := by decide +kernel
theorem dX10_isFace_0 : decode cX10_isFace 0 = .ok (.iload_n 0, 1) := by decide +kernel
theorem dX10_isFace_1 : decode cX10_isFace 1 = .ok (.iconst 1, 1) := by decide +kernel
theorem dX10_isFace_2 : decode cX10_isFace 2 = .ok (.if_icmp .lt 13, 3) := by decide +kernel
theorem dX10_isFace_5 : decode cX10_isFace 5 = .ok (.iload_n 0, 1) := by decide +kernel
theorem dX10_isFace_6 : decode cX10_isFace 6 = .ok (.bipush 6, 2) := by decide +kernel
theorem dX10_isFace_8 : decode cX10_isFace 8 = .ok (.if_icmp .gt 7, 3) := by decide +kernel
theorem dX10_isFace_11 : decode cX10_isFace 11 = .ok (.iconst 1, 1) := by decide +kernel
theorem dX10_isFace_12 : decode cX10_isFace 12 = .ok (.goto 4, 3) := by decide +kernel
theorem dX10_isFace_15 : decode cX10_isFace 15 = .ok (.iconst 0, 1) := by decide +kernel
theorem dX10_isFace_16 : decode cX10_isFace 16 = .ok (.ireturn, 1) := by decide +kernel
theorem dX10_isWay_0 : decode cX10_isWay 0 = .ok (.iload_n 0, 1) := by decide +kernel
theorem dX10_isWay_1 : decode cX10_isWay 1 = .ok (.ifCond .lt 12, 3) := by decide +kernel
theorem dX10_isWay_4 : decode cX10_isWay 4 = .ok (.iload_n 0, 1) := by decide +kernel
theorem dX10_isWay_5 : decode cX10_isWay 5 = .ok (.iconst 4, 1) := by decide +kernel
theorem dX10_isWay_6 : decode cX10_isWay 6 = .ok (.if_icmp .ge 7, 3) := by decide +kernel
theorem dX10_isWay_9 : decode cX10_isWay 9 = .ok (.iconst 1, 1) := by decide +kernel
theorem dX10_isWay_10 : decode cX10_isWay 10 = .ok (.goto 4, 3) := by decide +kernel
theorem dX10_isWay_13 : decode cX10_isWay 13 = .ok (.iconst 0, 1) := by decide +kernel
theorem dX10_isWay_14 : decode cX10_isWay 14 = .ok (.ireturn, 1) := by decide +kernel
theorem dX10_oneIf_0 : decode cX10_oneIf 0 = .ok (.iload_n 0, 1) := by decide +kernel
theorem dX10_oneIf_1 : decode cX10_oneIf 1 = .ok (.ifCond .eq 7, 3) := by decide +kernel
theorem dX10_oneIf_4 : decode cX10_oneIf 4 = .ok (.iconst 1, 1) := by decide +kernel
theorem dX10_oneIf_5 : decode cX10_oneIf 5 = .ok (.goto 4, 3) := by decide +kernel
theorem dX10_oneIf_8 : decode cX10_oneIf 8 = .ok (.iconst 0, 1) := by decide +kernel
theorem dX10_oneIf_9 : decode cX10_oneIf 9 = .ok (.ireturn, 1) := by decide +kernel
theorem dX10_noneIfNowhere_0 : decode cX10_noneIfNowhere 0 = .ok (.iload_n 0, 1) := by decide +kernel
theorem dX10_noneIfNowhere_1 : decode cX10_noneIfNowhere 1 = .ok (.iconst (-1), 1) := by decide +kernel
theorem dX10_noneIfNowhere_2 : decode cX10_noneIfNowhere 2 = .ok (.if_icmp .ne 8, 3) := by decide +kernel
theorem dX10_noneIfNowhere_5 : decode cX10_noneIfNowhere 5 = .ok (.bipush (-9), 2) := by decide +kernel
theorem dX10_noneIfNowhere_7 : decode cX10_noneIfNowhere 7 = .ok (.goto 4, 3) := by decide +kernel
theorem dX10_noneIfNowhere_10 : decode cX10_noneIfNowhere 10 = .ok (.iload_n 0, 1) := by decide +kernel
theorem dX10_noneIfNowhere_11 : decode cX10_noneIfNowhere 11 = .ok (.ireturn, 1) := by decide +kernel
theorem dX11_init_0 : decode cX11_init 0 = .ok (.aload_n 0, 1) := by decide +kernel
theorem dX11_init_1 : decode cX11_init 1 = .ok (.invokespecial 1, 3) := by decide +kernel
theorem dX11_init_4 : decode cX11_init 4 = .ok (.aload_n 0, 1) := by decide +kernel
theorem dX11_init_5 : decode cX11_init 5 = .ok (.bipush 24, 2) := by decide +kernel
theorem dX11_init_7 : decode cX11_init 7 = .ok (.newarray .int, 2) := by decide +kernel
theorem dX11_init_9 : decode cX11_init 9 = .ok (.putfield 7, 3) := by decide +kernel
theorem dX11_init_12 : decode cX11_init 12 = .ok (.aload_n 0, 1) := by decide +kernel
theorem dX11_init_13 : decode cX11_init 13 = .ok (.bipush 24, 2) := by decide +kernel
theorem dX11_init_15 : decode cX11_init 15 = .ok (.newarray .int, 2) := by decide +kernel
theorem dX11_init_17 : decode cX11_init 17 = .ok (.putfield 13, 3) := by decide +kernel
theorem dX11_init_20 : decode cX11_init 20 = .ok (.aload_n 0, 1) := by decide +kernel
theorem dX11_init_21 : decode cX11_init 21 = .ok (.bipush 24, 2) := by decide +kernel
theorem dX11_init_23 : decode cX11_init 23 = .ok (.newarray .int, 2) := by decide +kernel
theorem dX11_init_25 : decode cX11_init 25 = .ok (.putfield 16, 3) := by decide +kernel
theorem dX11_init_28 : decode cX11_init 28 = .ok (.aload_n 0, 1) := by decide +kernel
theorem dX11_init_29 : decode cX11_init 29 = .ok (.bipush 96, 2) := by decide +kernel
theorem dX11_init_31 : decode cX11_init 31 = .ok (.newarray .int, 2) := by decide +kernel
theorem dX11_init_33 : decode cX11_init 33 = .ok (.putfield 19, 3) := by decide +kernel
theorem dX11_init_36 : decode cX11_init 36 = .ok (.aload_n 0, 1) := by decide +kernel
theorem dX11_init_37 : decode cX11_init 37 = .ok (.bipush 24, 2) := by decide +kernel
theorem dX11_init_39 : decode cX11_init 39 = .ok (.newarray .int, 2) := by decide +kernel
theorem dX11_init_41 : decode cX11_init 41 = .ok (.putfield 22, 3) := by decide +kernel
theorem dX11_init_44 : decode cX11_init 44 = .ok (.aload_n 0, 1) := by decide +kernel
theorem dX11_init_45 : decode cX11_init 45 = .ok (.iconst 4, 1) := by decide +kernel
theorem dX11_init_46 : decode cX11_init 46 = .ok (.putfield 25, 3) := by decide +kernel
theorem dX11_init_49 : decode cX11_init 49 = .ok (.aload_n 0, 1) := by decide +kernel
theorem dX11_init_50 : decode cX11_init 50 = .ok (.iconst 4, 1) := by decide +kernel
theorem dX11_init_51 : decode cX11_init 51 = .ok (.putfield 29, 3) := by decide +kernel
theorem dX11_init_54 : decode cX11_init 54 = .ok (.aload_n 0, 1) := by decide +kernel
theorem dX11_init_55 : decode cX11_init 55 = .ok (.bipush 25, 2) := by decide +kernel
theorem dX11_init_57 : decode cX11_init 57 = .ok (.newarray .int, 2) := by decide +kernel
theorem dX11_init_59 : decode cX11_init 59 = .ok (.putfield 32, 3) := by decide +kernel
theorem dX11_init_62 : decode cX11_init 62 = .ok (.aload_n 0, 1) := by decide +kernel
theorem dX11_init_63 : decode cX11_init 63 = .ok (.bipush 25, 2) := by decide +kernel
theorem dX11_init_65 : decode cX11_init 65 = .ok (.newarray .int, 2) := by decide +kernel
theorem dX11_init_67 : decode cX11_init 67 = .ok (.putfield 35, 3) := by decide +kernel
theorem dX11_init_70 : decode cX11_init 70 = .ok (.aload_n 0, 1) := by decide +kernel
theorem dX11_init_71 : decode cX11_init 71 = .ok (.sipush 600, 3) := by decide +kernel
theorem dX11_init_74 : decode cX11_init 74 = .ok (.newarray .int, 2) := by decide +kernel
theorem dX11_init_76 : decode cX11_init 76 = .ok (.putfield 38, 3) := by decide +kernel
theorem dX11_init_79 : decode cX11_init 79 = .ok (.aload_n 0, 1) := by decide +kernel
theorem dX11_init_80 : decode cX11_init 80 = .ok (.sipush 600, 3) := by decide +kernel
theorem dX11_init_83 : decode cX11_init 83 = .ok (.newarray .long, 2) := by decide +kernel
theorem dX11_init_85 : decode cX11_init 85 = .ok (.putfield 41, 3) := by decide +kernel
theorem dX11_init_88 : decode cX11_init 88 = .ok (.aload_n 0, 1) := by decide +kernel
theorem dX11_init_89 : decode cX11_init 89 = .ok (.sipush 600, 3) := by decide +kernel
theorem dX11_init_92 : decode cX11_init 92 = .ok (.newarray .int, 2) := by decide +kernel
theorem dX11_init_94 : decode cX11_init 94 = .ok (.putfield 45, 3) := by decide +kernel
theorem dX11_init_97 : decode cX11_init 97 = .ok (.aload_n 0, 1) := by decide +kernel
theorem dX11_init_98 : decode cX11_init 98 = .ok (.bipush 17, 2) := by decide +kernel
theorem dX11_init_100 : decode cX11_init 100 = .ok (.newarray .int, 2) := by decide +kernel
