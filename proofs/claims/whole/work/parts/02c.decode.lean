theorem dX11_init_102 : decode cX11_init 102 = .ok (.putfield 48, 3) := by decide +kernel
theorem dX11_init_105 : decode cX11_init 105 = .ok (.aload_n 0, 1) := by decide +kernel
theorem dX11_init_106 : decode cX11_init 106 = .ok (.bipush 17, 2) := by decide +kernel
theorem dX11_init_108 : decode cX11_init 108 = .ok (.newarray .int, 2) := by decide +kernel
theorem dX11_init_110 : decode cX11_init 110 = .ok (.putfield 51, 3) := by decide +kernel
theorem dX11_init_113 : decode cX11_init 113 = .ok (.aload_n 0, 1) := by decide +kernel
theorem dX11_init_114 : decode cX11_init 114 = .ok (.bipush 16, 2) := by decide +kernel
theorem dX11_init_116 : decode cX11_init 116 = .ok (.newarray .int, 2) := by decide +kernel
theorem dX11_init_118 : decode cX11_init 118 = .ok (.putfield 54, 3) := by decide +kernel
theorem dX11_init_121 : decode cX11_init 121 = .ok (.aload_n 0, 1) := by decide +kernel
theorem dX11_init_122 : decode cX11_init 122 = .ok (.bipush 20, 2) := by decide +kernel
theorem dX11_init_124 : decode cX11_init 124 = .ok (.newarray .int, 2) := by decide +kernel
theorem dX11_init_126 : decode cX11_init 126 = .ok (.putfield 57, 3) := by decide +kernel
theorem dX11_init_129 : decode cX11_init 129 = .ok (.aload_n 0, 1) := by decide +kernel
theorem dX11_init_130 : decode cX11_init 130 = .ok (.bipush 20, 2) := by decide +kernel
theorem dX11_init_132 : decode cX11_init 132 = .ok (.newarray .int, 2) := by decide +kernel
theorem dX11_init_134 : decode cX11_init 134 = .ok (.putfield 60, 3) := by decide +kernel
theorem dX11_init_137 : decode cX11_init 137 = .ok (.aload_n 0, 1) := by decide +kernel
theorem dX11_init_138 : decode cX11_init 138 = .ok (.bipush 7, 2) := by decide +kernel
theorem dX11_init_140 : decode cX11_init 140 = .ok (.newarray .int, 2) := by decide +kernel
theorem dX11_init_142 : decode cX11_init 142 = .ok (.putfield 63, 3) := by decide +kernel
theorem dX11_init_145 : decode cX11_init 145 = .ok (.aload_n 0, 1) := by decide +kernel
theorem dX11_init_146 : decode cX11_init 146 = .ok (.sipush 600, 3) := by decide +kernel
theorem dX11_init_149 : decode cX11_init 149 = .ok (.newarray .int, 2) := by decide +kernel
theorem dX11_init_151 : decode cX11_init 151 = .ok (.putfield 66, 3) := by decide +kernel
theorem dX11_init_154 : decode cX11_init 154 = .ok (.iconst 0, 1) := by decide +kernel
theorem dX11_init_155 : decode cX11_init 155 = .ok (.istore_n 1, 1) := by decide +kernel
theorem dX11_init_156 : decode cX11_init 156 = .ok (.iload_n 1, 1) := by decide +kernel
theorem dX11_init_157 : decode cX11_init 157 = .ok (.bipush 24, 2) := by decide +kernel
theorem dX11_init_159 : decode cX11_init 159 = .ok (.if_icmp .ge 28, 3) := by decide +kernel
theorem dX11_init_162 : decode cX11_init 162 = .ok (.aload_n 0, 1) := by decide +kernel
theorem dX11_init_163 : decode cX11_init 163 = .ok (.getfield 7, 3) := by decide +kernel
theorem dX11_init_166 : decode cX11_init 166 = .ok (.iload_n 1, 1) := by decide +kernel
theorem dX11_init_167 : decode cX11_init 167 = .ok (.iload_n 1, 1) := by decide +kernel
theorem dX11_init_168 : decode cX11_init 168 = .ok (.iconst 4, 1) := by decide +kernel
theorem dX11_init_169 : decode cX11_init 169 = .ok (.idiv, 1) := by decide +kernel
theorem dX11_init_170 : decode cX11_init 170 = .ok (.iconst 1, 1) := by decide +kernel
theorem dX11_init_171 : decode cX11_init 171 = .ok (.iadd, 1) := by decide +kernel
theorem dX11_init_172 : decode cX11_init 172 = .ok (.iastore, 1) := by decide +kernel
theorem dX11_init_173 : decode cX11_init 173 = .ok (.aload_n 0, 1) := by decide +kernel
theorem dX11_init_174 : decode cX11_init 174 = .ok (.getfield 13, 3) := by decide +kernel
theorem dX11_init_177 : decode cX11_init 177 = .ok (.iload_n 1, 1) := by decide +kernel
theorem dX11_init_178 : decode cX11_init 178 = .ok (.bipush (-9), 2) := by decide +kernel
theorem dX11_init_180 : decode cX11_init 180 = .ok (.iastore, 1) := by decide +kernel
theorem dX11_init_181 : decode cX11_init 181 = .ok (.iinc 1 1, 3) := by decide +kernel
theorem dX11_init_184 : decode cX11_init 184 = .ok (.goto (-28), 3) := by decide +kernel
theorem dX11_init_187 : decode cX11_init 187 = .ok (.iconst 1, 1) := by decide +kernel
theorem dX11_init_188 : decode cX11_init 188 = .ok (.istore_n 1, 1) := by decide +kernel
theorem dX11_init_189 : decode cX11_init 189 = .ok (.iload_n 1, 1) := by decide +kernel
theorem dX11_init_190 : decode cX11_init 190 = .ok (.bipush 7, 2) := by decide +kernel
theorem dX11_init_192 : decode cX11_init 192 = .ok (.if_icmp .ge 54, 3) := by decide +kernel
theorem dX11_init_195 : decode cX11_init 195 = .ok (.iconst 0, 1) := by decide +kernel
theorem dX11_init_196 : decode cX11_init 196 = .ok (.istore_n 2, 1) := by decide +kernel
theorem dX11_init_197 : decode cX11_init 197 = .ok (.iconst 1, 1) := by decide +kernel
theorem dX11_init_198 : decode cX11_init 198 = .ok (.istore_n 3, 1) := by decide +kernel
theorem dX11_init_199 : decode cX11_init 199 = .ok (.iload_n 3, 1) := by decide +kernel
theorem dX11_init_200 : decode cX11_init 200 = .ok (.bipush 7, 2) := by decide +kernel
theorem dX11_init_202 : decode cX11_init 202 = .ok (.if_icmp .ge 38, 3) := by decide +kernel
theorem dX11_init_205 : decode cX11_init 205 = .ok (.iload_n 3, 1) := by decide +kernel
theorem dX11_init_206 : decode cX11_init 206 = .ok (.iload_n 1, 1) := by decide +kernel
theorem dX11_init_207 : decode cX11_init 207 = .ok (.if_icmp .eq 27, 3) := by decide +kernel
theorem dX11_init_210 : decode cX11_init 210 = .ok (.iload_n 3, 1) := by decide +kernel
theorem dX11_init_211 : decode cX11_init 211 = .ok (.bipush 7, 2) := by decide +kernel
theorem dX11_init_213 : decode cX11_init 213 = .ok (.iload_n 1, 1) := by decide +kernel
theorem dX11_init_214 : decode cX11_init 214 = .ok (.isub, 1) := by decide +kernel
theorem dX11_init_215 : decode cX11_init 215 = .ok (.if_icmp .eq 19, 3) := by decide +kernel
theorem dX11_init_218 : decode cX11_init 218 = .ok (.aload_n 0, 1) := by decide +kernel
theorem dX11_init_219 : decode cX11_init 219 = .ok (.getfield 13, 3) := by decide +kernel
theorem dX11_init_222 : decode cX11_init 222 = .ok (.iconst 4, 1) := by decide +kernel
theorem dX11_init_223 : decode cX11_init 223 = .ok (.iload_n 1, 1) := by decide +kernel
theorem dX11_init_224 : decode cX11_init 224 = .ok (.imul, 1) := by decide +kernel
theorem dX11_init_225 : decode cX11_init 225 = .ok (.iconst 4, 1) := by decide +kernel
theorem dX11_init_226 : decode cX11_init 226 = .ok (.isub, 1) := by decide +kernel
theorem dX11_init_227 : decode cX11_init 227 = .ok (.iload_n 2, 1) := by decide +kernel
theorem dX11_init_228 : decode cX11_init 228 = .ok (.iadd, 1) := by decide +kernel
theorem dX11_init_229 : decode cX11_init 229 = .ok (.iload_n 3, 1) := by decide +kernel
theorem dX11_init_230 : decode cX11_init 230 = .ok (.iastore, 1) := by decide +kernel
theorem dX11_init_231 : decode cX11_init 231 = .ok (.iinc 2 1, 3) := by decide +kernel
theorem dX11_init_234 : decode cX11_init 234 = .ok (.iinc 3 1, 3) := by decide +kernel
theorem dX11_init_237 : decode cX11_init 237 = .ok (.goto (-38), 3) := by decide +kernel
theorem dX11_init_240 : decode cX11_init 240 = .ok (.iinc 1 1, 3) := by decide +kernel
theorem dX11_init_243 : decode cX11_init 243 = .ok (.goto (-54), 3) := by decide +kernel
theorem dX11_init_246 : decode cX11_init 246 = .ok (.aload_n 0, 1) := by decide +kernel
theorem dX11_init_247 : decode cX11_init 247 = .ok (.invokevirtual 69, 3) := by decide +kernel
theorem dX11_init_250 : decode cX11_init 250 = .ok (.return_, 1) := by decide +kernel
theorem dX11_in_0 : decode cX11_in 0 = .ok (.lload_n 0, 1) := by decide +kernel
theorem dX11_in_1 : decode cX11_in 1 = .ok (.lload_n 2, 1) := by decide +kernel
theorem dX11_in_2 : decode cX11_in 2 = .ok (.lcmp, 1) := by decide +kernel
theorem dX11_in_3 : decode cX11_in 3 = .ok (.ifCond .lt 14, 3) := by decide +kernel
theorem dX11_in_6 : decode cX11_in 6 = .ok (.lload_n 0, 1) := by decide +kernel
theorem dX11_in_7 : decode cX11_in 7 = .ok (.lload 4, 2) := by decide +kernel
theorem dX11_in_9 : decode cX11_in 9 = .ok (.lcmp, 1) := by decide +kernel
theorem dX11_in_10 : decode cX11_in 10 = .ok (.ifCond .gt 7, 3) := by decide +kernel
theorem dX11_in_13 : decode cX11_in 13 = .ok (.iconst 1, 1) := by decide +kernel
theorem dX11_in_14 : decode cX11_in 14 = .ok (.goto 4, 3) := by decide +kernel
theorem dX11_in_17 : decode cX11_in 17 = .ok (.iconst 0, 1) := by decide +kernel
theorem dX11_in_18 : decode cX11_in 18 = .ok (.ireturn, 1) := by decide +kernel
theorem dX11_stanceOf_0 : decode cX11_stanceOf 0 = .ok (.iconst 0, 1) := by decide +kernel
theorem dX11_stanceOf_1 : decode cX11_stanceOf 1 = .ok (.istore_n 3, 1) := by decide +kernel
theorem dX11_stanceOf_2 : decode cX11_stanceOf 2 = .ok (.iload_n 3, 1) := by decide +kernel
theorem dX11_stanceOf_3 : decode cX11_stanceOf 3 = .ok (.bipush 24, 2) := by decide +kernel
theorem dX11_stanceOf_5 : decode cX11_stanceOf 5 = .ok (.if_icmp .ge 31, 3) := by decide +kernel
theorem dX11_stanceOf_8 : decode cX11_stanceOf 8 = .ok (.aload_n 0, 1) := by decide +kernel
theorem dX11_stanceOf_9 : decode cX11_stanceOf 9 = .ok (.getfield 7, 3) := by decide +kernel
theorem dX11_stanceOf_12 : decode cX11_stanceOf 12 = .ok (.iload_n 3, 1) := by decide +kernel
theorem dX11_stanceOf_13 : decode cX11_stanceOf 13 = .ok (.iaload, 1) := by decide +kernel
theorem dX11_stanceOf_14 : decode cX11_stanceOf 14 = .ok (.iload_n 1, 1) := by decide +kernel
theorem dX11_stanceOf_15 : decode cX11_stanceOf 15 = .ok (.if_icmp .ne 15, 3) := by decide +kernel
theorem dX11_stanceOf_18 : decode cX11_stanceOf 18 = .ok (.aload_n 0, 1) := by decide +kernel
theorem dX11_stanceOf_19 : decode cX11_stanceOf 19 = .ok (.getfield 13, 3) := by decide +kernel
theorem dX11_stanceOf_22 : decode cX11_stanceOf 22 = .ok (.iload_n 3, 1) := by decide +kernel
theorem dX11_stanceOf_23 : decode cX11_stanceOf 23 = .ok (.iaload, 1) := by decide +kernel
theorem dX11_stanceOf_24 : decode cX11_stanceOf 24 = .ok (.iload_n 2, 1) := by decide +kernel
theorem dX11_stanceOf_25 : decode cX11_stanceOf 25 = .ok (.if_icmp .ne 5, 3) := by decide +kernel
theorem dX11_stanceOf_28 : decode cX11_stanceOf 28 = .ok (.iload_n 3, 1) := by decide +kernel
theorem dX11_stanceOf_29 : decode cX11_stanceOf 29 = .ok (.ireturn, 1) := by decide +kernel
theorem dX11_stanceOf_30 : decode cX11_stanceOf 30 = .ok (.iinc 3 1, 3) := by decide +kernel
theorem dX11_stanceOf_33 : decode cX11_stanceOf 33 = .ok (.goto (-31), 3) := by decide +kernel
theorem dX11_stanceOf_36 : decode cX11_stanceOf 36 = .ok (.bipush (-9), 2) := by decide +kernel
theorem dX11_stanceOf_38 : decode cX11_stanceOf 38 = .ok (.ireturn, 1) := by decide +kernel
theorem dX11_laySouths_0 : decode cX11_laySouths 0 = .ok (.aload_n 0, 1) := by decide +kernel
theorem dX11_laySouths_1 : decode cX11_laySouths 1 = .ok (.getfield 16, 3) := by decide +kernel
theorem dX11_laySouths_4 : decode cX11_laySouths 4 = .ok (.aload_n 0, 1) := by decide +kernel
theorem dX11_laySouths_5 : decode cX11_laySouths 5 = .ok (.iconst 1, 1) := by decide +kernel
theorem dX11_laySouths_6 : decode cX11_laySouths 6 = .ok (.iconst 3, 1) := by decide +kernel
theorem dX11_laySouths_7 : decode cX11_laySouths 7 = .ok (.invokevirtual 72, 3) := by decide +kernel
theorem dX11_laySouths_10 : decode cX11_laySouths 10 = .ok (.iconst 2, 1) := by decide +kernel
theorem dX11_laySouths_11 : decode cX11_laySouths 11 = .ok (.iastore, 1) := by decide +kernel
theorem dX11_laySouths_12 : decode cX11_laySouths 12 = .ok (.iconst 1, 1) := by decide +kernel
theorem dX11_laySouths_13 : decode cX11_laySouths 13 = .ok (.istore_n 1, 1) := by decide +kernel
theorem dX11_laySouths_14 : decode cX11_laySouths 14 = .ok (.iload_n 1, 1) := by decide +kernel
theorem dX11_laySouths_15 : decode cX11_laySouths 15 = .ok (.ifCond .eq 141, 3) := by decide +kernel
theorem dX11_laySouths_18 : decode cX11_laySouths 18 = .ok (.iconst 0, 1) := by decide +kernel
theorem dX11_laySouths_19 : decode cX11_laySouths 19 = .ok (.istore_n 1, 1) := by decide +kernel
theorem dX11_laySouths_20 : decode cX11_laySouths 20 = .ok (.iconst 0, 1) := by decide +kernel
theorem dX11_laySouths_21 : decode cX11_laySouths 21 = .ok (.istore_n 2, 1) := by decide +kernel
theorem dX11_laySouths_22 : decode cX11_laySouths 22 = .ok (.iload_n 2, 1) := by decide +kernel
theorem dX11_laySouths_23 : decode cX11_laySouths 23 = .ok (.bipush 96, 2) := by decide +kernel
theorem dX11_laySouths_25 : decode cX11_laySouths 25 = .ok (.if_icmp .ge 128, 3) := by decide +kernel
theorem dX11_laySouths_28 : decode cX11_laySouths 28 = .ok (.iload_n 2, 1) := by decide +kernel
theorem dX11_laySouths_29 : decode cX11_laySouths 29 = .ok (.iconst 4, 1) := by decide +kernel
theorem dX11_laySouths_30 : decode cX11_laySouths 30 = .ok (.idiv, 1) := by decide +kernel
theorem dX11_laySouths_31 : decode cX11_laySouths 31 = .ok (.istore_n 3, 1) := by decide +kernel
theorem dX11_laySouths_32 : decode cX11_laySouths 32 = .ok (.aload_n 0, 1) := by decide +kernel
theorem dX11_laySouths_33 : decode cX11_laySouths 33 = .ok (.getfield 16, 3) := by decide +kernel
theorem dX11_laySouths_36 : decode cX11_laySouths 36 = .ok (.iload_n 3, 1) := by decide +kernel
theorem dX11_laySouths_37 : decode cX11_laySouths 37 = .ok (.iaload, 1) := by decide +kernel
theorem dX11_laySouths_38 : decode cX11_laySouths 38 = .ok (.ifCond .le 109, 3) := by decide +kernel
theorem dX11_laySouths_41 : decode cX11_laySouths 41 = .ok (.aload_n 0, 1) := by decide +kernel
theorem dX11_laySouths_42 : decode cX11_laySouths 42 = .ok (.iload_n 3, 1) := by decide +kernel
theorem dX11_laySouths_43 : decode cX11_laySouths 43 = .ok (.iload_n 2, 1) := by decide +kernel
theorem dX11_laySouths_44 : decode cX11_laySouths 44 = .ok (.iconst 4, 1) := by decide +kernel
theorem dX11_laySouths_45 : decode cX11_laySouths 45 = .ok (.irem, 1) := by decide +kernel
theorem dX11_laySouths_46 : decode cX11_laySouths 46 = .ok (.invokevirtual 76, 3) := by decide +kernel
theorem dX11_laySouths_49 : decode cX11_laySouths 49 = .ok (.istore 4, 2) := by decide +kernel
theorem dX11_laySouths_51 : decode cX11_laySouths 51 = .ok (.aload_n 0, 1) := by decide +kernel
theorem dX11_laySouths_52 : decode cX11_laySouths 52 = .ok (.iload_n 3, 1) := by decide +kernel
theorem dX11_laySouths_53 : decode cX11_laySouths 53 = .ok (.iload_n 2, 1) := by decide +kernel
theorem dX11_laySouths_54 : decode cX11_laySouths 54 = .ok (.iconst 4, 1) := by decide +kernel
theorem dX11_laySouths_55 : decode cX11_laySouths 55 = .ok (.irem, 1) := by decide +kernel
theorem dX11_laySouths_56 : decode cX11_laySouths 56 = .ok (.invokevirtual 79, 3) := by decide +kernel
theorem dX11_laySouths_59 : decode cX11_laySouths 59 = .ok (.istore 5, 2) := by decide +kernel
theorem dX11_laySouths_61 : decode cX11_laySouths 61 = .ok (.aload_n 0, 1) := by decide +kernel
theorem dX11_laySouths_62 : decode cX11_laySouths 62 = .ok (.iload 4, 2) := by decide +kernel
theorem dX11_laySouths_64 : decode cX11_laySouths 64 = .ok (.iload 5, 2) := by decide +kernel
theorem dX11_laySouths_66 : decode cX11_laySouths 66 = .ok (.invokevirtual 72, 3) := by decide +kernel
theorem dX11_laySouths_69 : decode cX11_laySouths 69 = .ok (.istore 6, 2) := by decide +kernel
theorem dX11_laySouths_71 : decode cX11_laySouths 71 = .ok (.aload_n 0, 1) := by decide +kernel
theorem dX11_laySouths_72 : decode cX11_laySouths 72 = .ok (.getfield 19, 3) := by decide +kernel
theorem dX11_laySouths_75 : decode cX11_laySouths 75 = .ok (.iload_n 2, 1) := by decide +kernel
theorem dX11_laySouths_76 : decode cX11_laySouths 76 = .ok (.iload 6, 2) := by decide +kernel
theorem dX11_laySouths_78 : decode cX11_laySouths 78 = .ok (.iastore, 1) := by decide +kernel
theorem dX11_laySouths_79 : decode cX11_laySouths 79 = .ok (.iload_n 1, 1) := by decide +kernel
theorem dX11_laySouths_80 : decode cX11_laySouths 80 = .ok (.ifCond .ne 13, 3) := by decide +kernel
theorem dX11_laySouths_83 : decode cX11_laySouths 83 = .ok (.aload_n 0, 1) := by decide +kernel
theorem dX11_laySouths_84 : decode cX11_laySouths 84 = .ok (.getfield 16, 3) := by decide +kernel
theorem dX11_laySouths_87 : decode cX11_laySouths 87 = .ok (.iload 6, 2) := by decide +kernel
theorem dX11_laySouths_89 : decode cX11_laySouths 89 = .ok (.iaload, 1) := by decide +kernel
theorem dX11_laySouths_90 : decode cX11_laySouths 90 = .ok (.ifCond .ne 7, 3) := by decide +kernel
theorem dX11_laySouths_93 : decode cX11_laySouths 93 = .ok (.iconst 1, 1) := by decide +kernel
theorem dX11_laySouths_94 : decode cX11_laySouths 94 = .ok (.goto 4, 3) := by decide +kernel
theorem dX11_laySouths_97 : decode cX11_laySouths 97 = .ok (.iconst 0, 1) := by decide +kernel
theorem dX11_laySouths_98 : decode cX11_laySouths 98 = .ok (.istore_n 1, 1) := by decide +kernel
theorem dX11_laySouths_99 : decode cX11_laySouths 99 = .ok (.aload_n 0, 1) := by decide +kernel
theorem dX11_laySouths_100 : decode cX11_laySouths 100 = .ok (.getfield 16, 3) := by decide +kernel
theorem dX11_laySouths_103 : decode cX11_laySouths 103 = .ok (.iload 6, 2) := by decide +kernel
theorem dX11_laySouths_105 : decode cX11_laySouths 105 = .ok (.iload_n 2, 1) := by decide +kernel
theorem dX11_laySouths_106 : decode cX11_laySouths 106 = .ok (.iconst 4, 1) := by decide +kernel
theorem dX11_laySouths_107 : decode cX11_laySouths 107 = .ok (.irem, 1) := by decide +kernel
theorem dX11_laySouths_108 : decode cX11_laySouths 108 = .ok (.iconst 1, 1) := by decide +kernel
theorem dX11_laySouths_109 : decode cX11_laySouths 109 = .ok (.if_icmp .ne 12, 3) := by decide +kernel
theorem dX11_laySouths_112 : decode cX11_laySouths 112 = .ok (.aload_n 0, 1) := by decide +kernel
theorem dX11_laySouths_113 : decode cX11_laySouths 113 = .ok (.getfield 7, 3) := by decide +kernel
theorem dX11_laySouths_116 : decode cX11_laySouths 116 = .ok (.iload_n 3, 1) := by decide +kernel
theorem dX11_laySouths_117 : decode cX11_laySouths 117 = .ok (.iaload, 1) := by decide +kernel
theorem dX11_laySouths_118 : decode cX11_laySouths 118 = .ok (.goto 28, 3) := by decide +kernel
theorem dX11_laySouths_121 : decode cX11_laySouths 121 = .ok (.iload_n 2, 1) := by decide +kernel
theorem dX11_laySouths_122 : decode cX11_laySouths 122 = .ok (.iconst 4, 1) := by decide +kernel
theorem dX11_laySouths_123 : decode cX11_laySouths 123 = .ok (.irem, 1) := by decide +kernel
theorem dX11_laySouths_124 : decode cX11_laySouths 124 = .ok (.iconst 3, 1) := by decide +kernel
theorem dX11_laySouths_125 : decode cX11_laySouths 125 = .ok (.if_icmp .ne 15, 3) := by decide +kernel
theorem dX11_laySouths_128 : decode cX11_laySouths 128 = .ok (.bipush 7, 2) := by decide +kernel
theorem dX11_laySouths_130 : decode cX11_laySouths 130 = .ok (.aload_n 0, 1) := by decide +kernel
theorem dX11_laySouths_131 : decode cX11_laySouths 131 = .ok (.getfield 7, 3) := by decide +kernel
theorem dX11_laySouths_134 : decode cX11_laySouths 134 = .ok (.iload_n 3, 1) := by decide +kernel
theorem dX11_laySouths_135 : decode cX11_laySouths 135 = .ok (.iaload, 1) := by decide +kernel
theorem dX11_laySouths_136 : decode cX11_laySouths 136 = .ok (.isub, 1) := by decide +kernel
theorem dX11_laySouths_137 : decode cX11_laySouths 137 = .ok (.goto 9, 3) := by decide +kernel
theorem dX11_laySouths_140 : decode cX11_laySouths 140 = .ok (.aload_n 0, 1) := by decide +kernel
theorem dX11_laySouths_141 : decode cX11_laySouths 141 = .ok (.getfield 16, 3) := by decide +kernel
theorem dX11_laySouths_144 : decode cX11_laySouths 144 = .ok (.iload_n 3, 1) := by decide +kernel
theorem dX11_laySouths_145 : decode cX11_laySouths 145 = .ok (.iaload, 1) := by decide +kernel
theorem dX11_laySouths_146 : decode cX11_laySouths 146 = .ok (.iastore, 1) := by decide +kernel
theorem dX11_laySouths_147 : decode cX11_laySouths 147 = .ok (.iinc 2 1, 3) := by decide +kernel
theorem dX11_laySouths_150 : decode cX11_laySouths 150 = .ok (.goto (-128), 3) := by decide +kernel
theorem dX11_laySouths_153 : decode cX11_laySouths 153 = .ok (.goto (-139), 3) := by decide +kernel
theorem dX11_laySouths_156 : decode cX11_laySouths 156 = .ok (.return_, 1) := by decide +kernel
theorem dX11_topAfter_0 : decode cX11_topAfter 0 = .ok (.iload_n 2, 1) := by decide +kernel
theorem dX11_topAfter_1 : decode cX11_topAfter 1 = .ok (.ifCond .ne 15, 3) := by decide +kernel
theorem dX11_topAfter_4 : decode cX11_topAfter 4 = .ok (.bipush 7, 2) := by decide +kernel
theorem dX11_topAfter_6 : decode cX11_topAfter 6 = .ok (.aload_n 0, 1) := by decide +kernel
theorem dX11_topAfter_7 : decode cX11_topAfter 7 = .ok (.getfield 13, 3) := by decide +kernel
theorem dX11_topAfter_10 : decode cX11_topAfter 10 = .ok (.iload_n 1, 1) := by decide +kernel
theorem dX11_topAfter_11 : decode cX11_topAfter 11 = .ok (.iaload, 1) := by decide +kernel
theorem dX11_topAfter_12 : decode cX11_topAfter 12 = .ok (.isub, 1) := by decide +kernel
theorem dX11_topAfter_13 : decode cX11_topAfter 13 = .ok (.goto 40, 3) := by decide +kernel
theorem dX11_topAfter_16 : decode cX11_topAfter 16 = .ok (.iload_n 2, 1) := by decide +kernel
theorem dX11_topAfter_17 : decode cX11_topAfter 17 = .ok (.iconst 1, 1) := by decide +kernel
theorem dX11_topAfter_18 : decode cX11_topAfter 18 = .ok (.if_icmp .ne 15, 3) := by decide +kernel
theorem dX11_topAfter_21 : decode cX11_topAfter 21 = .ok (.bipush 7, 2) := by decide +kernel
theorem dX11_topAfter_23 : decode cX11_topAfter 23 = .ok (.aload_n 0, 1) := by decide +kernel
theorem dX11_topAfter_24 : decode cX11_topAfter 24 = .ok (.getfield 16, 3) := by decide +kernel
theorem dX11_topAfter_27 : decode cX11_topAfter 27 = .ok (.iload_n 1, 1) := by decide +kernel
theorem dX11_topAfter_28 : decode cX11_topAfter 28 = .ok (.iaload, 1) := by decide +kernel
theorem dX11_topAfter_29 : decode cX11_topAfter 29 = .ok (.isub, 1) := by decide +kernel
theorem dX11_topAfter_30 : decode cX11_topAfter 30 = .ok (.goto 23, 3) := by decide +kernel
theorem dX11_topAfter_33 : decode cX11_topAfter 33 = .ok (.iload_n 2, 1) := by decide +kernel
theorem dX11_topAfter_34 : decode cX11_topAfter 34 = .ok (.iconst 2, 1) := by decide +kernel
theorem dX11_topAfter_35 : decode cX11_topAfter 35 = .ok (.if_icmp .ne 12, 3) := by decide +kernel
theorem dX11_topAfter_38 : decode cX11_topAfter 38 = .ok (.aload_n 0, 1) := by decide +kernel
theorem dX11_topAfter_39 : decode cX11_topAfter 39 = .ok (.getfield 13, 3) := by decide +kernel
theorem dX11_topAfter_42 : decode cX11_topAfter 42 = .ok (.iload_n 1, 1) := by decide +kernel
theorem dX11_topAfter_43 : decode cX11_topAfter 43 = .ok (.iaload, 1) := by decide +kernel
theorem dX11_topAfter_44 : decode cX11_topAfter 44 = .ok (.goto 9, 3) := by decide +kernel
theorem dX11_topAfter_47 : decode cX11_topAfter 47 = .ok (.aload_n 0, 1) := by decide +kernel
theorem dX11_topAfter_48 : decode cX11_topAfter 48 = .ok (.getfield 16, 3) := by decide +kernel
theorem dX11_topAfter_51 : decode cX11_topAfter 51 = .ok (.iload_n 1, 1) := by decide +kernel
theorem dX11_topAfter_52 : decode cX11_topAfter 52 = .ok (.iaload, 1) := by decide +kernel
theorem dX11_topAfter_53 : decode cX11_topAfter 53 = .ok (.ireturn, 1) := by decide +kernel
theorem dX11_eastAfter_0 : decode cX11_eastAfter 0 = .ok (.iload_n 2, 1) := by decide +kernel
theorem dX11_eastAfter_1 : decode cX11_eastAfter 1 = .ok (.ifCond .ne 12, 3) := by decide +kernel
theorem dX11_eastAfter_4 : decode cX11_eastAfter 4 = .ok (.aload_n 0, 1) := by decide +kernel
theorem dX11_eastAfter_5 : decode cX11_eastAfter 5 = .ok (.getfield 7, 3) := by decide +kernel
theorem dX11_eastAfter_8 : decode cX11_eastAfter 8 = .ok (.iload_n 1, 1) := by decide +kernel
theorem dX11_eastAfter_9 : decode cX11_eastAfter 9 = .ok (.iaload, 1) := by decide +kernel
theorem dX11_eastAfter_10 : decode cX11_eastAfter 10 = .ok (.goto 26, 3) := by decide +kernel
theorem dX11_eastAfter_13 : decode cX11_eastAfter 13 = .ok (.iload_n 2, 1) := by decide +kernel
theorem dX11_eastAfter_14 : decode cX11_eastAfter 14 = .ok (.iconst 2, 1) := by decide +kernel
theorem dX11_eastAfter_15 : decode cX11_eastAfter 15 = .ok (.if_icmp .ne 15, 3) := by decide +kernel
theorem dX11_eastAfter_18 : decode cX11_eastAfter 18 = .ok (.bipush 7, 2) := by decide +kernel
theorem dX11_eastAfter_20 : decode cX11_eastAfter 20 = .ok (.aload_n 0, 1) := by decide +kernel
theorem dX11_eastAfter_21 : decode cX11_eastAfter 21 = .ok (.getfield 7, 3) := by decide +kernel
theorem dX11_eastAfter_24 : decode cX11_eastAfter 24 = .ok (.iload_n 1, 1) := by decide +kernel
theorem dX11_eastAfter_25 : decode cX11_eastAfter 25 = .ok (.iaload, 1) := by decide +kernel
theorem dX11_eastAfter_26 : decode cX11_eastAfter 26 = .ok (.isub, 1) := by decide +kernel
theorem dX11_eastAfter_27 : decode cX11_eastAfter 27 = .ok (.goto 9, 3) := by decide +kernel
theorem dX11_eastAfter_30 : decode cX11_eastAfter 30 = .ok (.aload_n 0, 1) := by decide +kernel
theorem dX11_eastAfter_31 : decode cX11_eastAfter 31 = .ok (.getfield 13, 3) := by decide +kernel
theorem dX11_eastAfter_34 : decode cX11_eastAfter 34 = .ok (.iload_n 1, 1) := by decide +kernel
theorem dX11_eastAfter_35 : decode cX11_eastAfter 35 = .ok (.iaload, 1) := by decide +kernel
theorem dX11_eastAfter_36 : decode cX11_eastAfter 36 = .ok (.ireturn, 1) := by decide +kernel
theorem dX11_isStance_0 : decode cX11_isStance 0 = .ok (.iload_n 0, 1) := by decide +kernel
theorem dX11_isStance_1 : decode cX11_isStance 1 = .ok (.i2l, 1) := by decide +kernel
theorem dX11_isStance_2 : decode cX11_isStance 2 = .ok (.lconst 0, 1) := by decide +kernel
theorem dX11_isStance_3 : decode cX11_isStance 3 = .ok (.ldc2_w 82, 3) := by decide +kernel
theorem dX11_isStance_6 : decode cX11_isStance 6 = .ok (.invokestatic 84, 3) := by decide +kernel
theorem dX11_isStance_9 : decode cX11_isStance 9 = .ok (.ireturn, 1) := by decide +kernel
theorem dX11_isWay_0 : decode cX11_isWay 0 = .ok (.iload_n 0, 1) := by decide +kernel
theorem dX11_isWay_1 : decode cX11_isWay 1 = .ok (.i2l, 1) := by decide +kernel
theorem dX11_isWay_2 : decode cX11_isWay 2 = .ok (.lconst 0, 1) := by decide +kernel
theorem dX11_isWay_3 : decode cX11_isWay 3 = .ok (.ldc2_w 88, 3) := by decide +kernel
theorem dX11_isWay_6 : decode cX11_isWay 6 = .ok (.invokestatic 84, 3) := by decide +kernel
theorem dX11_isWay_9 : decode cX11_isWay 9 = .ok (.ireturn, 1) := by decide +kernel
theorem dX11_face_0 : decode cX11_face 0 = .ok (.iload_n 1, 1) := by decide +kernel
theorem dX11_face_1 : decode cX11_face 1 = .ok (.invokestatic 90, 3) := by decide +kernel
theorem dX11_face_4 : decode cX11_face 4 = .ok (.ifCond .ne 5, 3) := by decide +kernel
theorem dX11_face_7 : decode cX11_face 7 = .ok (.iconst (-1), 1) := by decide +kernel
theorem dX11_face_8 : decode cX11_face 8 = .ok (.ireturn, 1) := by decide +kernel
theorem dX11_face_9 : decode cX11_face 9 = .ok (.iload_n 2, 1) := by decide +kernel
theorem dX11_face_10 : decode cX11_face 10 = .ok (.ifCond .ne 12, 3) := by decide +kernel
theorem dX11_face_13 : decode cX11_face 13 = .ok (.aload_n 0, 1) := by decide +kernel
theorem dX11_face_14 : decode cX11_face 14 = .ok (.getfield 7, 3) := by decide +kernel
theorem dX11_face_17 : decode cX11_face 17 = .ok (.iload_n 1, 1) := by decide +kernel
theorem dX11_face_18 : decode cX11_face 18 = .ok (.iaload, 1) := by decide +kernel
theorem dX11_face_19 : decode cX11_face 19 = .ok (.goto 33, 3) := by decide +kernel
theorem dX11_face_22 : decode cX11_face 22 = .ok (.iload_n 2, 1) := by decide +kernel
theorem dX11_face_23 : decode cX11_face 23 = .ok (.iconst 1, 1) := by decide +kernel
theorem dX11_face_24 : decode cX11_face 24 = .ok (.if_icmp .ne 12, 3) := by decide +kernel
theorem dX11_face_27 : decode cX11_face 27 = .ok (.aload_n 0, 1) := by decide +kernel
theorem dX11_face_28 : decode cX11_face 28 = .ok (.getfield 13, 3) := by decide +kernel
theorem dX11_face_31 : decode cX11_face 31 = .ok (.iload_n 1, 1) := by decide +kernel
theorem dX11_face_32 : decode cX11_face 32 = .ok (.iaload, 1) := by decide +kernel
theorem dX11_face_33 : decode cX11_face 33 = .ok (.goto 19, 3) := by decide +kernel
theorem dX11_face_36 : decode cX11_face 36 = .ok (.iload_n 2, 1) := by decide +kernel
theorem dX11_face_37 : decode cX11_face 37 = .ok (.iconst 2, 1) := by decide +kernel
theorem dX11_face_38 : decode cX11_face 38 = .ok (.if_icmp .ne 12, 3) := by decide +kernel
theorem dX11_face_41 : decode cX11_face 41 = .ok (.aload_n 0, 1) := by decide +kernel
theorem dX11_face_42 : decode cX11_face 42 = .ok (.getfield 16, 3) := by decide +kernel
theorem dX11_face_45 : decode cX11_face 45 = .ok (.iload_n 1, 1) := by decide +kernel
theorem dX11_face_46 : decode cX11_face 46 = .ok (.iaload, 1) := by decide +kernel
theorem dX11_face_47 : decode cX11_face 47 = .ok (.goto 5, 3) := by decide +kernel
theorem dX11_face_50 : decode cX11_face 50 = .ok (.bipush (-2), 2) := by decide +kernel
theorem dX11_face_52 : decode cX11_face 52 = .ok (.ireturn, 1) := by decide +kernel
theorem dX11_turn_0 : decode cX11_turn 0 = .ok (.iload_n 1, 1) := by decide +kernel
theorem dX11_turn_1 : decode cX11_turn 1 = .ok (.invokestatic 90, 3) := by decide +kernel
theorem dX11_turn_4 : decode cX11_turn 4 = .ok (.ifCond .ne 5, 3) := by decide +kernel
theorem dX11_turn_7 : decode cX11_turn 7 = .ok (.iconst (-1), 1) := by decide +kernel
theorem dX11_turn_8 : decode cX11_turn 8 = .ok (.ireturn, 1) := by decide +kernel
theorem dX11_turn_9 : decode cX11_turn 9 = .ok (.iload_n 2, 1) := by decide +kernel
theorem dX11_turn_10 : decode cX11_turn 10 = .ok (.invokestatic 94, 3) := by decide +kernel
theorem dX11_turn_13 : decode cX11_turn 13 = .ok (.ifCond .eq 16, 3) := by decide +kernel
theorem dX11_turn_16 : decode cX11_turn 16 = .ok (.aload_n 0, 1) := by decide +kernel
theorem dX11_turn_17 : decode cX11_turn 17 = .ok (.getfield 19, 3) := by decide +kernel
theorem dX11_turn_20 : decode cX11_turn 20 = .ok (.iconst 4, 1) := by decide +kernel
theorem dX11_turn_21 : decode cX11_turn 21 = .ok (.iload_n 1, 1) := by decide +kernel
theorem dX11_turn_22 : decode cX11_turn 22 = .ok (.imul, 1) := by decide +kernel
theorem dX11_turn_23 : decode cX11_turn 23 = .ok (.iload_n 2, 1) := by decide +kernel
theorem dX11_turn_24 : decode cX11_turn 24 = .ok (.iadd, 1) := by decide +kernel
theorem dX11_turn_25 : decode cX11_turn 25 = .ok (.iaload, 1) := by decide +kernel
theorem dX11_turn_26 : decode cX11_turn 26 = .ok (.goto 5, 3) := by decide +kernel
theorem dX11_turn_29 : decode cX11_turn 29 = .ok (.bipush (-2), 2) := by decide +kernel
theorem dX11_turn_31 : decode cX11_turn 31 = .ok (.ireturn, 1) := by decide +kernel
theorem dX11_stance_0 : decode cX11_stance 0 = .ok (.iload_n 1, 1) := by decide +kernel
theorem dX11_stance_1 : decode cX11_stance 1 = .ok (.i2l, 1) := by decide +kernel
theorem dX11_stance_2 : decode cX11_stance 2 = .ok (.lconst 1, 1) := by decide +kernel
theorem dX11_stance_3 : decode cX11_stance 3 = .ok (.ldc2_w 97, 3) := by decide +kernel
theorem dX11_stance_6 : decode cX11_stance 6 = .ok (.invokestatic 84, 3) := by decide +kernel
theorem dX11_stance_9 : decode cX11_stance 9 = .ok (.ifCond .eq 24, 3) := by decide +kernel
theorem dX11_stance_12 : decode cX11_stance 12 = .ok (.iload_n 2, 1) := by decide +kernel
theorem dX11_stance_13 : decode cX11_stance 13 = .ok (.i2l, 1) := by decide +kernel
theorem dX11_stance_14 : decode cX11_stance 14 = .ok (.lconst 1, 1) := by decide +kernel
theorem dX11_stance_15 : decode cX11_stance 15 = .ok (.ldc2_w 97, 3) := by decide +kernel
theorem dX11_stance_18 : decode cX11_stance 18 = .ok (.invokestatic 84, 3) := by decide +kernel
theorem dX11_stance_21 : decode cX11_stance 21 = .ok (.ifCond .eq 12, 3) := by decide +kernel
theorem dX11_stance_24 : decode cX11_stance 24 = .ok (.aload_n 0, 1) := by decide +kernel
theorem dX11_stance_25 : decode cX11_stance 25 = .ok (.iload_n 1, 1) := by decide +kernel
theorem dX11_stance_26 : decode cX11_stance 26 = .ok (.iload_n 2, 1) := by decide +kernel
theorem dX11_stance_27 : decode cX11_stance 27 = .ok (.invokevirtual 72, 3) := by decide +kernel
theorem dX11_stance_30 : decode cX11_stance 30 = .ok (.goto 5, 3) := by decide +kernel
theorem dX11_stance_33 : decode cX11_stance 33 = .ok (.bipush (-2), 2) := by decide +kernel
theorem dX11_stance_35 : decode cX11_stance 35 = .ok (.ireturn, 1) := by decide +kernel
theorem dX11_apart_0 : decode cX11_apart 0 = .ok (.iload_n 1, 1) := by decide +kernel
theorem dX11_apart_1 : decode cX11_apart 1 = .ok (.invokestatic 90, 3) := by decide +kernel
theorem dX11_apart_4 : decode cX11_apart 4 = .ok (.ifCond .eq 10, 3) := by decide +kernel
theorem dX11_apart_7 : decode cX11_apart 7 = .ok (.iload_n 2, 1) := by decide +kernel
theorem dX11_apart_8 : decode cX11_apart 8 = .ok (.invokestatic 90, 3) := by decide +kernel
theorem dX11_apart_11 : decode cX11_apart 11 = .ok (.ifCond .ne 5, 3) := by decide +kernel
theorem dX11_apart_14 : decode cX11_apart 14 = .ok (.iconst (-1), 1) := by decide +kernel
theorem dX11_apart_15 : decode cX11_apart 15 = .ok (.ireturn, 1) := by decide +kernel
theorem dX11_apart_16 : decode cX11_apart 16 = .ok (.iconst 0, 1) := by decide +kernel
theorem dX11_apart_17 : decode cX11_apart 17 = .ok (.istore_n 3, 1) := by decide +kernel
theorem dX11_apart_18 : decode cX11_apart 18 = .ok (.iload_n 3, 1) := by decide +kernel
theorem dX11_apart_19 : decode cX11_apart 19 = .ok (.bipush 24, 2) := by decide +kernel
theorem dX11_apart_21 : decode cX11_apart 21 = .ok (.if_icmp .ge 26, 3) := by decide +kernel
theorem dX11_apart_24 : decode cX11_apart 24 = .ok (.aload_n 0, 1) := by decide +kernel
theorem dX11_apart_25 : decode cX11_apart 25 = .ok (.getfield 22, 3) := by decide +kernel
theorem dX11_apart_28 : decode cX11_apart 28 = .ok (.iload_n 3, 1) := by decide +kernel
theorem dX11_apart_29 : decode cX11_apart 29 = .ok (.iload_n 3, 1) := by decide +kernel
theorem dX11_apart_30 : decode cX11_apart 30 = .ok (.iload_n 1, 1) := by decide +kernel
theorem dX11_apart_31 : decode cX11_apart 31 = .ok (.if_icmp .ne 7, 3) := by decide +kernel
theorem dX11_apart_34 : decode cX11_apart 34 = .ok (.iconst 0, 1) := by decide +kernel
theorem dX11_apart_35 : decode cX11_apart 35 = .ok (.goto 5, 3) := by decide +kernel
theorem dX11_apart_38 : decode cX11_apart 38 = .ok (.ldc 99, 2) := by decide +kernel
theorem dX11_apart_40 : decode cX11_apart 40 = .ok (.iastore, 1) := by decide +kernel
theorem dX11_apart_41 : decode cX11_apart 41 = .ok (.iinc 3 1, 3) := by decide +kernel
theorem dX11_apart_44 : decode cX11_apart 44 = .ok (.goto (-26), 3) := by decide +kernel
theorem dX11_apart_47 : decode cX11_apart 47 = .ok (.iconst 0, 1) := by decide +kernel
theorem dX11_apart_48 : decode cX11_apart 48 = .ok (.istore_n 3, 1) := by decide +kernel
theorem dX11_apart_49 : decode cX11_apart 49 = .ok (.iload_n 3, 1) := by decide +kernel
theorem dX11_apart_50 : decode cX11_apart 50 = .ok (.bipush 24, 2) := by decide +kernel
theorem dX11_apart_52 : decode cX11_apart 52 = .ok (.if_icmp .ge 79, 3) := by decide +kernel
theorem dX11_apart_55 : decode cX11_apart 55 = .ok (.iconst 0, 1) := by decide +kernel
theorem dX11_apart_56 : decode cX11_apart 56 = .ok (.istore 4, 2) := by decide +kernel
theorem dX11_apart_58 : decode cX11_apart 58 = .ok (.iload 4, 2) := by decide +kernel
theorem dX11_apart_60 : decode cX11_apart 60 = .ok (.bipush 96, 2) := by decide +kernel
theorem dX11_apart_62 : decode cX11_apart 62 = .ok (.if_icmp .ge 63, 3) := by decide +kernel
theorem dX11_apart_65 : decode cX11_apart 65 = .ok (.aload_n 0, 1) := by decide +kernel
theorem dX11_apart_66 : decode cX11_apart 66 = .ok (.getfield 19, 3) := by decide +kernel
theorem dX11_apart_69 : decode cX11_apart 69 = .ok (.iload 4, 2) := by decide +kernel
theorem dX11_apart_71 : decode cX11_apart 71 = .ok (.iaload, 1) := by decide +kernel
theorem dX11_apart_72 : decode cX11_apart 72 = .ok (.istore 5, 2) := by decide +kernel
theorem dX11_apart_74 : decode cX11_apart 74 = .ok (.aload_n 0, 1) := by decide +kernel
theorem dX11_apart_75 : decode cX11_apart 75 = .ok (.getfield 22, 3) := by decide +kernel
theorem dX11_apart_78 : decode cX11_apart 78 = .ok (.iload 5, 2) := by decide +kernel
theorem dX11_apart_80 : decode cX11_apart 80 = .ok (.aload_n 0, 1) := by decide +kernel
theorem dX11_apart_81 : decode cX11_apart 81 = .ok (.getfield 22, 3) := by decide +kernel
theorem dX11_apart_84 : decode cX11_apart 84 = .ok (.iload 4, 2) := by decide +kernel
theorem dX11_apart_86 : decode cX11_apart 86 = .ok (.iconst 4, 1) := by decide +kernel
theorem dX11_apart_87 : decode cX11_apart 87 = .ok (.idiv, 1) := by decide +kernel
theorem dX11_apart_88 : decode cX11_apart 88 = .ok (.iaload, 1) := by decide +kernel
theorem dX11_apart_89 : decode cX11_apart 89 = .ok (.iload_n 3, 1) := by decide +kernel
theorem dX11_apart_90 : decode cX11_apart 90 = .ok (.if_icmp .ne 21, 3) := by decide +kernel
theorem dX11_apart_93 : decode cX11_apart 93 = .ok (.aload_n 0, 1) := by decide +kernel
theorem dX11_apart_94 : decode cX11_apart 94 = .ok (.getfield 22, 3) := by decide +kernel
theorem dX11_apart_97 : decode cX11_apart 97 = .ok (.iload 5, 2) := by decide +kernel
theorem dX11_apart_99 : decode cX11_apart 99 = .ok (.iaload, 1) := by decide +kernel
theorem dX11_apart_100 : decode cX11_apart 100 = .ok (.ldc 99, 2) := by decide +kernel
theorem dX11_apart_102 : decode cX11_apart 102 = .ok (.if_icmp .ne 9, 3) := by decide +kernel
theorem dX11_apart_105 : decode cX11_apart 105 = .ok (.iload_n 3, 1) := by decide +kernel
theorem dX11_apart_106 : decode cX11_apart 106 = .ok (.iconst 1, 1) := by decide +kernel
theorem dX11_apart_107 : decode cX11_apart 107 = .ok (.iadd, 1) := by decide +kernel
theorem dX11_apart_108 : decode cX11_apart 108 = .ok (.goto 10, 3) := by decide +kernel
theorem dX11_apart_111 : decode cX11_apart 111 = .ok (.aload_n 0, 1) := by decide +kernel
theorem dX11_apart_112 : decode cX11_apart 112 = .ok (.getfield 22, 3) := by decide +kernel
theorem dX11_apart_115 : decode cX11_apart 115 = .ok (.iload 5, 2) := by decide +kernel
theorem dX11_apart_117 : decode cX11_apart 117 = .ok (.iaload, 1) := by decide +kernel
theorem dX11_apart_118 : decode cX11_apart 118 = .ok (.iastore, 1) := by decide +kernel
theorem dX11_apart_119 : decode cX11_apart 119 = .ok (.iinc 4 1, 3) := by decide +kernel
theorem dX11_apart_122 : decode cX11_apart 122 = .ok (.goto (-64), 3) := by decide +kernel
theorem dX11_apart_125 : decode cX11_apart 125 = .ok (.iinc 3 1, 3) := by decide +kernel
theorem dX11_apart_128 : decode cX11_apart 128 = .ok (.goto (-79), 3) := by decide +kernel
theorem dX11_apart_131 : decode cX11_apart 131 = .ok (.aload_n 0, 1) := by decide +kernel
theorem dX11_apart_132 : decode cX11_apart 132 = .ok (.getfield 22, 3) := by decide +kernel
theorem dX11_apart_135 : decode cX11_apart 135 = .ok (.iload_n 2, 1) := by decide +kernel
theorem dX11_apart_136 : decode cX11_apart 136 = .ok (.iaload, 1) := by decide +kernel
theorem dX11_apart_137 : decode cX11_apart 137 = .ok (.ireturn, 1) := by decide +kernel
theorem dX11_cells_0 : decode cX11_cells 0 = .ok (.aload_n 0, 1) := by decide +kernel
theorem dX11_cells_1 : decode cX11_cells 1 = .ok (.getfield 25, 3) := by decide +kernel
theorem dX11_cells_4 : decode cX11_cells 4 = .ok (.aload_n 0, 1) := by decide +kernel
theorem dX11_cells_5 : decode cX11_cells 5 = .ok (.getfield 29, 3) := by decide +kernel
theorem dX11_cells_8 : decode cX11_cells 8 = .ok (.imul, 1) := by decide +kernel
theorem dX11_cells_9 : decode cX11_cells 9 = .ok (.ireturn, 1) := by decide +kernel
theorem dX11_isCell_0 : decode cX11_isCell 0 = .ok (.iload_n 1, 1) := by decide +kernel
theorem dX11_isCell_1 : decode cX11_isCell 1 = .ok (.i2l, 1) := by decide +kernel
theorem dX11_isCell_2 : decode cX11_isCell 2 = .ok (.lconst 0, 1) := by decide +kernel
theorem dX11_isCell_3 : decode cX11_isCell 3 = .ok (.aload_n 0, 1) := by decide +kernel
theorem dX11_isCell_4 : decode cX11_isCell 4 = .ok (.invokevirtual 100, 3) := by decide +kernel
theorem dX11_isCell_7 : decode cX11_isCell 7 = .ok (.iconst 1, 1) := by decide +kernel
theorem dX11_isCell_8 : decode cX11_isCell 8 = .ok (.isub, 1) := by decide +kernel
theorem dX11_isCell_9 : decode cX11_isCell 9 = .ok (.i2l, 1) := by decide +kernel
theorem dX11_isCell_10 : decode cX11_isCell 10 = .ok (.invokestatic 84, 3) := by decide +kernel
theorem dX11_isCell_13 : decode cX11_isCell 13 = .ok (.ireturn, 1) := by decide +kernel
theorem dX11_board_0 : decode cX11_board 0 = .ok (.iload_n 1, 1) := by decide +kernel
theorem dX11_board_1 : decode cX11_board 1 = .ok (.i2l, 1) := by decide +kernel
theorem dX11_board_2 : decode cX11_board 2 = .ok (.ldc2_w 104, 3) := by decide +kernel
theorem dX11_board_5 : decode cX11_board 5 = .ok (.ldc2_w 106, 3) := by decide +kernel
theorem dX11_board_8 : decode cX11_board 8 = .ok (.invokestatic 84, 3) := by decide +kernel
theorem dX11_board_11 : decode cX11_board 11 = .ok (.ifCond .eq 17, 3) := by decide +kernel
theorem dX11_board_14 : decode cX11_board 14 = .ok (.iload_n 2, 1) := by decide +kernel
theorem dX11_board_15 : decode cX11_board 15 = .ok (.i2l, 1) := by decide +kernel
theorem dX11_board_16 : decode cX11_board 16 = .ok (.ldc2_w 104, 3) := by decide +kernel
theorem dX11_board_19 : decode cX11_board 19 = .ok (.ldc2_w 106, 3) := by decide +kernel
theorem dX11_board_22 : decode cX11_board 22 = .ok (.invokestatic 84, 3) := by decide +kernel
theorem dX11_board_25 : decode cX11_board 25 = .ok (.ifCond .ne 6, 3) := by decide +kernel
theorem dX11_board_28 : decode cX11_board 28 = .ok (.bipush (-2), 2) := by decide +kernel
theorem dX11_board_30 : decode cX11_board 30 = .ok (.ireturn, 1) := by decide +kernel
theorem dX11_board_31 : decode cX11_board 31 = .ok (.aload_n 0, 1) := by decide +kernel
theorem dX11_board_32 : decode cX11_board 32 = .ok (.iload_n 1, 1) := by decide +kernel
theorem dX11_board_33 : decode cX11_board 33 = .ok (.putfield 25, 3) := by decide +kernel
theorem dX11_board_36 : decode cX11_board 36 = .ok (.aload_n 0, 1) := by decide +kernel
theorem dX11_board_37 : decode cX11_board 37 = .ok (.iload_n 2, 1) := by decide +kernel
theorem dX11_board_38 : decode cX11_board 38 = .ok (.putfield 29, 3) := by decide +kernel
theorem dX11_board_41 : decode cX11_board 41 = .ok (.aload_n 0, 1) := by decide +kernel
theorem dX11_board_42 : decode cX11_board 42 = .ok (.iconst 0, 1) := by decide +kernel
theorem dX11_board_43 : decode cX11_board 43 = .ok (.putfield 108, 3) := by decide +kernel
theorem dX11_board_46 : decode cX11_board 46 = .ok (.iconst 0, 1) := by decide +kernel
theorem dX11_board_47 : decode cX11_board 47 = .ok (.istore_n 3, 1) := by decide +kernel
theorem dX11_board_48 : decode cX11_board 48 = .ok (.iload_n 3, 1) := by decide +kernel
theorem dX11_board_49 : decode cX11_board 49 = .ok (.bipush 25, 2) := by decide +kernel
theorem dX11_board_51 : decode cX11_board 51 = .ok (.if_icmp .ge 23, 3) := by decide +kernel
theorem dX11_board_54 : decode cX11_board 54 = .ok (.aload_n 0, 1) := by decide +kernel
theorem dX11_board_55 : decode cX11_board 55 = .ok (.getfield 32, 3) := by decide +kernel
theorem dX11_board_58 : decode cX11_board 58 = .ok (.iload_n 3, 1) := by decide +kernel
theorem dX11_board_59 : decode cX11_board 59 = .ok (.iconst 0, 1) := by decide +kernel
theorem dX11_board_60 : decode cX11_board 60 = .ok (.iastore, 1) := by decide +kernel
theorem dX11_board_61 : decode cX11_board 61 = .ok (.aload_n 0, 1) := by decide +kernel
theorem dX11_board_62 : decode cX11_board 62 = .ok (.getfield 35, 3) := by decide +kernel
theorem dX11_board_65 : decode cX11_board 65 = .ok (.iload_n 3, 1) := by decide +kernel
theorem dX11_board_66 : decode cX11_board 66 = .ok (.iconst 0, 1) := by decide +kernel
theorem dX11_board_67 : decode cX11_board 67 = .ok (.iastore, 1) := by decide +kernel
theorem dX11_board_68 : decode cX11_board 68 = .ok (.iinc 3 1, 3) := by decide +kernel
theorem dX11_board_71 : decode cX11_board 71 = .ok (.goto (-23), 3) := by decide +kernel
theorem dX11_board_74 : decode cX11_board 74 = .ok (.iload_n 1, 1) := by decide +kernel
theorem dX11_board_75 : decode cX11_board 75 = .ok (.iload_n 2, 1) := by decide +kernel
theorem dX11_board_76 : decode cX11_board 76 = .ok (.imul, 1) := by decide +kernel
theorem dX11_board_77 : decode cX11_board 77 = .ok (.ireturn, 1) := by decide +kernel
theorem dX11_cell_0 : decode cX11_cell 0 = .ok (.aload_n 0, 1) := by decide +kernel
theorem dX11_cell_1 : decode cX11_cell 1 = .ok (.iload_n 1, 1) := by decide +kernel
theorem dX11_cell_2 : decode cX11_cell 2 = .ok (.invokevirtual 111, 3) := by decide +kernel
theorem dX11_cell_5 : decode cX11_cell 5 = .ok (.ifCond .ne 5, 3) := by decide +kernel
theorem dX11_cell_8 : decode cX11_cell 8 = .ok (.iconst (-1), 1) := by decide +kernel
theorem dX11_cell_9 : decode cX11_cell 9 = .ok (.ireturn, 1) := by decide +kernel
theorem dX11_cell_10 : decode cX11_cell 10 = .ok (.iload_n 2, 1) := by decide +kernel
theorem dX11_cell_11 : decode cX11_cell 11 = .ok (.ifCond .ne 15, 3) := by decide +kernel
theorem dX11_cell_14 : decode cX11_cell 14 = .ok (.iload_n 3, 1) := by decide +kernel
theorem dX11_cell_15 : decode cX11_cell 15 = .ok (.i2l, 1) := by decide +kernel
theorem dX11_cell_16 : decode cX11_cell 16 = .ok (.lconst 0, 1) := by decide +kernel
theorem dX11_cell_17 : decode cX11_cell 17 = .ok (.ldc2_w 114, 3) := by decide +kernel
theorem dX11_cell_20 : decode cX11_cell 20 = .ok (.invokestatic 84, 3) := by decide +kernel
theorem dX11_cell_23 : decode cX11_cell 23 = .ok (.ifCond .ne 23, 3) := by decide +kernel
theorem dX11_cell_26 : decode cX11_cell 26 = .ok (.iload_n 2, 1) := by decide +kernel
theorem dX11_cell_27 : decode cX11_cell 27 = .ok (.iconst 1, 1) := by decide +kernel
theorem dX11_cell_28 : decode cX11_cell 28 = .ok (.if_icmp .ne 15, 3) := by decide +kernel
theorem dX11_cell_31 : decode cX11_cell 31 = .ok (.iload_n 3, 1) := by decide +kernel
theorem dX11_cell_32 : decode cX11_cell 32 = .ok (.i2l, 1) := by decide +kernel
theorem dX11_cell_33 : decode cX11_cell 33 = .ok (.lconst 0, 1) := by decide +kernel
theorem dX11_cell_34 : decode cX11_cell 34 = .ok (.ldc2_w 97, 3) := by decide +kernel
theorem dX11_cell_37 : decode cX11_cell 37 = .ok (.invokestatic 84, 3) := by decide +kernel
theorem dX11_cell_40 : decode cX11_cell 40 = .ok (.ifCond .ne 6, 3) := by decide +kernel
theorem dX11_cell_43 : decode cX11_cell 43 = .ok (.bipush (-2), 2) := by decide +kernel
theorem dX11_cell_45 : decode cX11_cell 45 = .ok (.ireturn, 1) := by decide +kernel
theorem dX11_cell_46 : decode cX11_cell 46 = .ok (.iload_n 2, 1) := by decide +kernel
theorem dX11_cell_47 : decode cX11_cell 47 = .ok (.ifCond .ne 12, 3) := by decide +kernel
theorem dX11_cell_50 : decode cX11_cell 50 = .ok (.aload_n 0, 1) := by decide +kernel
theorem dX11_cell_51 : decode cX11_cell 51 = .ok (.getfield 32, 3) := by decide +kernel
theorem dX11_cell_54 : decode cX11_cell 54 = .ok (.iload_n 1, 1) := by decide +kernel
theorem dX11_cell_55 : decode cX11_cell 55 = .ok (.iaload, 1) := by decide +kernel
theorem dX11_cell_56 : decode cX11_cell 56 = .ok (.goto 9, 3) := by decide +kernel
theorem dX11_cell_59 : decode cX11_cell 59 = .ok (.aload_n 0, 1) := by decide +kernel
theorem dX11_cell_60 : decode cX11_cell 60 = .ok (.getfield 35, 3) := by decide +kernel
theorem dX11_cell_63 : decode cX11_cell 63 = .ok (.iload_n 1, 1) := by decide +kernel
theorem dX11_cell_64 : decode cX11_cell 64 = .ok (.iaload, 1) := by decide +kernel
theorem dX11_cell_65 : decode cX11_cell 65 = .ok (.istore 4, 2) := by decide +kernel
theorem dX11_cell_67 : decode cX11_cell 67 = .ok (.aload_n 0, 1) := by decide +kernel
theorem dX11_cell_68 : decode cX11_cell 68 = .ok (.getfield 32, 3) := by decide +kernel
theorem dX11_cell_71 : decode cX11_cell 71 = .ok (.iload_n 1, 1) := by decide +kernel
theorem dX11_cell_72 : decode cX11_cell 72 = .ok (.iload_n 2, 1) := by decide +kernel
theorem dX11_cell_73 : decode cX11_cell 73 = .ok (.ifCond .ne 7, 3) := by decide +kernel
theorem dX11_cell_76 : decode cX11_cell 76 = .ok (.iload_n 3, 1) := by decide +kernel
theorem dX11_cell_77 : decode cX11_cell 77 = .ok (.goto 9, 3) := by decide +kernel
theorem dX11_cell_80 : decode cX11_cell 80 = .ok (.aload_n 0, 1) := by decide +kernel
theorem dX11_cell_81 : decode cX11_cell 81 = .ok (.getfield 32, 3) := by decide +kernel
theorem dX11_cell_84 : decode cX11_cell 84 = .ok (.iload_n 1, 1) := by decide +kernel
theorem dX11_cell_85 : decode cX11_cell 85 = .ok (.iaload, 1) := by decide +kernel
theorem dX11_cell_86 : decode cX11_cell 86 = .ok (.iastore, 1) := by decide +kernel
theorem dX11_cell_87 : decode cX11_cell 87 = .ok (.aload_n 0, 1) := by decide +kernel
theorem dX11_cell_88 : decode cX11_cell 88 = .ok (.getfield 35, 3) := by decide +kernel
theorem dX11_cell_91 : decode cX11_cell 91 = .ok (.iload_n 1, 1) := by decide +kernel
theorem dX11_cell_92 : decode cX11_cell 92 = .ok (.iload_n 2, 1) := by decide +kernel
theorem dX11_cell_93 : decode cX11_cell 93 = .ok (.iconst 1, 1) := by decide +kernel
theorem dX11_cell_94 : decode cX11_cell 94 = .ok (.if_icmp .ne 7, 3) := by decide +kernel
theorem dX11_cell_97 : decode cX11_cell 97 = .ok (.iload_n 3, 1) := by decide +kernel
theorem dX11_cell_98 : decode cX11_cell 98 = .ok (.goto 9, 3) := by decide +kernel
theorem dX11_cell_101 : decode cX11_cell 101 = .ok (.aload_n 0, 1) := by decide +kernel
theorem dX11_cell_102 : decode cX11_cell 102 = .ok (.getfield 35, 3) := by decide +kernel
theorem dX11_cell_105 : decode cX11_cell 105 = .ok (.iload_n 1, 1) := by decide +kernel
theorem dX11_cell_106 : decode cX11_cell 106 = .ok (.iaload, 1) := by decide +kernel
theorem dX11_cell_107 : decode cX11_cell 107 = .ok (.iastore, 1) := by decide +kernel
theorem dX11_cell_108 : decode cX11_cell 108 = .ok (.iload 4, 2) := by decide +kernel
theorem dX11_cell_110 : decode cX11_cell 110 = .ok (.ireturn, 1) := by decide +kernel
theorem dX11_group_0 : decode cX11_group 0 = .ok (.iload_n 1, 1) := by decide +kernel
theorem dX11_group_1 : decode cX11_group 1 = .ok (.i2l, 1) := by decide +kernel
theorem dX11_group_2 : decode cX11_group 2 = .ok (.lconst 0, 1) := by decide +kernel
theorem dX11_group_3 : decode cX11_group 3 = .ok (.ldc2_w 104, 3) := by decide +kernel
theorem dX11_group_6 : decode cX11_group 6 = .ok (.invokestatic 84, 3) := by decide +kernel
theorem dX11_group_9 : decode cX11_group 9 = .ok (.ifCond .ne 5, 3) := by decide +kernel
theorem dX11_group_12 : decode cX11_group 12 = .ok (.iconst (-1), 1) := by decide +kernel
theorem dX11_group_13 : decode cX11_group 13 = .ok (.ireturn, 1) := by decide +kernel
theorem dX11_group_14 : decode cX11_group 14 = .ok (.aload_n 0, 1) := by decide +kernel
theorem dX11_group_15 : decode cX11_group 15 = .ok (.getfield 108, 3) := by decide +kernel
theorem dX11_group_18 : decode cX11_group 18 = .ok (.iload_n 1, 1) := by decide +kernel
theorem dX11_group_19 : decode cX11_group 19 = .ok (.ishr, 1) := by decide +kernel
theorem dX11_group_20 : decode cX11_group 20 = .ok (.iconst 1, 1) := by decide +kernel
theorem dX11_group_21 : decode cX11_group 21 = .ok (.iand, 1) := by decide +kernel
theorem dX11_group_22 : decode cX11_group 22 = .ok (.istore_n 3, 1) := by decide +kernel
theorem dX11_group_23 : decode cX11_group 23 = .ok (.aload_n 0, 1) := by decide +kernel
theorem dX11_group_24 : decode cX11_group 24 = .ok (.iload_n 2, 1) := by decide +kernel
theorem dX11_group_25 : decode cX11_group 25 = .ok (.ifCond .eq 14, 3) := by decide +kernel
theorem dX11_group_28 : decode cX11_group 28 = .ok (.aload_n 0, 1) := by decide +kernel
theorem dX11_group_29 : decode cX11_group 29 = .ok (.getfield 108, 3) := by decide +kernel
theorem dX11_group_32 : decode cX11_group 32 = .ok (.iconst 1, 1) := by decide +kernel
theorem dX11_group_33 : decode cX11_group 33 = .ok (.iload_n 1, 1) := by decide +kernel
theorem dX11_group_34 : decode cX11_group 34 = .ok (.ishl, 1) := by decide +kernel
theorem dX11_group_35 : decode cX11_group 35 = .ok (.ior, 1) := by decide +kernel
theorem dX11_group_36 : decode cX11_group 36 = .ok (.goto 13, 3) := by decide +kernel
theorem dX11_group_39 : decode cX11_group 39 = .ok (.aload_n 0, 1) := by decide +kernel
theorem dX11_group_40 : decode cX11_group 40 = .ok (.getfield 108, 3) := by decide +kernel
theorem dX11_group_43 : decode cX11_group 43 = .ok (.iconst 1, 1) := by decide +kernel
theorem dX11_group_44 : decode cX11_group 44 = .ok (.iload_n 1, 1) := by decide +kernel
theorem dX11_group_45 : decode cX11_group 45 = .ok (.ishl, 1) := by decide +kernel
theorem dX11_group_46 : decode cX11_group 46 = .ok (.iconst (-1), 1) := by decide +kernel
theorem dX11_group_47 : decode cX11_group 47 = .ok (.ixor, 1) := by decide +kernel
theorem dX11_group_48 : decode cX11_group 48 = .ok (.iand, 1) := by decide +kernel
theorem dX11_group_49 : decode cX11_group 49 = .ok (.putfield 108, 3) := by decide +kernel
theorem dX11_group_52 : decode cX11_group 52 = .ok (.iload_n 3, 1) := by decide +kernel
theorem dX11_group_53 : decode cX11_group 53 = .ok (.ireturn, 1) := by decide +kernel
theorem dX11_isOpen_0 : decode cX11_isOpen 0 = .ok (.aload_n 0, 1) := by decide +kernel
theorem dX11_isOpen_1 : decode cX11_isOpen 1 = .ok (.getfield 32, 3) := by decide +kernel
theorem dX11_isOpen_4 : decode cX11_isOpen 4 = .ok (.iload_n 1, 1) := by decide +kernel
theorem dX11_isOpen_5 : decode cX11_isOpen 5 = .ok (.iaload, 1) := by decide +kernel
theorem dX11_isOpen_6 : decode cX11_isOpen 6 = .ok (.iconst 1, 1) := by decide +kernel
theorem dX11_isOpen_7 : decode cX11_isOpen 7 = .ok (.if_icmp .eq 35, 3) := by decide +kernel
theorem dX11_isOpen_10 : decode cX11_isOpen 10 = .ok (.aload_n 0, 1) := by decide +kernel
theorem dX11_isOpen_11 : decode cX11_isOpen 11 = .ok (.getfield 32, 3) := by decide +kernel
theorem dX11_isOpen_14 : decode cX11_isOpen 14 = .ok (.iload_n 1, 1) := by decide +kernel
theorem dX11_isOpen_15 : decode cX11_isOpen 15 = .ok (.iaload, 1) := by decide +kernel
theorem dX11_isOpen_16 : decode cX11_isOpen 16 = .ok (.bipush 6, 2) := by decide +kernel
theorem dX11_isOpen_18 : decode cX11_isOpen 18 = .ok (.if_icmp .lt 20, 3) := by decide +kernel
theorem dX11_isOpen_21 : decode cX11_isOpen 21 = .ok (.iload_n 2, 1) := by decide +kernel
theorem dX11_isOpen_22 : decode cX11_isOpen 22 = .ok (.aload_n 0, 1) := by decide +kernel
theorem dX11_isOpen_23 : decode cX11_isOpen 23 = .ok (.getfield 32, 3) := by decide +kernel
theorem dX11_isOpen_26 : decode cX11_isOpen 26 = .ok (.iload_n 1, 1) := by decide +kernel
theorem dX11_isOpen_27 : decode cX11_isOpen 27 = .ok (.iaload, 1) := by decide +kernel
theorem dX11_isOpen_28 : decode cX11_isOpen 28 = .ok (.bipush 6, 2) := by decide +kernel
theorem dX11_isOpen_30 : decode cX11_isOpen 30 = .ok (.isub, 1) := by decide +kernel
theorem dX11_isOpen_31 : decode cX11_isOpen 31 = .ok (.ishr, 1) := by decide +kernel
theorem dX11_isOpen_32 : decode cX11_isOpen 32 = .ok (.iconst 1, 1) := by decide +kernel
theorem dX11_isOpen_33 : decode cX11_isOpen 33 = .ok (.iand, 1) := by decide +kernel
theorem dX11_isOpen_34 : decode cX11_isOpen 34 = .ok (.iconst 1, 1) := by decide +kernel
theorem dX11_isOpen_35 : decode cX11_isOpen 35 = .ok (.if_icmp .ne 7, 3) := by decide +kernel
theorem dX11_isOpen_38 : decode cX11_isOpen 38 = .ok (.iconst 1, 1) := by decide +kernel
theorem dX11_isOpen_39 : decode cX11_isOpen 39 = .ok (.goto 4, 3) := by decide +kernel
theorem dX11_isOpen_42 : decode cX11_isOpen 42 = .ok (.iconst 0, 1) := by decide +kernel
theorem dX11_isOpen_43 : decode cX11_isOpen 43 = .ok (.ireturn, 1) := by decide +kernel
theorem dX11_open_0 : decode cX11_open 0 = .ok (.aload_n 0, 1) := by decide +kernel
theorem dX11_open_1 : decode cX11_open 1 = .ok (.iload_n 1, 1) := by decide +kernel
theorem dX11_open_2 : decode cX11_open 2 = .ok (.invokevirtual 111, 3) := by decide +kernel
theorem dX11_open_5 : decode cX11_open 5 = .ok (.ifCond .ne 7, 3) := by decide +kernel
theorem dX11_open_8 : decode cX11_open 8 = .ok (.iconst (-1), 1) := by decide +kernel
theorem dX11_open_9 : decode cX11_open 9 = .ok (.goto 20, 3) := by decide +kernel
theorem dX11_open_12 : decode cX11_open 12 = .ok (.aload_n 0, 1) := by decide +kernel
theorem dX11_open_13 : decode cX11_open 13 = .ok (.iload_n 1, 1) := by decide +kernel
theorem dX11_open_14 : decode cX11_open 14 = .ok (.aload_n 0, 1) := by decide +kernel
theorem dX11_open_15 : decode cX11_open 15 = .ok (.getfield 108, 3) := by decide +kernel
theorem dX11_open_18 : decode cX11_open 18 = .ok (.invokevirtual 116, 3) := by decide +kernel
theorem dX11_open_21 : decode cX11_open 21 = .ok (.ifCond .eq 7, 3) := by decide +kernel
theorem dX11_open_24 : decode cX11_open 24 = .ok (.iconst 1, 1) := by decide +kernel
theorem dX11_open_25 : decode cX11_open 25 = .ok (.goto 4, 3) := by decide +kernel
theorem dX11_open_28 : decode cX11_open 28 = .ok (.iconst 0, 1) := by decide +kernel
theorem dX11_open_29 : decode cX11_open 29 = .ok (.ireturn, 1) := by decide +kernel
theorem dX11_beside_0 : decode cX11_beside 0 = .ok (.iload_n 1, 1) := by decide +kernel
theorem dX11_beside_1 : decode cX11_beside 1 = .ok (.aload_n 0, 1) := by decide +kernel
theorem dX11_beside_2 : decode cX11_beside 2 = .ok (.getfield 25, 3) := by decide +kernel
theorem dX11_beside_5 : decode cX11_beside 5 = .ok (.irem, 1) := by decide +kernel
theorem dX11_beside_6 : decode cX11_beside 6 = .ok (.iload_n 2, 1) := by decide +kernel
theorem dX11_beside_7 : decode cX11_beside 7 = .ok (.ifCond .ne 7, 3) := by decide +kernel
theorem dX11_beside_10 : decode cX11_beside 10 = .ok (.iconst 1, 1) := by decide +kernel
theorem dX11_beside_11 : decode cX11_beside 11 = .ok (.goto 13, 3) := by decide +kernel
theorem dX11_beside_14 : decode cX11_beside 14 = .ok (.iload_n 2, 1) := by decide +kernel
theorem dX11_beside_15 : decode cX11_beside 15 = .ok (.iconst 2, 1) := by decide +kernel
theorem dX11_beside_16 : decode cX11_beside 16 = .ok (.if_icmp .ne 7, 3) := by decide +kernel
theorem dX11_beside_19 : decode cX11_beside 19 = .ok (.iconst (-1), 1) := by decide +kernel
theorem dX11_beside_20 : decode cX11_beside 20 = .ok (.goto 4, 3) := by decide +kernel
theorem dX11_beside_23 : decode cX11_beside 23 = .ok (.iconst 0, 1) := by decide +kernel
theorem dX11_beside_24 : decode cX11_beside 24 = .ok (.iadd, 1) := by decide +kernel
theorem dX11_beside_25 : decode cX11_beside 25 = .ok (.istore_n 3, 1) := by decide +kernel
theorem dX11_beside_26 : decode cX11_beside 26 = .ok (.iload_n 1, 1) := by decide +kernel
theorem dX11_beside_27 : decode cX11_beside 27 = .ok (.aload_n 0, 1) := by decide +kernel
theorem dX11_beside_28 : decode cX11_beside 28 = .ok (.getfield 25, 3) := by decide +kernel
theorem dX11_beside_31 : decode cX11_beside 31 = .ok (.idiv, 1) := by decide +kernel
theorem dX11_beside_32 : decode cX11_beside 32 = .ok (.iload_n 2, 1) := by decide +kernel
theorem dX11_beside_33 : decode cX11_beside 33 = .ok (.iconst 1, 1) := by decide +kernel
theorem dX11_beside_34 : decode cX11_beside 34 = .ok (.if_icmp .ne 7, 3) := by decide +kernel
theorem dX11_beside_37 : decode cX11_beside 37 = .ok (.iconst 1, 1) := by decide +kernel
theorem dX11_beside_38 : decode cX11_beside 38 = .ok (.goto 13, 3) := by decide +kernel
theorem dX11_beside_41 : decode cX11_beside 41 = .ok (.iload_n 2, 1) := by decide +kernel
theorem dX11_beside_42 : decode cX11_beside 42 = .ok (.iconst 3, 1) := by decide +kernel
theorem dX11_beside_43 : decode cX11_beside 43 = .ok (.if_icmp .ne 7, 3) := by decide +kernel
theorem dX11_beside_46 : decode cX11_beside 46 = .ok (.iconst (-1), 1) := by decide +kernel
theorem dX11_beside_47 : decode cX11_beside 47 = .ok (.goto 4, 3) := by decide +kernel
theorem dX11_beside_50 : decode cX11_beside 50 = .ok (.iconst 0, 1) := by decide +kernel
theorem dX11_beside_51 : decode cX11_beside 51 = .ok (.iadd, 1) := by decide +kernel
theorem dX11_beside_52 : decode cX11_beside 52 = .ok (.istore 4, 2) := by decide +kernel
theorem dX11_beside_54 : decode cX11_beside 54 = .ok (.iload_n 3, 1) := by decide +kernel
theorem dX11_beside_55 : decode cX11_beside 55 = .ok (.i2l, 1) := by decide +kernel
theorem dX11_beside_56 : decode cX11_beside 56 = .ok (.lconst 0, 1) := by decide +kernel
theorem dX11_beside_57 : decode cX11_beside 57 = .ok (.aload_n 0, 1) := by decide +kernel
theorem dX11_beside_58 : decode cX11_beside 58 = .ok (.getfield 25, 3) := by decide +kernel
theorem dX11_beside_61 : decode cX11_beside 61 = .ok (.iconst 1, 1) := by decide +kernel
theorem dX11_beside_62 : decode cX11_beside 62 = .ok (.isub, 1) := by decide +kernel
theorem dX11_beside_63 : decode cX11_beside 63 = .ok (.i2l, 1) := by decide +kernel
theorem dX11_beside_64 : decode cX11_beside 64 = .ok (.invokestatic 84, 3) := by decide +kernel
theorem dX11_beside_67 : decode cX11_beside 67 = .ok (.ifCond .eq 32, 3) := by decide +kernel
theorem dX11_beside_70 : decode cX11_beside 70 = .ok (.iload 4, 2) := by decide +kernel
theorem dX11_beside_72 : decode cX11_beside 72 = .ok (.i2l, 1) := by decide +kernel
theorem dX11_beside_73 : decode cX11_beside 73 = .ok (.lconst 0, 1) := by decide +kernel
theorem dX11_beside_74 : decode cX11_beside 74 = .ok (.aload_n 0, 1) := by decide +kernel
theorem dX11_beside_75 : decode cX11_beside 75 = .ok (.getfield 29, 3) := by decide +kernel
theorem dX11_beside_78 : decode cX11_beside 78 = .ok (.iconst 1, 1) := by decide +kernel
theorem dX11_beside_79 : decode cX11_beside 79 = .ok (.isub, 1) := by decide +kernel
theorem dX11_beside_80 : decode cX11_beside 80 = .ok (.i2l, 1) := by decide +kernel
theorem dX11_beside_81 : decode cX11_beside 81 = .ok (.invokestatic 84, 3) := by decide +kernel
theorem dX11_beside_84 : decode cX11_beside 84 = .ok (.ifCond .eq 15, 3) := by decide +kernel
theorem dX11_beside_87 : decode cX11_beside 87 = .ok (.iload 4, 2) := by decide +kernel
theorem dX11_beside_89 : decode cX11_beside 89 = .ok (.aload_n 0, 1) := by decide +kernel
theorem dX11_beside_90 : decode cX11_beside 90 = .ok (.getfield 25, 3) := by decide +kernel
theorem dX11_beside_93 : decode cX11_beside 93 = .ok (.imul, 1) := by decide +kernel
theorem dX11_beside_94 : decode cX11_beside 94 = .ok (.iload_n 3, 1) := by decide +kernel
theorem dX11_beside_95 : decode cX11_beside 95 = .ok (.iadd, 1) := by decide +kernel
theorem dX11_beside_96 : decode cX11_beside 96 = .ok (.goto 5, 3) := by decide +kernel
theorem dX11_beside_99 : decode cX11_beside 99 = .ok (.bipush (-9), 2) := by decide +kernel
theorem dX11_beside_101 : decode cX11_beside 101 = .ok (.ireturn, 1) := by decide +kernel
theorem dX11_rollOf_0 : decode cX11_rollOf 0 = .ok (.aload_n 0, 1) := by decide +kernel
theorem dX11_rollOf_1 : decode cX11_rollOf 1 = .ok (.iload_n 1, 1) := by decide +kernel
theorem dX11_rollOf_2 : decode cX11_rollOf 2 = .ok (.bipush 24, 2) := by decide +kernel
theorem dX11_rollOf_4 : decode cX11_rollOf 4 = .ok (.idiv, 1) := by decide +kernel
theorem dX11_rollOf_5 : decode cX11_rollOf 5 = .ok (.iload_n 2, 1) := by decide +kernel
theorem dX11_rollOf_6 : decode cX11_rollOf 6 = .ok (.invokevirtual 120, 3) := by decide +kernel
theorem dX11_rollOf_9 : decode cX11_rollOf 9 = .ok (.istore_n 3, 1) := by decide +kernel
theorem dX11_rollOf_10 : decode cX11_rollOf 10 = .ok (.iload_n 3, 1) := by decide +kernel
theorem dX11_rollOf_11 : decode cX11_rollOf 11 = .ok (.bipush (-9), 2) := by decide +kernel
theorem dX11_rollOf_13 : decode cX11_rollOf 13 = .ok (.if_icmp .eq 15, 3) := by decide +kernel
theorem dX11_rollOf_16 : decode cX11_rollOf 16 = .ok (.aload_n 0, 1) := by decide +kernel
theorem dX11_rollOf_17 : decode cX11_rollOf 17 = .ok (.iload_n 3, 1) := by decide +kernel
theorem dX11_rollOf_18 : decode cX11_rollOf 18 = .ok (.aload_n 0, 1) := by decide +kernel
theorem dX11_rollOf_19 : decode cX11_rollOf 19 = .ok (.getfield 108, 3) := by decide +kernel
theorem dX11_rollOf_22 : decode cX11_rollOf 22 = .ok (.invokevirtual 116, 3) := by decide +kernel
theorem dX11_rollOf_25 : decode cX11_rollOf 25 = .ok (.ifCond .ne 6, 3) := by decide +kernel
theorem dX11_rollOf_28 : decode cX11_rollOf 28 = .ok (.bipush (-9), 2) := by decide +kernel
theorem dX11_rollOf_30 : decode cX11_rollOf 30 = .ok (.ireturn, 1) := by decide +kernel
theorem dX11_rollOf_31 : decode cX11_rollOf 31 = .ok (.aload_n 0, 1) := by decide +kernel
theorem dX11_rollOf_32 : decode cX11_rollOf 32 = .ok (.getfield 19, 3) := by decide +kernel
theorem dX11_rollOf_35 : decode cX11_rollOf 35 = .ok (.iconst 4, 1) := by decide +kernel
theorem dX11_rollOf_36 : decode cX11_rollOf 36 = .ok (.iload_n 1, 1) := by decide +kernel
theorem dX11_rollOf_37 : decode cX11_rollOf 37 = .ok (.bipush 24, 2) := by decide +kernel
theorem dX11_rollOf_39 : decode cX11_rollOf 39 = .ok (.irem, 1) := by decide +kernel
theorem dX11_rollOf_40 : decode cX11_rollOf 40 = .ok (.imul, 1) := by decide +kernel
theorem dX11_rollOf_41 : decode cX11_rollOf 41 = .ok (.iload_n 2, 1) := by decide +kernel
theorem dX11_rollOf_42 : decode cX11_rollOf 42 = .ok (.iadd, 1) := by decide +kernel
theorem dX11_rollOf_43 : decode cX11_rollOf 43 = .ok (.iaload, 1) := by decide +kernel
theorem dX11_rollOf_44 : decode cX11_rollOf 44 = .ok (.istore 4, 2) := by decide +kernel
theorem dX11_rollOf_46 : decode cX11_rollOf 46 = .ok (.aload_n 0, 1) := by decide +kernel
theorem dX11_rollOf_47 : decode cX11_rollOf 47 = .ok (.getfield 35, 3) := by decide +kernel
theorem dX11_rollOf_50 : decode cX11_rollOf 50 = .ok (.iload_n 3, 1) := by decide +kernel
theorem dX11_rollOf_51 : decode cX11_rollOf 51 = .ok (.iaload, 1) := by decide +kernel
theorem dX11_rollOf_52 : decode cX11_rollOf 52 = .ok (.ifCond .eq 19, 3) := by decide +kernel
theorem dX11_rollOf_55 : decode cX11_rollOf 55 = .ok (.aload_n 0, 1) := by decide +kernel
theorem dX11_rollOf_56 : decode cX11_rollOf 56 = .ok (.getfield 35, 3) := by decide +kernel
theorem dX11_rollOf_59 : decode cX11_rollOf 59 = .ok (.iload_n 3, 1) := by decide +kernel
theorem dX11_rollOf_60 : decode cX11_rollOf 60 = .ok (.iaload, 1) := by decide +kernel
theorem dX11_rollOf_61 : decode cX11_rollOf 61 = .ok (.aload_n 0, 1) := by decide +kernel
theorem dX11_rollOf_62 : decode cX11_rollOf 62 = .ok (.getfield 7, 3) := by decide +kernel
theorem dX11_rollOf_65 : decode cX11_rollOf 65 = .ok (.iload 4, 2) := by decide +kernel
theorem dX11_rollOf_67 : decode cX11_rollOf 67 = .ok (.iaload, 1) := by decide +kernel
theorem dX11_rollOf_68 : decode cX11_rollOf 68 = .ok (.if_icmp .ne 13, 3) := by decide +kernel
theorem dX11_rollOf_71 : decode cX11_rollOf 71 = .ok (.bipush 24, 2) := by decide +kernel
theorem dX11_rollOf_73 : decode cX11_rollOf 73 = .ok (.iload_n 3, 1) := by decide +kernel
theorem dX11_rollOf_74 : decode cX11_rollOf 74 = .ok (.imul, 1) := by decide +kernel
theorem dX11_rollOf_75 : decode cX11_rollOf 75 = .ok (.iload 4, 2) := by decide +kernel
theorem dX11_rollOf_77 : decode cX11_rollOf 77 = .ok (.iadd, 1) := by decide +kernel
theorem dX11_rollOf_78 : decode cX11_rollOf 78 = .ok (.goto 5, 3) := by decide +kernel
theorem dX11_rollOf_81 : decode cX11_rollOf 81 = .ok (.bipush (-9), 2) := by decide +kernel
theorem dX11_rollOf_83 : decode cX11_rollOf 83 = .ok (.ireturn, 1) := by decide +kernel
theorem dX11_roll_0 : decode cX11_roll 0 = .ok (.aload_n 0, 1) := by decide +kernel
theorem dX11_roll_1 : decode cX11_roll 1 = .ok (.iload_n 1, 1) := by decide +kernel
theorem dX11_roll_2 : decode cX11_roll 2 = .ok (.invokevirtual 111, 3) := by decide +kernel
theorem dX11_roll_5 : decode cX11_roll 5 = .ok (.ifCond .eq 10, 3) := by decide +kernel
theorem dX11_roll_8 : decode cX11_roll 8 = .ok (.iload_n 2, 1) := by decide +kernel
theorem dX11_roll_9 : decode cX11_roll 9 = .ok (.invokestatic 90, 3) := by decide +kernel
theorem dX11_roll_12 : decode cX11_roll 12 = .ok (.ifCond .ne 5, 3) := by decide +kernel
theorem dX11_roll_15 : decode cX11_roll 15 = .ok (.iconst (-1), 1) := by decide +kernel
theorem dX11_roll_16 : decode cX11_roll 16 = .ok (.ireturn, 1) := by decide +kernel
theorem dX11_roll_17 : decode cX11_roll 17 = .ok (.iload_n 3, 1) := by decide +kernel
theorem dX11_roll_18 : decode cX11_roll 18 = .ok (.invokestatic 94, 3) := by decide +kernel
theorem dX11_roll_21 : decode cX11_roll 21 = .ok (.ifCond .eq 17, 3) := by decide +kernel
theorem dX11_roll_24 : decode cX11_roll 24 = .ok (.aload_n 0, 1) := by decide +kernel
theorem dX11_roll_25 : decode cX11_roll 25 = .ok (.bipush 24, 2) := by decide +kernel
theorem dX11_roll_27 : decode cX11_roll 27 = .ok (.iload_n 1, 1) := by decide +kernel
theorem dX11_roll_28 : decode cX11_roll 28 = .ok (.imul, 1) := by decide +kernel
theorem dX11_roll_29 : decode cX11_roll 29 = .ok (.iload_n 2, 1) := by decide +kernel
theorem dX11_roll_30 : decode cX11_roll 30 = .ok (.iadd, 1) := by decide +kernel
theorem dX11_roll_31 : decode cX11_roll 31 = .ok (.iload_n 3, 1) := by decide +kernel
theorem dX11_roll_32 : decode cX11_roll 32 = .ok (.invokevirtual 123, 3) := by decide +kernel
theorem dX11_roll_35 : decode cX11_roll 35 = .ok (.goto 5, 3) := by decide +kernel
theorem dX11_roll_38 : decode cX11_roll 38 = .ok (.bipush (-2), 2) := by decide +kernel
theorem dX11_roll_40 : decode cX11_roll 40 = .ok (.ireturn, 1) := by decide +kernel
theorem dX11_isWant_0 : decode cX11_isWant 0 = .ok (.iload_n 0, 1) := by decide +kernel
theorem dX11_isWant_1 : decode cX11_isWant 1 = .ok (.i2l, 1) := by decide +kernel
theorem dX11_isWant_2 : decode cX11_isWant 2 = .ok (.lconst 0, 1) := by decide +kernel
theorem dX11_isWant_3 : decode cX11_isWant 3 = .ok (.ldc2_w 97, 3) := by decide +kernel
theorem dX11_isWant_6 : decode cX11_isWant 6 = .ok (.invokestatic 84, 3) := by decide +kernel
theorem dX11_isWant_9 : decode cX11_isWant 9 = .ok (.ifCond .ne 17, 3) := by decide +kernel
theorem dX11_isWant_12 : decode cX11_isWant 12 = .ok (.iload_n 0, 1) := by decide +kernel
theorem dX11_isWant_13 : decode cX11_isWant 13 = .ok (.i2l, 1) := by decide +kernel
theorem dX11_isWant_14 : decode cX11_isWant 14 = .ok (.ldc2_w 126, 3) := by decide +kernel
theorem dX11_isWant_17 : decode cX11_isWant 17 = .ok (.ldc2_w 128, 3) := by decide +kernel
theorem dX11_isWant_20 : decode cX11_isWant 20 = .ok (.invokestatic 84, 3) := by decide +kernel
theorem dX11_isWant_23 : decode cX11_isWant 23 = .ok (.ifCond .eq 7, 3) := by decide +kernel
theorem dX11_isWant_26 : decode cX11_isWant 26 = .ok (.iconst 1, 1) := by decide +kernel
theorem dX11_isWant_27 : decode cX11_isWant 27 = .ok (.goto 4, 3) := by decide +kernel
theorem dX11_isWant_30 : decode cX11_isWant 30 = .ok (.iconst 0, 1) := by decide +kernel
theorem dX11_isWant_31 : decode cX11_isWant 31 = .ok (.ireturn, 1) := by decide +kernel
theorem dX11_isGoal_0 : decode cX11_isGoal 0 = .ok (.iload_n 3, 1) := by decide +kernel
theorem dX11_isGoal_1 : decode cX11_isGoal 1 = .ok (.ifCond .eq 39, 3) := by decide +kernel
theorem dX11_isGoal_4 : decode cX11_isGoal 4 = .ok (.iload_n 3, 1) := by decide +kernel
theorem dX11_isGoal_5 : decode cX11_isGoal 5 = .ok (.bipush 7, 2) := by decide +kernel
theorem dX11_isGoal_7 : decode cX11_isGoal 7 = .ok (.if_icmp .ge 16, 3) := by decide +kernel
theorem dX11_isGoal_10 : decode cX11_isGoal 10 = .ok (.aload_n 0, 1) := by decide +kernel
theorem dX11_isGoal_11 : decode cX11_isGoal 11 = .ok (.getfield 7, 3) := by decide +kernel
theorem dX11_isGoal_14 : decode cX11_isGoal 14 = .ok (.iload_n 1, 1) := by decide +kernel
theorem dX11_isGoal_15 : decode cX11_isGoal 15 = .ok (.bipush 24, 2) := by decide +kernel
theorem dX11_isGoal_17 : decode cX11_isGoal 17 = .ok (.irem, 1) := by decide +kernel
theorem dX11_isGoal_18 : decode cX11_isGoal 18 = .ok (.iaload, 1) := by decide +kernel
theorem dX11_isGoal_19 : decode cX11_isGoal 19 = .ok (.iload_n 3, 1) := by decide +kernel
theorem dX11_isGoal_20 : decode cX11_isGoal 20 = .ok (.if_icmp .eq 20, 3) := by decide +kernel
theorem dX11_isGoal_23 : decode cX11_isGoal 23 = .ok (.iload_n 3, 1) := by decide +kernel
theorem dX11_isGoal_24 : decode cX11_isGoal 24 = .ok (.bipush 9, 2) := by decide +kernel
theorem dX11_isGoal_26 : decode cX11_isGoal 26 = .ok (.if_icmp .le 18, 3) := by decide +kernel
theorem dX11_isGoal_29 : decode cX11_isGoal 29 = .ok (.iload_n 1, 1) := by decide +kernel
theorem dX11_isGoal_30 : decode cX11_isGoal 30 = .ok (.bipush 24, 2) := by decide +kernel
theorem dX11_isGoal_32 : decode cX11_isGoal 32 = .ok (.irem, 1) := by decide +kernel
theorem dX11_isGoal_33 : decode cX11_isGoal 33 = .ok (.iload_n 3, 1) := by decide +kernel
theorem dX11_isGoal_34 : decode cX11_isGoal 34 = .ok (.bipush 10, 2) := by decide +kernel
theorem dX11_isGoal_36 : decode cX11_isGoal 36 = .ok (.isub, 1) := by decide +kernel
theorem dX11_isGoal_37 : decode cX11_isGoal 37 = .ok (.if_icmp .ne 7, 3) := by decide +kernel
theorem dX11_isGoal_40 : decode cX11_isGoal 40 = .ok (.iconst 1, 1) := by decide +kernel
theorem dX11_isGoal_41 : decode cX11_isGoal 41 = .ok (.goto 4, 3) := by decide +kernel
theorem dX11_isGoal_44 : decode cX11_isGoal 44 = .ok (.iconst 0, 1) := by decide +kernel
theorem dX11_isGoal_45 : decode cX11_isGoal 45 = .ok (.istore 4, 2) := by decide +kernel
theorem dX11_isGoal_47 : decode cX11_isGoal 47 = .ok (.iload_n 1, 1) := by decide +kernel
theorem dX11_isGoal_48 : decode cX11_isGoal 48 = .ok (.bipush 24, 2) := by decide +kernel
theorem dX11_isGoal_50 : decode cX11_isGoal 50 = .ok (.idiv, 1) := by decide +kernel
theorem dX11_isGoal_51 : decode cX11_isGoal 51 = .ok (.iload_n 2, 1) := by decide +kernel
theorem dX11_isGoal_52 : decode cX11_isGoal 52 = .ok (.if_icmp .ne 12, 3) := by decide +kernel
theorem dX11_isGoal_55 : decode cX11_isGoal 55 = .ok (.iload 4, 2) := by decide +kernel
theorem dX11_isGoal_57 : decode cX11_isGoal 57 = .ok (.ifCond .eq 7, 3) := by decide +kernel
theorem dX11_isGoal_60 : decode cX11_isGoal 60 = .ok (.iconst 1, 1) := by decide +kernel
theorem dX11_isGoal_61 : decode cX11_isGoal 61 = .ok (.goto 4, 3) := by decide +kernel
theorem dX11_isGoal_64 : decode cX11_isGoal 64 = .ok (.iconst 0, 1) := by decide +kernel
theorem dX11_isGoal_65 : decode cX11_isGoal 65 = .ok (.ireturn, 1) := by decide +kernel
theorem dX11_mayGo_0 : decode cX11_mayGo 0 = .ok (.aload_n 0, 1) := by decide +kernel
theorem dX11_mayGo_1 : decode cX11_mayGo 1 = .ok (.iload_n 1, 1) := by decide +kernel
theorem dX11_mayGo_2 : decode cX11_mayGo 2 = .ok (.invokevirtual 111, 3) := by decide +kernel
theorem dX11_mayGo_5 : decode cX11_mayGo 5 = .ok (.ifCond .eq 18, 3) := by decide +kernel
theorem dX11_mayGo_8 : decode cX11_mayGo 8 = .ok (.iload_n 2, 1) := by decide +kernel
theorem dX11_mayGo_9 : decode cX11_mayGo 9 = .ok (.invokestatic 90, 3) := by decide +kernel
theorem dX11_mayGo_12 : decode cX11_mayGo 12 = .ok (.ifCond .eq 11, 3) := by decide +kernel
theorem dX11_mayGo_15 : decode cX11_mayGo 15 = .ok (.aload_n 0, 1) := by decide +kernel
theorem dX11_mayGo_16 : decode cX11_mayGo 16 = .ok (.iload_n 3, 1) := by decide +kernel
theorem dX11_mayGo_17 : decode cX11_mayGo 17 = .ok (.invokevirtual 111, 3) := by decide +kernel
theorem dX11_mayGo_20 : decode cX11_mayGo 20 = .ok (.ifCond .ne 5, 3) := by decide +kernel
theorem dX11_mayGo_23 : decode cX11_mayGo 23 = .ok (.iconst (-1), 1) := by decide +kernel
theorem dX11_mayGo_24 : decode cX11_mayGo 24 = .ok (.ireturn, 1) := by decide +kernel
theorem dX11_mayGo_25 : decode cX11_mayGo 25 = .ok (.iload 4, 2) := by decide +kernel
theorem dX11_mayGo_27 : decode cX11_mayGo 27 = .ok (.invokestatic 130, 3) := by decide +kernel
theorem dX11_mayGo_30 : decode cX11_mayGo 30 = .ok (.ifCond .eq 7, 3) := by decide +kernel
theorem dX11_mayGo_33 : decode cX11_mayGo 33 = .ok (.iconst 0, 1) := by decide +kernel
theorem dX11_mayGo_34 : decode cX11_mayGo 34 = .ok (.goto 5, 3) := by decide +kernel
theorem dX11_mayGo_37 : decode cX11_mayGo 37 = .ok (.bipush (-2), 2) := by decide +kernel
theorem dX11_mayGo_39 : decode cX11_mayGo 39 = .ok (.ireturn, 1) := by decide +kernel
theorem dX11_layFrom_0 : decode cX11_layFrom 0 = .ok (.bipush 24, 2) := by decide +kernel
theorem dX11_layFrom_2 : decode cX11_layFrom 2 = .ok (.aload_n 0, 1) := by decide +kernel
theorem dX11_layFrom_3 : decode cX11_layFrom 3 = .ok (.invokevirtual 100, 3) := by decide +kernel
theorem dX11_layFrom_6 : decode cX11_layFrom 6 = .ok (.imul, 1) := by decide +kernel
theorem dX11_layFrom_7 : decode cX11_layFrom 7 = .ok (.istore_n 2, 1) := by decide +kernel
theorem dX11_layFrom_8 : decode cX11_layFrom 8 = .ok (.iconst 0, 1) := by decide +kernel
theorem dX11_layFrom_9 : decode cX11_layFrom 9 = .ok (.istore_n 3, 1) := by decide +kernel
theorem dX11_layFrom_10 : decode cX11_layFrom 10 = .ok (.iload_n 3, 1) := by decide +kernel
theorem dX11_layFrom_11 : decode cX11_layFrom 11 = .ok (.iload_n 2, 1) := by decide +kernel
theorem dX11_layFrom_12 : decode cX11_layFrom 12 = .ok (.if_icmp .ge 24, 3) := by decide +kernel
theorem dX11_layFrom_15 : decode cX11_layFrom 15 = .ok (.aload_n 0, 1) := by decide +kernel
theorem dX11_layFrom_16 : decode cX11_layFrom 16 = .ok (.getfield 38, 3) := by decide +kernel
theorem dX11_layFrom_19 : decode cX11_layFrom 19 = .ok (.iload_n 3, 1) := by decide +kernel
theorem dX11_layFrom_20 : decode cX11_layFrom 20 = .ok (.ldc 99, 2) := by decide +kernel
theorem dX11_layFrom_22 : decode cX11_layFrom 22 = .ok (.iastore, 1) := by decide +kernel
theorem dX11_layFrom_23 : decode cX11_layFrom 23 = .ok (.aload_n 0, 1) := by decide +kernel
theorem dX11_layFrom_24 : decode cX11_layFrom 24 = .ok (.getfield 41, 3) := by decide +kernel
theorem dX11_layFrom_27 : decode cX11_layFrom 27 = .ok (.iload_n 3, 1) := by decide +kernel
theorem dX11_layFrom_28 : decode cX11_layFrom 28 = .ok (.lconst 0, 1) := by decide +kernel
theorem dX11_layFrom_29 : decode cX11_layFrom 29 = .ok (.lastore, 1) := by decide +kernel
theorem dX11_layFrom_30 : decode cX11_layFrom 30 = .ok (.iinc 3 1, 3) := by decide +kernel
theorem dX11_layFrom_33 : decode cX11_layFrom 33 = .ok (.goto (-23), 3) := by decide +kernel
theorem dX11_layFrom_36 : decode cX11_layFrom 36 = .ok (.aload_n 0, 1) := by decide +kernel
theorem dX11_layFrom_37 : decode cX11_layFrom 37 = .ok (.getfield 38, 3) := by decide +kernel
theorem dX11_layFrom_40 : decode cX11_layFrom 40 = .ok (.iload_n 1, 1) := by decide +kernel
theorem dX11_layFrom_41 : decode cX11_layFrom 41 = .ok (.iconst 0, 1) := by decide +kernel
theorem dX11_layFrom_42 : decode cX11_layFrom 42 = .ok (.iastore, 1) := by decide +kernel
theorem dX11_layFrom_43 : decode cX11_layFrom 43 = .ok (.aload_n 0, 1) := by decide +kernel
theorem dX11_layFrom_44 : decode cX11_layFrom 44 = .ok (.getfield 41, 3) := by decide +kernel
theorem dX11_layFrom_47 : decode cX11_layFrom 47 = .ok (.iload_n 1, 1) := by decide +kernel
theorem dX11_layFrom_48 : decode cX11_layFrom 48 = .ok (.lconst 1, 1) := by decide +kernel
theorem dX11_layFrom_49 : decode cX11_layFrom 49 = .ok (.lastore, 1) := by decide +kernel
theorem dX11_layFrom_50 : decode cX11_layFrom 50 = .ok (.iconst 1, 1) := by decide +kernel
theorem dX11_layFrom_51 : decode cX11_layFrom 51 = .ok (.istore_n 3, 1) := by decide +kernel
theorem dX11_layFrom_52 : decode cX11_layFrom 52 = .ok (.iconst 0, 1) := by decide +kernel
theorem dX11_layFrom_53 : decode cX11_layFrom 53 = .ok (.istore 4, 2) := by decide +kernel
theorem dX11_layFrom_55 : decode cX11_layFrom 55 = .ok (.iload_n 3, 1) := by decide +kernel
theorem dX11_layFrom_56 : decode cX11_layFrom 56 = .ok (.ifCond .eq 112, 3) := by decide +kernel
theorem dX11_layFrom_59 : decode cX11_layFrom 59 = .ok (.iconst 0, 1) := by decide +kernel
theorem dX11_layFrom_60 : decode cX11_layFrom 60 = .ok (.istore_n 3, 1) := by decide +kernel
theorem dX11_layFrom_61 : decode cX11_layFrom 61 = .ok (.iconst 0, 1) := by decide +kernel
theorem dX11_layFrom_62 : decode cX11_layFrom 62 = .ok (.istore 5, 2) := by decide +kernel
theorem dX11_layFrom_64 : decode cX11_layFrom 64 = .ok (.iload 5, 2) := by decide +kernel
theorem dX11_layFrom_66 : decode cX11_layFrom 66 = .ok (.iconst 4, 1) := by decide +kernel
theorem dX11_layFrom_67 : decode cX11_layFrom 67 = .ok (.iload_n 2, 1) := by decide +kernel
theorem dX11_layFrom_68 : decode cX11_layFrom 68 = .ok (.imul, 1) := by decide +kernel
theorem dX11_layFrom_69 : decode cX11_layFrom 69 = .ok (.if_icmp .ge 93, 3) := by decide +kernel
theorem dX11_layFrom_72 : decode cX11_layFrom 72 = .ok (.aload_n 0, 1) := by decide +kernel
theorem dX11_layFrom_73 : decode cX11_layFrom 73 = .ok (.getfield 38, 3) := by decide +kernel
theorem dX11_layFrom_76 : decode cX11_layFrom 76 = .ok (.iload 5, 2) := by decide +kernel
theorem dX11_layFrom_78 : decode cX11_layFrom 78 = .ok (.iconst 4, 1) := by decide +kernel
theorem dX11_layFrom_79 : decode cX11_layFrom 79 = .ok (.idiv, 1) := by decide +kernel
theorem dX11_layFrom_80 : decode cX11_layFrom 80 = .ok (.iaload, 1) := by decide +kernel
theorem dX11_layFrom_81 : decode cX11_layFrom 81 = .ok (.iload 4, 2) := by decide +kernel
theorem dX11_layFrom_83 : decode cX11_layFrom 83 = .ok (.if_icmp .ne 18, 3) := by decide +kernel
theorem dX11_layFrom_86 : decode cX11_layFrom 86 = .ok (.aload_n 0, 1) := by decide +kernel
theorem dX11_layFrom_87 : decode cX11_layFrom 87 = .ok (.iload 5, 2) := by decide +kernel
theorem dX11_layFrom_89 : decode cX11_layFrom 89 = .ok (.iconst 4, 1) := by decide +kernel
theorem dX11_layFrom_90 : decode cX11_layFrom 90 = .ok (.idiv, 1) := by decide +kernel
theorem dX11_layFrom_91 : decode cX11_layFrom 91 = .ok (.iload 5, 2) := by decide +kernel
theorem dX11_layFrom_93 : decode cX11_layFrom 93 = .ok (.iconst 4, 1) := by decide +kernel
theorem dX11_layFrom_94 : decode cX11_layFrom 94 = .ok (.irem, 1) := by decide +kernel
theorem dX11_layFrom_95 : decode cX11_layFrom 95 = .ok (.invokevirtual 123, 3) := by decide +kernel
theorem dX11_layFrom_98 : decode cX11_layFrom 98 = .ok (.goto 5, 3) := by decide +kernel
theorem dX11_layFrom_101 : decode cX11_layFrom 101 = .ok (.bipush (-9), 2) := by decide +kernel
theorem dX11_layFrom_103 : decode cX11_layFrom 103 = .ok (.istore 6, 2) := by decide +kernel
theorem dX11_layFrom_105 : decode cX11_layFrom 105 = .ok (.iload 6, 2) := by decide +kernel
theorem dX11_layFrom_107 : decode cX11_layFrom 107 = .ok (.bipush (-9), 2) := by decide +kernel
theorem dX11_layFrom_109 : decode cX11_layFrom 109 = .ok (.if_icmp .eq 47, 3) := by decide +kernel
theorem dX11_layFrom_112 : decode cX11_layFrom 112 = .ok (.aload_n 0, 1) := by decide +kernel
theorem dX11_layFrom_113 : decode cX11_layFrom 113 = .ok (.getfield 38, 3) := by decide +kernel
theorem dX11_layFrom_116 : decode cX11_layFrom 116 = .ok (.iload 6, 2) := by decide +kernel
theorem dX11_layFrom_118 : decode cX11_layFrom 118 = .ok (.iaload, 1) := by decide +kernel
theorem dX11_layFrom_119 : decode cX11_layFrom 119 = .ok (.iload 4, 2) := by decide +kernel
theorem dX11_layFrom_121 : decode cX11_layFrom 121 = .ok (.if_icmp .le 35, 3) := by decide +kernel
theorem dX11_layFrom_124 : decode cX11_layFrom 124 = .ok (.aload_n 0, 1) := by decide +kernel
theorem dX11_layFrom_125 : decode cX11_layFrom 125 = .ok (.getfield 38, 3) := by decide +kernel
theorem dX11_layFrom_128 : decode cX11_layFrom 128 = .ok (.iload 6, 2) := by decide +kernel
theorem dX11_layFrom_130 : decode cX11_layFrom 130 = .ok (.iload 4, 2) := by decide +kernel
theorem dX11_layFrom_132 : decode cX11_layFrom 132 = .ok (.iconst 1, 1) := by decide +kernel
theorem dX11_layFrom_133 : decode cX11_layFrom 133 = .ok (.iadd, 1) := by decide +kernel
theorem dX11_layFrom_134 : decode cX11_layFrom 134 = .ok (.iastore, 1) := by decide +kernel
theorem dX11_layFrom_135 : decode cX11_layFrom 135 = .ok (.aload_n 0, 1) := by decide +kernel
theorem dX11_layFrom_136 : decode cX11_layFrom 136 = .ok (.getfield 41, 3) := by decide +kernel
theorem dX11_layFrom_139 : decode cX11_layFrom 139 = .ok (.iload 6, 2) := by decide +kernel
theorem dX11_layFrom_141 : decode cX11_layFrom 141 = .ok (.dup2, 1) := by decide +kernel
theorem dX11_layFrom_142 : decode cX11_layFrom 142 = .ok (.laload, 1) := by decide +kernel
theorem dX11_layFrom_143 : decode cX11_layFrom 143 = .ok (.aload_n 0, 1) := by decide +kernel
theorem dX11_layFrom_144 : decode cX11_layFrom 144 = .ok (.getfield 41, 3) := by decide +kernel
theorem dX11_layFrom_147 : decode cX11_layFrom 147 = .ok (.iload 5, 2) := by decide +kernel
theorem dX11_layFrom_149 : decode cX11_layFrom 149 = .ok (.iconst 4, 1) := by decide +kernel
theorem dX11_layFrom_150 : decode cX11_layFrom 150 = .ok (.idiv, 1) := by decide +kernel
theorem dX11_layFrom_151 : decode cX11_layFrom 151 = .ok (.laload, 1) := by decide +kernel
theorem dX11_layFrom_152 : decode cX11_layFrom 152 = .ok (.ladd, 1) := by decide +kernel
theorem dX11_layFrom_153 : decode cX11_layFrom 153 = .ok (.lastore, 1) := by decide +kernel
theorem dX11_layFrom_154 : decode cX11_layFrom 154 = .ok (.iconst 1, 1) := by decide +kernel
theorem dX11_layFrom_155 : decode cX11_layFrom 155 = .ok (.istore_n 3, 1) := by decide +kernel
theorem dX11_layFrom_156 : decode cX11_layFrom 156 = .ok (.iinc 5 1, 3) := by decide +kernel
theorem dX11_layFrom_159 : decode cX11_layFrom 159 = .ok (.goto (-95), 3) := by decide +kernel
theorem dX11_layFrom_162 : decode cX11_layFrom 162 = .ok (.iinc 4 1, 3) := by decide +kernel
theorem dX11_layFrom_165 : decode cX11_layFrom 165 = .ok (.goto (-110), 3) := by decide +kernel
theorem dX11_layFrom_168 : decode cX11_layFrom 168 = .ok (.return_, 1) := by decide +kernel
theorem dX11_shortestOf_0 : decode cX11_shortestOf 0 = .ok (.ldc 99, 2) := by decide +kernel
theorem dX11_shortestOf_2 : decode cX11_shortestOf 2 = .ok (.istore_n 3, 1) := by decide +kernel
theorem dX11_shortestOf_3 : decode cX11_shortestOf 3 = .ok (.bipush 24, 2) := by decide +kernel
theorem dX11_shortestOf_5 : decode cX11_shortestOf 5 = .ok (.iload_n 1, 1) := by decide +kernel
theorem dX11_shortestOf_6 : decode cX11_shortestOf 6 = .ok (.imul, 1) := by decide +kernel
theorem dX11_shortestOf_7 : decode cX11_shortestOf 7 = .ok (.istore 4, 2) := by decide +kernel
theorem dX11_shortestOf_9 : decode cX11_shortestOf 9 = .ok (.iload 4, 2) := by decide +kernel
theorem dX11_shortestOf_11 : decode cX11_shortestOf 11 = .ok (.bipush 24, 2) := by decide +kernel
theorem dX11_shortestOf_13 : decode cX11_shortestOf 13 = .ok (.iload_n 1, 1) := by decide +kernel
theorem dX11_shortestOf_14 : decode cX11_shortestOf 14 = .ok (.imul, 1) := by decide +kernel
theorem dX11_shortestOf_15 : decode cX11_shortestOf 15 = .ok (.bipush 24, 2) := by decide +kernel
theorem dX11_shortestOf_17 : decode cX11_shortestOf 17 = .ok (.iadd, 1) := by decide +kernel
theorem dX11_shortestOf_18 : decode cX11_shortestOf 18 = .ok (.if_icmp .ge 43, 3) := by decide +kernel
theorem dX11_shortestOf_21 : decode cX11_shortestOf 21 = .ok (.aload_n 0, 1) := by decide +kernel
theorem dX11_shortestOf_22 : decode cX11_shortestOf 22 = .ok (.iload 4, 2) := by decide +kernel
theorem dX11_shortestOf_24 : decode cX11_shortestOf 24 = .ok (.iload_n 1, 1) := by decide +kernel
theorem dX11_shortestOf_25 : decode cX11_shortestOf 25 = .ok (.iload_n 2, 1) := by decide +kernel
theorem dX11_shortestOf_26 : decode cX11_shortestOf 26 = .ok (.invokevirtual 133, 3) := by decide +kernel
theorem dX11_shortestOf_29 : decode cX11_shortestOf 29 = .ok (.ifCond .eq 24, 3) := by decide +kernel
theorem dX11_shortestOf_32 : decode cX11_shortestOf 32 = .ok (.aload_n 0, 1) := by decide +kernel
theorem dX11_shortestOf_33 : decode cX11_shortestOf 33 = .ok (.getfield 38, 3) := by decide +kernel
theorem dX11_shortestOf_36 : decode cX11_shortestOf 36 = .ok (.iload 4, 2) := by decide +kernel
theorem dX11_shortestOf_38 : decode cX11_shortestOf 38 = .ok (.iaload, 1) := by decide +kernel
theorem dX11_shortestOf_39 : decode cX11_shortestOf 39 = .ok (.iload_n 3, 1) := by decide +kernel
theorem dX11_shortestOf_40 : decode cX11_shortestOf 40 = .ok (.if_icmp .ge 13, 3) := by decide +kernel
theorem dX11_shortestOf_43 : decode cX11_shortestOf 43 = .ok (.aload_n 0, 1) := by decide +kernel
theorem dX11_shortestOf_44 : decode cX11_shortestOf 44 = .ok (.getfield 38, 3) := by decide +kernel
theorem dX11_shortestOf_47 : decode cX11_shortestOf 47 = .ok (.iload 4, 2) := by decide +kernel
theorem dX11_shortestOf_49 : decode cX11_shortestOf 49 = .ok (.iaload, 1) := by decide +kernel
theorem dX11_shortestOf_50 : decode cX11_shortestOf 50 = .ok (.goto 4, 3) := by decide +kernel
theorem dX11_shortestOf_53 : decode cX11_shortestOf 53 = .ok (.iload_n 3, 1) := by decide +kernel
theorem dX11_shortestOf_54 : decode cX11_shortestOf 54 = .ok (.istore_n 3, 1) := by decide +kernel
theorem dX11_shortestOf_55 : decode cX11_shortestOf 55 = .ok (.iinc 4 1, 3) := by decide +kernel
theorem dX11_shortestOf_58 : decode cX11_shortestOf 58 = .ok (.goto (-49), 3) := by decide +kernel
theorem dX11_shortestOf_61 : decode cX11_shortestOf 61 = .ok (.iload_n 3, 1) := by decide +kernel
theorem dX11_shortestOf_62 : decode cX11_shortestOf 62 = .ok (.ireturn, 1) := by decide +kernel
theorem dX11_shortest_0 : decode cX11_shortest 0 = .ok (.aload_n 0, 1) := by decide +kernel
theorem dX11_shortest_1 : decode cX11_shortest 1 = .ok (.iload_n 1, 1) := by decide +kernel
theorem dX11_shortest_2 : decode cX11_shortest 2 = .ok (.iload_n 2, 1) := by decide +kernel
theorem dX11_shortest_3 : decode cX11_shortest 3 = .ok (.iload_n 3, 1) := by decide +kernel
theorem dX11_shortest_4 : decode cX11_shortest 4 = .ok (.iload 4, 2) := by decide +kernel
theorem dX11_shortest_6 : decode cX11_shortest 6 = .ok (.invokevirtual 137, 3) := by decide +kernel
theorem dX11_shortest_9 : decode cX11_shortest 9 = .ok (.istore 5, 2) := by decide +kernel
theorem dX11_shortest_11 : decode cX11_shortest 11 = .ok (.iload 5, 2) := by decide +kernel
theorem dX11_shortest_13 : decode cX11_shortest 13 = .ok (.ifCond .ge 6, 3) := by decide +kernel
theorem dX11_shortest_16 : decode cX11_shortest 16 = .ok (.iload 5, 2) := by decide +kernel
theorem dX11_shortest_18 : decode cX11_shortest 18 = .ok (.ireturn, 1) := by decide +kernel
theorem dX11_shortest_19 : decode cX11_shortest 19 = .ok (.aload_n 0, 1) := by decide +kernel
theorem dX11_shortest_20 : decode cX11_shortest 20 = .ok (.bipush 24, 2) := by decide +kernel
theorem dX11_shortest_22 : decode cX11_shortest 22 = .ok (.iload_n 1, 1) := by decide +kernel
theorem dX11_shortest_23 : decode cX11_shortest 23 = .ok (.imul, 1) := by decide +kernel
theorem dX11_shortest_24 : decode cX11_shortest 24 = .ok (.iload_n 2, 1) := by decide +kernel
theorem dX11_shortest_25 : decode cX11_shortest 25 = .ok (.iadd, 1) := by decide +kernel
theorem dX11_shortest_26 : decode cX11_shortest 26 = .ok (.invokevirtual 141, 3) := by decide +kernel
theorem dX11_shortest_29 : decode cX11_shortest 29 = .ok (.aload_n 0, 1) := by decide +kernel
theorem dX11_shortest_30 : decode cX11_shortest 30 = .ok (.iload_n 3, 1) := by decide +kernel
theorem dX11_shortest_31 : decode cX11_shortest 31 = .ok (.iload 4, 2) := by decide +kernel
theorem dX11_shortest_33 : decode cX11_shortest 33 = .ok (.invokevirtual 145, 3) := by decide +kernel
theorem dX11_shortest_36 : decode cX11_shortest 36 = .ok (.istore 6, 2) := by decide +kernel
theorem dX11_shortest_38 : decode cX11_shortest 38 = .ok (.iload 6, 2) := by decide +kernel
theorem dX11_shortest_40 : decode cX11_shortest 40 = .ok (.ldc 99, 2) := by decide +kernel
theorem dX11_shortest_42 : decode cX11_shortest 42 = .ok (.if_icmp .ne 8, 3) := by decide +kernel
theorem dX11_shortest_45 : decode cX11_shortest 45 = .ok (.bipush (-9), 2) := by decide +kernel
theorem dX11_shortest_47 : decode cX11_shortest 47 = .ok (.goto 5, 3) := by decide +kernel
theorem dX11_shortest_50 : decode cX11_shortest 50 = .ok (.iload 6, 2) := by decide +kernel
theorem dX11_shortest_52 : decode cX11_shortest 52 = .ok (.ireturn, 1) := by decide +kernel
theorem dX11_ways_0 : decode cX11_ways 0 = .ok (.aload_n 0, 1) := by decide +kernel
theorem dX11_ways_1 : decode cX11_ways 1 = .ok (.iload_n 1, 1) := by decide +kernel
theorem dX11_ways_2 : decode cX11_ways 2 = .ok (.iload_n 2, 1) := by decide +kernel
theorem dX11_ways_3 : decode cX11_ways 3 = .ok (.iload_n 3, 1) := by decide +kernel
theorem dX11_ways_4 : decode cX11_ways 4 = .ok (.iload 4, 2) := by decide +kernel
theorem dX11_ways_6 : decode cX11_ways 6 = .ok (.invokevirtual 137, 3) := by decide +kernel
theorem dX11_ways_9 : decode cX11_ways 9 = .ok (.istore 5, 2) := by decide +kernel
theorem dX11_ways_11 : decode cX11_ways 11 = .ok (.iload 5, 2) := by decide +kernel
theorem dX11_ways_13 : decode cX11_ways 13 = .ok (.ifCond .ge 7, 3) := by decide +kernel
theorem dX11_ways_16 : decode cX11_ways 16 = .ok (.iload 5, 2) := by decide +kernel
theorem dX11_ways_18 : decode cX11_ways 18 = .ok (.i2l, 1) := by decide +kernel
theorem dX11_ways_19 : decode cX11_ways 19 = .ok (.lreturn, 1) := by decide +kernel
theorem dX11_ways_20 : decode cX11_ways 20 = .ok (.aload_n 0, 1) := by decide +kernel
theorem dX11_ways_21 : decode cX11_ways 21 = .ok (.bipush 24, 2) := by decide +kernel
theorem dX11_ways_23 : decode cX11_ways 23 = .ok (.iload_n 1, 1) := by decide +kernel
theorem dX11_ways_24 : decode cX11_ways 24 = .ok (.imul, 1) := by decide +kernel
theorem dX11_ways_25 : decode cX11_ways 25 = .ok (.iload_n 2, 1) := by decide +kernel
theorem dX11_ways_26 : decode cX11_ways 26 = .ok (.iadd, 1) := by decide +kernel
theorem dX11_ways_27 : decode cX11_ways 27 = .ok (.invokevirtual 141, 3) := by decide +kernel
theorem dX11_ways_30 : decode cX11_ways 30 = .ok (.aload_n 0, 1) := by decide +kernel
theorem dX11_ways_31 : decode cX11_ways 31 = .ok (.iload_n 3, 1) := by decide +kernel
theorem dX11_ways_32 : decode cX11_ways 32 = .ok (.iload 4, 2) := by decide +kernel
theorem dX11_ways_34 : decode cX11_ways 34 = .ok (.invokevirtual 145, 3) := by decide +kernel
theorem dX11_ways_37 : decode cX11_ways 37 = .ok (.istore 6, 2) := by decide +kernel
theorem dX11_ways_39 : decode cX11_ways 39 = .ok (.lconst 0, 1) := by decide +kernel
theorem dX11_ways_40 : decode cX11_ways 40 = .ok (.lstore 7, 2) := by decide +kernel
theorem dX11_ways_42 : decode cX11_ways 42 = .ok (.bipush 24, 2) := by decide +kernel
theorem dX11_ways_44 : decode cX11_ways 44 = .ok (.iload_n 3, 1) := by decide +kernel
theorem dX11_ways_45 : decode cX11_ways 45 = .ok (.imul, 1) := by decide +kernel
theorem dX11_ways_46 : decode cX11_ways 46 = .ok (.istore 9, 2) := by decide +kernel
theorem dX11_ways_48 : decode cX11_ways 48 = .ok (.iload 9, 2) := by decide +kernel
theorem dX11_ways_50 : decode cX11_ways 50 = .ok (.bipush 24, 2) := by decide +kernel
theorem dX11_ways_52 : decode cX11_ways 52 = .ok (.iload_n 3, 1) := by decide +kernel
theorem dX11_ways_53 : decode cX11_ways 53 = .ok (.imul, 1) := by decide +kernel
theorem dX11_ways_54 : decode cX11_ways 54 = .ok (.bipush 24, 2) := by decide +kernel
theorem dX11_ways_56 : decode cX11_ways 56 = .ok (.iadd, 1) := by decide +kernel
theorem dX11_ways_57 : decode cX11_ways 57 = .ok (.if_icmp .ge 56, 3) := by decide +kernel
theorem dX11_ways_60 : decode cX11_ways 60 = .ok (.iload 6, 2) := by decide +kernel
theorem dX11_ways_62 : decode cX11_ways 62 = .ok (.ldc 99, 2) := by decide +kernel
theorem dX11_ways_64 : decode cX11_ways 64 = .ok (.if_icmp .ge 49, 3) := by decide +kernel
theorem dX11_ways_67 : decode cX11_ways 67 = .ok (.lload 7, 2) := by decide +kernel
theorem dX11_ways_69 : decode cX11_ways 69 = .ok (.aload_n 0, 1) := by decide +kernel
theorem dX11_ways_70 : decode cX11_ways 70 = .ok (.iload 9, 2) := by decide +kernel
theorem dX11_ways_72 : decode cX11_ways 72 = .ok (.iload_n 3, 1) := by decide +kernel
theorem dX11_ways_73 : decode cX11_ways 73 = .ok (.iload 4, 2) := by decide +kernel
theorem dX11_ways_75 : decode cX11_ways 75 = .ok (.invokevirtual 133, 3) := by decide +kernel
theorem dX11_ways_78 : decode cX11_ways 78 = .ok (.ifCond .eq 25, 3) := by decide +kernel
theorem dX11_ways_81 : decode cX11_ways 81 = .ok (.aload_n 0, 1) := by decide +kernel
theorem dX11_ways_82 : decode cX11_ways 82 = .ok (.getfield 38, 3) := by decide +kernel
theorem dX11_ways_85 : decode cX11_ways 85 = .ok (.iload 9, 2) := by decide +kernel
theorem dX11_ways_87 : decode cX11_ways 87 = .ok (.iaload, 1) := by decide +kernel
theorem dX11_ways_88 : decode cX11_ways 88 = .ok (.iload 6, 2) := by decide +kernel
theorem dX11_ways_90 : decode cX11_ways 90 = .ok (.if_icmp .ne 13, 3) := by decide +kernel
theorem dX11_ways_93 : decode cX11_ways 93 = .ok (.aload_n 0, 1) := by decide +kernel
theorem dX11_ways_94 : decode cX11_ways 94 = .ok (.getfield 41, 3) := by decide +kernel
theorem dX11_ways_97 : decode cX11_ways 97 = .ok (.iload 9, 2) := by decide +kernel
theorem dX11_ways_99 : decode cX11_ways 99 = .ok (.laload, 1) := by decide +kernel
theorem dX11_ways_100 : decode cX11_ways 100 = .ok (.goto 4, 3) := by decide +kernel
theorem dX11_ways_103 : decode cX11_ways 103 = .ok (.lconst 0, 1) := by decide +kernel
theorem dX11_ways_104 : decode cX11_ways 104 = .ok (.ladd, 1) := by decide +kernel
theorem dX11_ways_105 : decode cX11_ways 105 = .ok (.lstore 7, 2) := by decide +kernel
theorem dX11_ways_107 : decode cX11_ways 107 = .ok (.iinc 9 1, 3) := by decide +kernel
theorem dX11_ways_110 : decode cX11_ways 110 = .ok (.goto (-62), 3) := by decide +kernel
theorem dX11_ways_113 : decode cX11_ways 113 = .ok (.lload 7, 2) := by decide +kernel
theorem dX11_ways_115 : decode cX11_ways 115 = .ok (.lreturn, 1) := by decide +kernel
theorem dX11_layOnward_0 : decode cX11_layOnward 0 = .ok (.bipush 24, 2) := by decide +kernel
theorem dX11_layOnward_2 : decode cX11_layOnward 2 = .ok (.aload_n 0, 1) := by decide +kernel
theorem dX11_layOnward_3 : decode cX11_layOnward 3 = .ok (.invokevirtual 100, 3) := by decide +kernel
theorem dX11_layOnward_6 : decode cX11_layOnward 6 = .ok (.imul, 1) := by decide +kernel
theorem dX11_layOnward_7 : decode cX11_layOnward 7 = .ok (.istore_n 3, 1) := by decide +kernel
theorem dX11_layOnward_8 : decode cX11_layOnward 8 = .ok (.iconst 0, 1) := by decide +kernel
theorem dX11_layOnward_9 : decode cX11_layOnward 9 = .ok (.istore 4, 2) := by decide +kernel
theorem dX11_layOnward_11 : decode cX11_layOnward 11 = .ok (.iload 4, 2) := by decide +kernel
theorem dX11_layOnward_13 : decode cX11_layOnward 13 = .ok (.iload_n 3, 1) := by decide +kernel
theorem dX11_layOnward_14 : decode cX11_layOnward 14 = .ok (.if_icmp .ge 33, 3) := by decide +kernel
theorem dX11_layOnward_17 : decode cX11_layOnward 17 = .ok (.aload_n 0, 1) := by decide +kernel
theorem dX11_layOnward_18 : decode cX11_layOnward 18 = .ok (.getfield 45, 3) := by decide +kernel
theorem dX11_layOnward_21 : decode cX11_layOnward 21 = .ok (.iload 4, 2) := by decide +kernel
theorem dX11_layOnward_23 : decode cX11_layOnward 23 = .ok (.aload_n 0, 1) := by decide +kernel
theorem dX11_layOnward_24 : decode cX11_layOnward 24 = .ok (.iload 4, 2) := by decide +kernel
theorem dX11_layOnward_26 : decode cX11_layOnward 26 = .ok (.iload_n 1, 1) := by decide +kernel
theorem dX11_layOnward_27 : decode cX11_layOnward 27 = .ok (.iload_n 2, 1) := by decide +kernel
theorem dX11_layOnward_28 : decode cX11_layOnward 28 = .ok (.invokevirtual 133, 3) := by decide +kernel
theorem dX11_layOnward_31 : decode cX11_layOnward 31 = .ok (.ifCond .eq 7, 3) := by decide +kernel
theorem dX11_layOnward_34 : decode cX11_layOnward 34 = .ok (.iconst 0, 1) := by decide +kernel
theorem dX11_layOnward_35 : decode cX11_layOnward 35 = .ok (.goto 5, 3) := by decide +kernel
theorem dX11_layOnward_38 : decode cX11_layOnward 38 = .ok (.ldc 99, 2) := by decide +kernel
theorem dX11_layOnward_40 : decode cX11_layOnward 40 = .ok (.iastore, 1) := by decide +kernel
theorem dX11_layOnward_41 : decode cX11_layOnward 41 = .ok (.iinc 4 1, 3) := by decide +kernel
theorem dX11_layOnward_44 : decode cX11_layOnward 44 = .ok (.goto (-33), 3) := by decide +kernel
theorem dX11_layOnward_47 : decode cX11_layOnward 47 = .ok (.iconst 1, 1) := by decide +kernel
theorem dX11_layOnward_48 : decode cX11_layOnward 48 = .ok (.istore 4, 2) := by decide +kernel
theorem dX11_layOnward_50 : decode cX11_layOnward 50 = .ok (.iload 4, 2) := by decide +kernel
theorem dX11_layOnward_52 : decode cX11_layOnward 52 = .ok (.ifCond .eq 89, 3) := by decide +kernel
theorem dX11_layOnward_55 : decode cX11_layOnward 55 = .ok (.iconst 0, 1) := by decide +kernel
theorem dX11_layOnward_56 : decode cX11_layOnward 56 = .ok (.istore 4, 2) := by decide +kernel
theorem dX11_layOnward_58 : decode cX11_layOnward 58 = .ok (.iconst 0, 1) := by decide +kernel
theorem dX11_layOnward_59 : decode cX11_layOnward 59 = .ok (.istore 5, 2) := by decide +kernel
theorem dX11_layOnward_61 : decode cX11_layOnward 61 = .ok (.iload 5, 2) := by decide +kernel
theorem dX11_layOnward_63 : decode cX11_layOnward 63 = .ok (.iconst 4, 1) := by decide +kernel
theorem dX11_layOnward_64 : decode cX11_layOnward 64 = .ok (.iload_n 3, 1) := by decide +kernel
theorem dX11_layOnward_65 : decode cX11_layOnward 65 = .ok (.imul, 1) := by decide +kernel
theorem dX11_layOnward_66 : decode cX11_layOnward 66 = .ok (.if_icmp .ge 72, 3) := by decide +kernel
theorem dX11_layOnward_69 : decode cX11_layOnward 69 = .ok (.aload_n 0, 1) := by decide +kernel
theorem dX11_layOnward_70 : decode cX11_layOnward 70 = .ok (.iload 5, 2) := by decide +kernel
theorem dX11_layOnward_72 : decode cX11_layOnward 72 = .ok (.iconst 4, 1) := by decide +kernel
theorem dX11_layOnward_73 : decode cX11_layOnward 73 = .ok (.idiv, 1) := by decide +kernel
theorem dX11_layOnward_74 : decode cX11_layOnward 74 = .ok (.iload 5, 2) := by decide +kernel
theorem dX11_layOnward_76 : decode cX11_layOnward 76 = .ok (.iconst 4, 1) := by decide +kernel
theorem dX11_layOnward_77 : decode cX11_layOnward 77 = .ok (.irem, 1) := by decide +kernel
theorem dX11_layOnward_78 : decode cX11_layOnward 78 = .ok (.invokevirtual 123, 3) := by decide +kernel
theorem dX11_layOnward_81 : decode cX11_layOnward 81 = .ok (.istore 6, 2) := by decide +kernel
theorem dX11_layOnward_83 : decode cX11_layOnward 83 = .ok (.iload 6, 2) := by decide +kernel
theorem dX11_layOnward_85 : decode cX11_layOnward 85 = .ok (.bipush (-9), 2) := by decide +kernel
theorem dX11_layOnward_87 : decode cX11_layOnward 87 = .ok (.if_icmp .eq 45, 3) := by decide +kernel
theorem dX11_layOnward_90 : decode cX11_layOnward 90 = .ok (.aload_n 0, 1) := by decide +kernel
theorem dX11_layOnward_91 : decode cX11_layOnward 91 = .ok (.getfield 45, 3) := by decide +kernel
theorem dX11_layOnward_94 : decode cX11_layOnward 94 = .ok (.iload 6, 2) := by decide +kernel
theorem dX11_layOnward_96 : decode cX11_layOnward 96 = .ok (.iaload, 1) := by decide +kernel
theorem dX11_layOnward_97 : decode cX11_layOnward 97 = .ok (.iconst 1, 1) := by decide +kernel
theorem dX11_layOnward_98 : decode cX11_layOnward 98 = .ok (.iadd, 1) := by decide +kernel
theorem dX11_layOnward_99 : decode cX11_layOnward 99 = .ok (.aload_n 0, 1) := by decide +kernel
theorem dX11_layOnward_100 : decode cX11_layOnward 100 = .ok (.getfield 45, 3) := by decide +kernel
theorem dX11_layOnward_103 : decode cX11_layOnward 103 = .ok (.iload 5, 2) := by decide +kernel
theorem dX11_layOnward_105 : decode cX11_layOnward 105 = .ok (.iconst 4, 1) := by decide +kernel
theorem dX11_layOnward_106 : decode cX11_layOnward 106 = .ok (.idiv, 1) := by decide +kernel
theorem dX11_layOnward_107 : decode cX11_layOnward 107 = .ok (.iaload, 1) := by decide +kernel
theorem dX11_layOnward_108 : decode cX11_layOnward 108 = .ok (.if_icmp .ge 24, 3) := by decide +kernel
theorem dX11_layOnward_111 : decode cX11_layOnward 111 = .ok (.aload_n 0, 1) := by decide +kernel
theorem dX11_layOnward_112 : decode cX11_layOnward 112 = .ok (.getfield 45, 3) := by decide +kernel
theorem dX11_layOnward_115 : decode cX11_layOnward 115 = .ok (.iload 5, 2) := by decide +kernel
theorem dX11_layOnward_117 : decode cX11_layOnward 117 = .ok (.iconst 4, 1) := by decide +kernel
theorem dX11_layOnward_118 : decode cX11_layOnward 118 = .ok (.idiv, 1) := by decide +kernel
theorem dX11_layOnward_119 : decode cX11_layOnward 119 = .ok (.aload_n 0, 1) := by decide +kernel
theorem dX11_layOnward_120 : decode cX11_layOnward 120 = .ok (.getfield 45, 3) := by decide +kernel
theorem dX11_layOnward_123 : decode cX11_layOnward 123 = .ok (.iload 6, 2) := by decide +kernel
theorem dX11_layOnward_125 : decode cX11_layOnward 125 = .ok (.iaload, 1) := by decide +kernel
theorem dX11_layOnward_126 : decode cX11_layOnward 126 = .ok (.iconst 1, 1) := by decide +kernel
theorem dX11_layOnward_127 : decode cX11_layOnward 127 = .ok (.iadd, 1) := by decide +kernel
theorem dX11_layOnward_128 : decode cX11_layOnward 128 = .ok (.iastore, 1) := by decide +kernel
theorem dX11_layOnward_129 : decode cX11_layOnward 129 = .ok (.iconst 1, 1) := by decide +kernel
theorem dX11_layOnward_130 : decode cX11_layOnward 130 = .ok (.istore 4, 2) := by decide +kernel
theorem dX11_layOnward_132 : decode cX11_layOnward 132 = .ok (.iinc 5 1, 3) := by decide +kernel
theorem dX11_layOnward_135 : decode cX11_layOnward 135 = .ok (.goto (-74), 3) := by decide +kernel
theorem dX11_layOnward_138 : decode cX11_layOnward 138 = .ok (.goto (-88), 3) := by decide +kernel
theorem dX11_layOnward_141 : decode cX11_layOnward 141 = .ok (.return_, 1) := by decide +kernel
theorem dX11_way_0 : decode cX11_way 0 = .ok (.aload_n 0, 1) := by decide +kernel
theorem dX11_way_1 : decode cX11_way 1 = .ok (.iload_n 1, 1) := by decide +kernel
theorem dX11_way_2 : decode cX11_way 2 = .ok (.iload_n 2, 1) := by decide +kernel
theorem dX11_way_3 : decode cX11_way 3 = .ok (.iload_n 3, 1) := by decide +kernel
theorem dX11_way_4 : decode cX11_way 4 = .ok (.iload 4, 2) := by decide +kernel
theorem dX11_way_6 : decode cX11_way 6 = .ok (.invokevirtual 137, 3) := by decide +kernel
theorem dX11_way_9 : decode cX11_way 9 = .ok (.istore 6, 2) := by decide +kernel
theorem dX11_way_11 : decode cX11_way 11 = .ok (.iload 6, 2) := by decide +kernel
theorem dX11_way_13 : decode cX11_way 13 = .ok (.ifCond .ge 6, 3) := by decide +kernel
theorem dX11_way_16 : decode cX11_way 16 = .ok (.iload 6, 2) := by decide +kernel
theorem dX11_way_18 : decode cX11_way 18 = .ok (.ireturn, 1) := by decide +kernel
theorem dX11_way_19 : decode cX11_way 19 = .ok (.aload_n 0, 1) := by decide +kernel
theorem dX11_way_20 : decode cX11_way 20 = .ok (.iload_n 3, 1) := by decide +kernel
theorem dX11_way_21 : decode cX11_way 21 = .ok (.iload 4, 2) := by decide +kernel
theorem dX11_way_23 : decode cX11_way 23 = .ok (.invokevirtual 148, 3) := by decide +kernel
theorem dX11_way_26 : decode cX11_way 26 = .ok (.bipush 24, 2) := by decide +kernel
theorem dX11_way_28 : decode cX11_way 28 = .ok (.iload_n 1, 1) := by decide +kernel
theorem dX11_way_29 : decode cX11_way 29 = .ok (.imul, 1) := by decide +kernel
theorem dX11_way_30 : decode cX11_way 30 = .ok (.iload_n 2, 1) := by decide +kernel
theorem dX11_way_31 : decode cX11_way 31 = .ok (.iadd, 1) := by decide +kernel
theorem dX11_way_32 : decode cX11_way 32 = .ok (.istore 7, 2) := by decide +kernel
theorem dX11_way_34 : decode cX11_way 34 = .ok (.aload_n 0, 1) := by decide +kernel
theorem dX11_way_35 : decode cX11_way 35 = .ok (.getfield 45, 3) := by decide +kernel
theorem dX11_way_38 : decode cX11_way 38 = .ok (.iload 7, 2) := by decide +kernel
theorem dX11_way_40 : decode cX11_way 40 = .ok (.iaload, 1) := by decide +kernel
theorem dX11_way_41 : decode cX11_way 41 = .ok (.ldc 99, 2) := by decide +kernel
theorem dX11_way_43 : decode cX11_way 43 = .ok (.if_icmp .eq 23, 3) := by decide +kernel
theorem dX11_way_46 : decode cX11_way 46 = .ok (.iload 5, 2) := by decide +kernel
theorem dX11_way_48 : decode cX11_way 48 = .ok (.i2l, 1) := by decide +kernel
theorem dX11_way_49 : decode cX11_way 49 = .ok (.lconst 0, 1) := by decide +kernel
theorem dX11_way_50 : decode cX11_way 50 = .ok (.aload_n 0, 1) := by decide +kernel
theorem dX11_way_51 : decode cX11_way 51 = .ok (.getfield 45, 3) := by decide +kernel
theorem dX11_way_54 : decode cX11_way 54 = .ok (.iload 7, 2) := by decide +kernel
theorem dX11_way_56 : decode cX11_way 56 = .ok (.iaload, 1) := by decide +kernel
theorem dX11_way_57 : decode cX11_way 57 = .ok (.iconst 1, 1) := by decide +kernel
theorem dX11_way_58 : decode cX11_way 58 = .ok (.isub, 1) := by decide +kernel
theorem dX11_way_59 : decode cX11_way 59 = .ok (.i2l, 1) := by decide +kernel
theorem dX11_way_60 : decode cX11_way 60 = .ok (.invokestatic 84, 3) := by decide +kernel
theorem dX11_way_63 : decode cX11_way 63 = .ok (.ifCond .ne 6, 3) := by decide +kernel
theorem dX11_way_66 : decode cX11_way 66 = .ok (.bipush (-9), 2) := by decide +kernel
theorem dX11_way_68 : decode cX11_way 68 = .ok (.ireturn, 1) := by decide +kernel
theorem dX11_way_69 : decode cX11_way 69 = .ok (.iconst 0, 1) := by decide +kernel
theorem dX11_way_70 : decode cX11_way 70 = .ok (.istore 8, 2) := by decide +kernel
theorem dX11_way_72 : decode cX11_way 72 = .ok (.iconst 0, 1) := by decide +kernel
theorem dX11_way_73 : decode cX11_way 73 = .ok (.istore 9, 2) := by decide +kernel
theorem dX11_way_75 : decode cX11_way 75 = .ok (.iload 9, 2) := by decide +kernel
theorem dX11_way_77 : decode cX11_way 77 = .ok (.iload 5, 2) := by decide +kernel
theorem dX11_way_79 : decode cX11_way 79 = .ok (.if_icmp .gt 66, 3) := by decide +kernel
theorem dX11_way_82 : decode cX11_way 82 = .ok (.iconst 0, 1) := by decide +kernel
theorem dX11_way_83 : decode cX11_way 83 = .ok (.istore 8, 2) := by decide +kernel
theorem dX11_way_85 : decode cX11_way 85 = .ok (.aload_n 0, 1) := by decide +kernel
theorem dX11_way_86 : decode cX11_way 86 = .ok (.iload 7, 2) := by decide +kernel
theorem dX11_way_88 : decode cX11_way 88 = .ok (.iload 8, 2) := by decide +kernel
theorem dX11_way_90 : decode cX11_way 90 = .ok (.invokevirtual 123, 3) := by decide +kernel
theorem dX11_way_93 : decode cX11_way 93 = .ok (.bipush (-9), 2) := by decide +kernel
theorem dX11_way_95 : decode cX11_way 95 = .ok (.if_icmp .eq 28, 3) := by decide +kernel
theorem dX11_way_98 : decode cX11_way 98 = .ok (.aload_n 0, 1) := by decide +kernel
theorem dX11_way_99 : decode cX11_way 99 = .ok (.getfield 45, 3) := by decide +kernel
theorem dX11_way_102 : decode cX11_way 102 = .ok (.aload_n 0, 1) := by decide +kernel
theorem dX11_way_103 : decode cX11_way 103 = .ok (.iload 7, 2) := by decide +kernel
theorem dX11_way_105 : decode cX11_way 105 = .ok (.iload 8, 2) := by decide +kernel
theorem dX11_way_107 : decode cX11_way 107 = .ok (.invokevirtual 123, 3) := by decide +kernel
theorem dX11_way_110 : decode cX11_way 110 = .ok (.iaload, 1) := by decide +kernel
theorem dX11_way_111 : decode cX11_way 111 = .ok (.aload_n 0, 1) := by decide +kernel
theorem dX11_way_112 : decode cX11_way 112 = .ok (.getfield 45, 3) := by decide +kernel
theorem dX11_way_115 : decode cX11_way 115 = .ok (.iload 7, 2) := by decide +kernel
theorem dX11_way_117 : decode cX11_way 117 = .ok (.iaload, 1) := by decide +kernel
theorem dX11_way_118 : decode cX11_way 118 = .ok (.iconst 1, 1) := by decide +kernel
theorem dX11_way_119 : decode cX11_way 119 = .ok (.isub, 1) := by decide +kernel
theorem dX11_way_120 : decode cX11_way 120 = .ok (.if_icmp .eq 9, 3) := by decide +kernel
theorem dX11_way_123 : decode cX11_way 123 = .ok (.iinc 8 1, 3) := by decide +kernel
theorem dX11_way_126 : decode cX11_way 126 = .ok (.goto (-41), 3) := by decide +kernel
theorem dX11_way_129 : decode cX11_way 129 = .ok (.aload_n 0, 1) := by decide +kernel
theorem dX11_way_130 : decode cX11_way 130 = .ok (.iload 7, 2) := by decide +kernel
theorem dX11_way_132 : decode cX11_way 132 = .ok (.iload 8, 2) := by decide +kernel
theorem dX11_way_134 : decode cX11_way 134 = .ok (.invokevirtual 123, 3) := by decide +kernel
theorem dX11_way_137 : decode cX11_way 137 = .ok (.istore 7, 2) := by decide +kernel
theorem dX11_way_139 : decode cX11_way 139 = .ok (.iinc 9 1, 3) := by decide +kernel
theorem dX11_way_142 : decode cX11_way 142 = .ok (.goto (-67), 3) := by decide +kernel
theorem dX11_way_145 : decode cX11_way 145 = .ok (.iload 8, 2) := by decide +kernel
theorem dX11_way_147 : decode cX11_way 147 = .ok (.ireturn, 1) := by decide +kernel
theorem dX11_print_0 : decode cX11_print 0 = .ok (.bipush 7, 2) := by decide +kernel
theorem dX11_print_2 : decode cX11_print 2 = .ok (.aload_n 0, 1) := by decide +kernel
theorem dX11_print_3 : decode cX11_print 3 = .ok (.getfield 7, 3) := by decide +kernel
theorem dX11_print_6 : decode cX11_print 6 = .ok (.iload_n 1, 1) := by decide +kernel
theorem dX11_print_7 : decode cX11_print 7 = .ok (.bipush 24, 2) := by decide +kernel
theorem dX11_print_9 : decode cX11_print 9 = .ok (.irem, 1) := by decide +kernel
theorem dX11_print_10 : decode cX11_print 10 = .ok (.iaload, 1) := by decide +kernel
theorem dX11_print_11 : decode cX11_print 11 = .ok (.isub, 1) := by decide +kernel
theorem dX11_print_12 : decode cX11_print 12 = .ok (.ireturn, 1) := by decide +kernel
theorem dX11_cheapest_0 : decode cX11_cheapest 0 = .ok (.aload_n 0, 1) := by decide +kernel
theorem dX11_cheapest_1 : decode cX11_cheapest 1 = .ok (.iload_n 1, 1) := by decide +kernel
theorem dX11_cheapest_2 : decode cX11_cheapest 2 = .ok (.iload_n 2, 1) := by decide +kernel
theorem dX11_cheapest_3 : decode cX11_cheapest 3 = .ok (.iload_n 3, 1) := by decide +kernel
theorem dX11_cheapest_4 : decode cX11_cheapest 4 = .ok (.iload 4, 2) := by decide +kernel
theorem dX11_cheapest_6 : decode cX11_cheapest 6 = .ok (.invokevirtual 137, 3) := by decide +kernel
theorem dX11_cheapest_9 : decode cX11_cheapest 9 = .ok (.istore 5, 2) := by decide +kernel
theorem dX11_cheapest_11 : decode cX11_cheapest 11 = .ok (.iload 5, 2) := by decide +kernel
theorem dX11_cheapest_13 : decode cX11_cheapest 13 = .ok (.ifCond .ge 6, 3) := by decide +kernel
theorem dX11_cheapest_16 : decode cX11_cheapest 16 = .ok (.iload 5, 2) := by decide +kernel
theorem dX11_cheapest_18 : decode cX11_cheapest 18 = .ok (.ireturn, 1) := by decide +kernel
theorem dX11_cheapest_19 : decode cX11_cheapest 19 = .ok (.bipush 24, 2) := by decide +kernel
theorem dX11_cheapest_21 : decode cX11_cheapest 21 = .ok (.aload_n 0, 1) := by decide +kernel
theorem dX11_cheapest_22 : decode cX11_cheapest 22 = .ok (.invokevirtual 100, 3) := by decide +kernel
theorem dX11_cheapest_25 : decode cX11_cheapest 25 = .ok (.imul, 1) := by decide +kernel
theorem dX11_cheapest_26 : decode cX11_cheapest 26 = .ok (.istore 6, 2) := by decide +kernel
theorem dX11_cheapest_28 : decode cX11_cheapest 28 = .ok (.iconst 0, 1) := by decide +kernel
theorem dX11_cheapest_29 : decode cX11_cheapest 29 = .ok (.istore 7, 2) := by decide +kernel
theorem dX11_cheapest_31 : decode cX11_cheapest 31 = .ok (.iload 7, 2) := by decide +kernel
theorem dX11_cheapest_33 : decode cX11_cheapest 33 = .ok (.iload 6, 2) := by decide +kernel
theorem dX11_cheapest_35 : decode cX11_cheapest 35 = .ok (.if_icmp .ge 34, 3) := by decide +kernel
theorem dX11_cheapest_38 : decode cX11_cheapest 38 = .ok (.aload_n 0, 1) := by decide +kernel
theorem dX11_cheapest_39 : decode cX11_cheapest 39 = .ok (.getfield 45, 3) := by decide +kernel
theorem dX11_cheapest_42 : decode cX11_cheapest 42 = .ok (.iload 7, 2) := by decide +kernel
theorem dX11_cheapest_44 : decode cX11_cheapest 44 = .ok (.aload_n 0, 1) := by decide +kernel
theorem dX11_cheapest_45 : decode cX11_cheapest 45 = .ok (.iload 7, 2) := by decide +kernel
theorem dX11_cheapest_47 : decode cX11_cheapest 47 = .ok (.iload_n 3, 1) := by decide +kernel
theorem dX11_cheapest_48 : decode cX11_cheapest 48 = .ok (.iload 4, 2) := by decide +kernel
theorem dX11_cheapest_50 : decode cX11_cheapest 50 = .ok (.invokevirtual 133, 3) := by decide +kernel
theorem dX11_cheapest_53 : decode cX11_cheapest 53 = .ok (.ifCond .eq 7, 3) := by decide +kernel
theorem dX11_cheapest_56 : decode cX11_cheapest 56 = .ok (.iconst 0, 1) := by decide +kernel
theorem dX11_cheapest_57 : decode cX11_cheapest 57 = .ok (.goto 5, 3) := by decide +kernel
theorem dX11_cheapest_60 : decode cX11_cheapest 60 = .ok (.ldc 99, 2) := by decide +kernel
theorem dX11_cheapest_62 : decode cX11_cheapest 62 = .ok (.iastore, 1) := by decide +kernel
theorem dX11_cheapest_63 : decode cX11_cheapest 63 = .ok (.iinc 7 1, 3) := by decide +kernel
theorem dX11_cheapest_66 : decode cX11_cheapest 66 = .ok (.goto (-35), 3) := by decide +kernel
theorem dX11_cheapest_69 : decode cX11_cheapest 69 = .ok (.iconst 1, 1) := by decide +kernel
theorem dX11_cheapest_70 : decode cX11_cheapest 70 = .ok (.istore 7, 2) := by decide +kernel
theorem dX11_cheapest_72 : decode cX11_cheapest 72 = .ok (.iload 7, 2) := by decide +kernel
theorem dX11_cheapest_74 : decode cX11_cheapest 74 = .ok (.ifCond .eq 100, 3) := by decide +kernel
theorem dX11_cheapest_77 : decode cX11_cheapest 77 = .ok (.iconst 0, 1) := by decide +kernel
theorem dX11_cheapest_78 : decode cX11_cheapest 78 = .ok (.istore 7, 2) := by decide +kernel
theorem dX11_cheapest_80 : decode cX11_cheapest 80 = .ok (.iconst 0, 1) := by decide +kernel
theorem dX11_cheapest_81 : decode cX11_cheapest 81 = .ok (.istore 8, 2) := by decide +kernel
theorem dX11_cheapest_83 : decode cX11_cheapest 83 = .ok (.iload 8, 2) := by decide +kernel
theorem dX11_cheapest_85 : decode cX11_cheapest 85 = .ok (.iconst 4, 1) := by decide +kernel
theorem dX11_cheapest_86 : decode cX11_cheapest 86 = .ok (.iload 6, 2) := by decide +kernel
theorem dX11_cheapest_88 : decode cX11_cheapest 88 = .ok (.imul, 1) := by decide +kernel
theorem dX11_cheapest_89 : decode cX11_cheapest 89 = .ok (.if_icmp .ge 82, 3) := by decide +kernel
theorem dX11_cheapest_92 : decode cX11_cheapest 92 = .ok (.aload_n 0, 1) := by decide +kernel
theorem dX11_cheapest_93 : decode cX11_cheapest 93 = .ok (.iload 8, 2) := by decide +kernel
theorem dX11_cheapest_95 : decode cX11_cheapest 95 = .ok (.iconst 4, 1) := by decide +kernel
theorem dX11_cheapest_96 : decode cX11_cheapest 96 = .ok (.idiv, 1) := by decide +kernel
theorem dX11_cheapest_97 : decode cX11_cheapest 97 = .ok (.iload 8, 2) := by decide +kernel
theorem dX11_cheapest_99 : decode cX11_cheapest 99 = .ok (.iconst 4, 1) := by decide +kernel
theorem dX11_cheapest_100 : decode cX11_cheapest 100 = .ok (.irem, 1) := by decide +kernel
theorem dX11_cheapest_101 : decode cX11_cheapest 101 = .ok (.invokevirtual 123, 3) := by decide +kernel
theorem dX11_cheapest_104 : decode cX11_cheapest 104 = .ok (.istore 9, 2) := by decide +kernel
theorem dX11_cheapest_106 : decode cX11_cheapest 106 = .ok (.iload 9, 2) := by decide +kernel
theorem dX11_cheapest_108 : decode cX11_cheapest 108 = .ok (.bipush (-9), 2) := by decide +kernel
theorem dX11_cheapest_110 : decode cX11_cheapest 110 = .ok (.if_icmp .eq 55, 3) := by decide +kernel
theorem dX11_cheapest_113 : decode cX11_cheapest 113 = .ok (.aload_n 0, 1) := by decide +kernel
theorem dX11_cheapest_114 : decode cX11_cheapest 114 = .ok (.getfield 45, 3) := by decide +kernel
theorem dX11_cheapest_117 : decode cX11_cheapest 117 = .ok (.iload 9, 2) := by decide +kernel
theorem dX11_cheapest_119 : decode cX11_cheapest 119 = .ok (.iaload, 1) := by decide +kernel
theorem dX11_cheapest_120 : decode cX11_cheapest 120 = .ok (.aload_n 0, 1) := by decide +kernel
theorem dX11_cheapest_121 : decode cX11_cheapest 121 = .ok (.iload 9, 2) := by decide +kernel
theorem dX11_cheapest_123 : decode cX11_cheapest 123 = .ok (.invokevirtual 152, 3) := by decide +kernel
theorem dX11_cheapest_126 : decode cX11_cheapest 126 = .ok (.iadd, 1) := by decide +kernel
theorem dX11_cheapest_127 : decode cX11_cheapest 127 = .ok (.aload_n 0, 1) := by decide +kernel
theorem dX11_cheapest_128 : decode cX11_cheapest 128 = .ok (.getfield 45, 3) := by decide +kernel
theorem dX11_cheapest_131 : decode cX11_cheapest 131 = .ok (.iload 8, 2) := by decide +kernel
theorem dX11_cheapest_133 : decode cX11_cheapest 133 = .ok (.iconst 4, 1) := by decide +kernel
theorem dX11_cheapest_134 : decode cX11_cheapest 134 = .ok (.idiv, 1) := by decide +kernel
theorem dX11_cheapest_135 : decode cX11_cheapest 135 = .ok (.iaload, 1) := by decide +kernel
theorem dX11_cheapest_136 : decode cX11_cheapest 136 = .ok (.if_icmp .ge 29, 3) := by decide +kernel
theorem dX11_cheapest_139 : decode cX11_cheapest 139 = .ok (.aload_n 0, 1) := by decide +kernel
theorem dX11_cheapest_140 : decode cX11_cheapest 140 = .ok (.getfield 45, 3) := by decide +kernel
theorem dX11_cheapest_143 : decode cX11_cheapest 143 = .ok (.iload 8, 2) := by decide +kernel
theorem dX11_cheapest_145 : decode cX11_cheapest 145 = .ok (.iconst 4, 1) := by decide +kernel
theorem dX11_cheapest_146 : decode cX11_cheapest 146 = .ok (.idiv, 1) := by decide +kernel
theorem dX11_cheapest_147 : decode cX11_cheapest 147 = .ok (.aload_n 0, 1) := by decide +kernel
theorem dX11_cheapest_148 : decode cX11_cheapest 148 = .ok (.getfield 45, 3) := by decide +kernel
theorem dX11_cheapest_151 : decode cX11_cheapest 151 = .ok (.iload 9, 2) := by decide +kernel
theorem dX11_cheapest_153 : decode cX11_cheapest 153 = .ok (.iaload, 1) := by decide +kernel
theorem dX11_cheapest_154 : decode cX11_cheapest 154 = .ok (.aload_n 0, 1) := by decide +kernel
theorem dX11_cheapest_155 : decode cX11_cheapest 155 = .ok (.iload 9, 2) := by decide +kernel
theorem dX11_cheapest_157 : decode cX11_cheapest 157 = .ok (.invokevirtual 152, 3) := by decide +kernel
theorem dX11_cheapest_160 : decode cX11_cheapest 160 = .ok (.iadd, 1) := by decide +kernel
theorem dX11_cheapest_161 : decode cX11_cheapest 161 = .ok (.iastore, 1) := by decide +kernel
theorem dX11_cheapest_162 : decode cX11_cheapest 162 = .ok (.iconst 1, 1) := by decide +kernel
theorem dX11_cheapest_163 : decode cX11_cheapest 163 = .ok (.istore 7, 2) := by decide +kernel
theorem dX11_cheapest_165 : decode cX11_cheapest 165 = .ok (.iinc 8 1, 3) := by decide +kernel
theorem dX11_cheapest_168 : decode cX11_cheapest 168 = .ok (.goto (-85), 3) := by decide +kernel
theorem dX11_cheapest_171 : decode cX11_cheapest 171 = .ok (.goto (-99), 3) := by decide +kernel
theorem dX11_cheapest_174 : decode cX11_cheapest 174 = .ok (.aload_n 0, 1) := by decide +kernel
theorem dX11_cheapest_175 : decode cX11_cheapest 175 = .ok (.getfield 45, 3) := by decide +kernel
theorem dX11_cheapest_178 : decode cX11_cheapest 178 = .ok (.bipush 24, 2) := by decide +kernel
theorem dX11_cheapest_180 : decode cX11_cheapest 180 = .ok (.iload_n 1, 1) := by decide +kernel
theorem dX11_cheapest_181 : decode cX11_cheapest 181 = .ok (.imul, 1) := by decide +kernel
theorem dX11_cheapest_182 : decode cX11_cheapest 182 = .ok (.iload_n 2, 1) := by decide +kernel
theorem dX11_cheapest_183 : decode cX11_cheapest 183 = .ok (.iadd, 1) := by decide +kernel
theorem dX11_cheapest_184 : decode cX11_cheapest 184 = .ok (.iaload, 1) := by decide +kernel
theorem dX11_cheapest_185 : decode cX11_cheapest 185 = .ok (.ldc 99, 2) := by decide +kernel
theorem dX11_cheapest_187 : decode cX11_cheapest 187 = .ok (.if_icmp .ne 8, 3) := by decide +kernel
theorem dX11_cheapest_190 : decode cX11_cheapest 190 = .ok (.bipush (-9), 2) := by decide +kernel
theorem dX11_cheapest_192 : decode cX11_cheapest 192 = .ok (.goto 14, 3) := by decide +kernel
theorem dX11_cheapest_195 : decode cX11_cheapest 195 = .ok (.aload_n 0, 1) := by decide +kernel
theorem dX11_cheapest_196 : decode cX11_cheapest 196 = .ok (.getfield 45, 3) := by decide +kernel
theorem dX11_cheapest_199 : decode cX11_cheapest 199 = .ok (.bipush 24, 2) := by decide +kernel
theorem dX11_cheapest_201 : decode cX11_cheapest 201 = .ok (.iload_n 1, 1) := by decide +kernel
theorem dX11_cheapest_202 : decode cX11_cheapest 202 = .ok (.imul, 1) := by decide +kernel
theorem dX11_cheapest_203 : decode cX11_cheapest 203 = .ok (.iload_n 2, 1) := by decide +kernel
theorem dX11_cheapest_204 : decode cX11_cheapest 204 = .ok (.iadd, 1) := by decide +kernel
theorem dX11_cheapest_205 : decode cX11_cheapest 205 = .ok (.iaload, 1) := by decide +kernel
theorem dX11_cheapest_206 : decode cX11_cheapest 206 = .ok (.ireturn, 1) := by decide +kernel
theorem dX11_stances_0 : decode cX11_stances 0 = .ok (.aload_n 0, 1) := by decide +kernel
theorem dX11_stances_1 : decode cX11_stances 1 = .ok (.iload_n 1, 1) := by decide +kernel
theorem dX11_stances_2 : decode cX11_stances 2 = .ok (.invokevirtual 111, 3) := by decide +kernel
theorem dX11_stances_5 : decode cX11_stances 5 = .ok (.ifCond .eq 18, 3) := by decide +kernel
theorem dX11_stances_8 : decode cX11_stances 8 = .ok (.iload_n 2, 1) := by decide +kernel
theorem dX11_stances_9 : decode cX11_stances 9 = .ok (.invokestatic 90, 3) := by decide +kernel
theorem dX11_stances_12 : decode cX11_stances 12 = .ok (.ifCond .eq 11, 3) := by decide +kernel
theorem dX11_stances_15 : decode cX11_stances 15 = .ok (.aload_n 0, 1) := by decide +kernel
theorem dX11_stances_16 : decode cX11_stances 16 = .ok (.iload_n 3, 1) := by decide +kernel
theorem dX11_stances_17 : decode cX11_stances 17 = .ok (.invokevirtual 111, 3) := by decide +kernel
theorem dX11_stances_20 : decode cX11_stances 20 = .ok (.ifCond .ne 5, 3) := by decide +kernel
theorem dX11_stances_23 : decode cX11_stances 23 = .ok (.iconst (-1), 1) := by decide +kernel
theorem dX11_stances_24 : decode cX11_stances 24 = .ok (.ireturn, 1) := by decide +kernel
theorem dX11_stances_25 : decode cX11_stances 25 = .ok (.aload_n 0, 1) := by decide +kernel
theorem dX11_stances_26 : decode cX11_stances 26 = .ok (.bipush 24, 2) := by decide +kernel
theorem dX11_stances_28 : decode cX11_stances 28 = .ok (.iload_n 1, 1) := by decide +kernel
theorem dX11_stances_29 : decode cX11_stances 29 = .ok (.imul, 1) := by decide +kernel
theorem dX11_stances_30 : decode cX11_stances 30 = .ok (.iload_n 2, 1) := by decide +kernel
theorem dX11_stances_31 : decode cX11_stances 31 = .ok (.iadd, 1) := by decide +kernel
theorem dX11_stances_32 : decode cX11_stances 32 = .ok (.invokevirtual 141, 3) := by decide +kernel
theorem dX11_stances_35 : decode cX11_stances 35 = .ok (.iconst 0, 1) := by decide +kernel
theorem dX11_stances_36 : decode cX11_stances 36 = .ok (.istore 4, 2) := by decide +kernel
theorem dX11_stances_38 : decode cX11_stances 38 = .ok (.bipush 24, 2) := by decide +kernel
theorem dX11_stances_40 : decode cX11_stances 40 = .ok (.iload_n 3, 1) := by decide +kernel
theorem dX11_stances_41 : decode cX11_stances 41 = .ok (.imul, 1) := by decide +kernel
theorem dX11_stances_42 : decode cX11_stances 42 = .ok (.istore 5, 2) := by decide +kernel
theorem dX11_stances_44 : decode cX11_stances 44 = .ok (.iload 5, 2) := by decide +kernel
theorem dX11_stances_46 : decode cX11_stances 46 = .ok (.bipush 24, 2) := by decide +kernel
theorem dX11_stances_48 : decode cX11_stances 48 = .ok (.iload_n 3, 1) := by decide +kernel
theorem dX11_stances_49 : decode cX11_stances 49 = .ok (.imul, 1) := by decide +kernel
theorem dX11_stances_50 : decode cX11_stances 50 = .ok (.bipush 24, 2) := by decide +kernel
theorem dX11_stances_52 : decode cX11_stances 52 = .ok (.iadd, 1) := by decide +kernel
theorem dX11_stances_53 : decode cX11_stances 53 = .ok (.if_icmp .ge 31, 3) := by decide +kernel
theorem dX11_stances_56 : decode cX11_stances 56 = .ok (.iload 4, 2) := by decide +kernel
theorem dX11_stances_58 : decode cX11_stances 58 = .ok (.aload_n 0, 1) := by decide +kernel
theorem dX11_stances_59 : decode cX11_stances 59 = .ok (.getfield 38, 3) := by decide +kernel
theorem dX11_stances_62 : decode cX11_stances 62 = .ok (.iload 5, 2) := by decide +kernel
theorem dX11_stances_64 : decode cX11_stances 64 = .ok (.iaload, 1) := by decide +kernel
theorem dX11_stances_65 : decode cX11_stances 65 = .ok (.ldc 99, 2) := by decide +kernel
theorem dX11_stances_67 : decode cX11_stances 67 = .ok (.if_icmp .ge 7, 3) := by decide +kernel
theorem dX11_stances_70 : decode cX11_stances 70 = .ok (.iconst 1, 1) := by decide +kernel
theorem dX11_stances_71 : decode cX11_stances 71 = .ok (.goto 4, 3) := by decide +kernel
theorem dX11_stances_74 : decode cX11_stances 74 = .ok (.iconst 0, 1) := by decide +kernel
theorem dX11_stances_75 : decode cX11_stances 75 = .ok (.iadd, 1) := by decide +kernel
theorem dX11_stances_76 : decode cX11_stances 76 = .ok (.istore 4, 2) := by decide +kernel
theorem dX11_stances_78 : decode cX11_stances 78 = .ok (.iinc 5 1, 3) := by decide +kernel
theorem dX11_stances_81 : decode cX11_stances 81 = .ok (.goto (-37), 3) := by decide +kernel
theorem dX11_stances_84 : decode cX11_stances 84 = .ok (.iload 4, 2) := by decide +kernel
theorem dX11_stances_86 : decode cX11_stances 86 = .ok (.ireturn, 1) := by decide +kernel
theorem dX11_reach_0 : decode cX11_reach 0 = .ok (.aload_n 0, 1) := by decide +kernel
theorem dX11_reach_1 : decode cX11_reach 1 = .ok (.iload_n 1, 1) := by decide +kernel
theorem dX11_reach_2 : decode cX11_reach 2 = .ok (.invokevirtual 111, 3) := by decide +kernel
theorem dX11_reach_5 : decode cX11_reach 5 = .ok (.ifCond .eq 10, 3) := by decide +kernel
theorem dX11_reach_8 : decode cX11_reach 8 = .ok (.iload_n 2, 1) := by decide +kernel
theorem dX11_reach_9 : decode cX11_reach 9 = .ok (.invokestatic 90, 3) := by decide +kernel
theorem dX11_reach_12 : decode cX11_reach 12 = .ok (.ifCond .ne 5, 3) := by decide +kernel
theorem dX11_reach_15 : decode cX11_reach 15 = .ok (.iconst (-1), 1) := by decide +kernel
theorem dX11_reach_16 : decode cX11_reach 16 = .ok (.ireturn, 1) := by decide +kernel
theorem dX11_reach_17 : decode cX11_reach 17 = .ok (.aload_n 0, 1) := by decide +kernel
theorem dX11_reach_18 : decode cX11_reach 18 = .ok (.bipush 24, 2) := by decide +kernel
theorem dX11_reach_20 : decode cX11_reach 20 = .ok (.iload_n 1, 1) := by decide +kernel
theorem dX11_reach_21 : decode cX11_reach 21 = .ok (.imul, 1) := by decide +kernel
theorem dX11_reach_22 : decode cX11_reach 22 = .ok (.iload_n 2, 1) := by decide +kernel
theorem dX11_reach_23 : decode cX11_reach 23 = .ok (.iadd, 1) := by decide +kernel
theorem dX11_reach_24 : decode cX11_reach 24 = .ok (.invokevirtual 141, 3) := by decide +kernel
theorem dX11_reach_27 : decode cX11_reach 27 = .ok (.iconst 0, 1) := by decide +kernel
theorem dX11_reach_28 : decode cX11_reach 28 = .ok (.istore_n 3, 1) := by decide +kernel
theorem dX11_reach_29 : decode cX11_reach 29 = .ok (.iconst 0, 1) := by decide +kernel
theorem dX11_reach_30 : decode cX11_reach 30 = .ok (.istore 4, 2) := by decide +kernel
theorem dX11_reach_32 : decode cX11_reach 32 = .ok (.iload 4, 2) := by decide +kernel
theorem dX11_reach_34 : decode cX11_reach 34 = .ok (.aload_n 0, 1) := by decide +kernel
theorem dX11_reach_35 : decode cX11_reach 35 = .ok (.invokevirtual 100, 3) := by decide +kernel
theorem dX11_reach_38 : decode cX11_reach 38 = .ok (.if_icmp .ge 75, 3) := by decide +kernel
theorem dX11_reach_41 : decode cX11_reach 41 = .ok (.iconst 0, 1) := by decide +kernel
theorem dX11_reach_42 : decode cX11_reach 42 = .ok (.istore 5, 2) := by decide +kernel
theorem dX11_reach_44 : decode cX11_reach 44 = .ok (.bipush 24, 2) := by decide +kernel
theorem dX11_reach_46 : decode cX11_reach 46 = .ok (.iload 4, 2) := by decide +kernel
theorem dX11_reach_48 : decode cX11_reach 48 = .ok (.imul, 1) := by decide +kernel
theorem dX11_reach_49 : decode cX11_reach 49 = .ok (.istore 6, 2) := by decide +kernel
theorem dX11_reach_51 : decode cX11_reach 51 = .ok (.iload 6, 2) := by decide +kernel
theorem dX11_reach_53 : decode cX11_reach 53 = .ok (.bipush 24, 2) := by decide +kernel
theorem dX11_reach_55 : decode cX11_reach 55 = .ok (.iload 4, 2) := by decide +kernel
theorem dX11_reach_57 : decode cX11_reach 57 = .ok (.imul, 1) := by decide +kernel
theorem dX11_reach_58 : decode cX11_reach 58 = .ok (.bipush 24, 2) := by decide +kernel
theorem dX11_reach_60 : decode cX11_reach 60 = .ok (.iadd, 1) := by decide +kernel
theorem dX11_reach_61 : decode cX11_reach 61 = .ok (.if_icmp .ge 33, 3) := by decide +kernel
theorem dX11_reach_64 : decode cX11_reach 64 = .ok (.iload 5, 2) := by decide +kernel
theorem dX11_reach_66 : decode cX11_reach 66 = .ok (.ifCond .ne 15, 3) := by decide +kernel
theorem dX11_reach_69 : decode cX11_reach 69 = .ok (.aload_n 0, 1) := by decide +kernel
theorem dX11_reach_70 : decode cX11_reach 70 = .ok (.getfield 38, 3) := by decide +kernel
theorem dX11_reach_73 : decode cX11_reach 73 = .ok (.iload 6, 2) := by decide +kernel
theorem dX11_reach_75 : decode cX11_reach 75 = .ok (.iaload, 1) := by decide +kernel
theorem dX11_reach_76 : decode cX11_reach 76 = .ok (.ldc 99, 2) := by decide +kernel
theorem dX11_reach_78 : decode cX11_reach 78 = .ok (.if_icmp .ge 7, 3) := by decide +kernel
theorem dX11_reach_81 : decode cX11_reach 81 = .ok (.iconst 1, 1) := by decide +kernel
theorem dX11_reach_82 : decode cX11_reach 82 = .ok (.goto 4, 3) := by decide +kernel
theorem dX11_reach_85 : decode cX11_reach 85 = .ok (.iconst 0, 1) := by decide +kernel
theorem dX11_reach_86 : decode cX11_reach 86 = .ok (.istore 5, 2) := by decide +kernel
theorem dX11_reach_88 : decode cX11_reach 88 = .ok (.iinc 6 1, 3) := by decide +kernel
theorem dX11_reach_91 : decode cX11_reach 91 = .ok (.goto (-40), 3) := by decide +kernel
theorem dX11_reach_94 : decode cX11_reach 94 = .ok (.iload_n 3, 1) := by decide +kernel
theorem dX11_reach_95 : decode cX11_reach 95 = .ok (.iload 5, 2) := by decide +kernel
theorem dX11_reach_97 : decode cX11_reach 97 = .ok (.ifCond .eq 7, 3) := by decide +kernel
theorem dX11_reach_100 : decode cX11_reach 100 = .ok (.iconst 1, 1) := by decide +kernel
theorem dX11_reach_101 : decode cX11_reach 101 = .ok (.goto 4, 3) := by decide +kernel
theorem dX11_reach_104 : decode cX11_reach 104 = .ok (.iconst 0, 1) := by decide +kernel
theorem dX11_reach_105 : decode cX11_reach 105 = .ok (.iadd, 1) := by decide +kernel
theorem dX11_reach_106 : decode cX11_reach 106 = .ok (.istore_n 3, 1) := by decide +kernel
theorem dX11_reach_107 : decode cX11_reach 107 = .ok (.iinc 4 1, 3) := by decide +kernel
theorem dX11_reach_110 : decode cX11_reach 110 = .ok (.goto (-78), 3) := by decide +kernel
theorem dX11_reach_113 : decode cX11_reach 113 = .ok (.iload_n 3, 1) := by decide +kernel
theorem dX11_reach_114 : decode cX11_reach 114 = .ok (.ireturn, 1) := by decide +kernel
theorem dX11_openCells_0 : decode cX11_openCells 0 = .ok (.iconst 0, 1) := by decide +kernel
theorem dX11_openCells_1 : decode cX11_openCells 1 = .ok (.istore_n 2, 1) := by decide +kernel
theorem dX11_openCells_2 : decode cX11_openCells 2 = .ok (.iconst 0, 1) := by decide +kernel
theorem dX11_openCells_3 : decode cX11_openCells 3 = .ok (.istore_n 3, 1) := by decide +kernel
theorem dX11_openCells_4 : decode cX11_openCells 4 = .ok (.iload_n 3, 1) := by decide +kernel
theorem dX11_openCells_5 : decode cX11_openCells 5 = .ok (.aload_n 0, 1) := by decide +kernel
theorem dX11_openCells_6 : decode cX11_openCells 6 = .ok (.invokevirtual 100, 3) := by decide +kernel
theorem dX11_openCells_9 : decode cX11_openCells 9 = .ok (.if_icmp .ge 26, 3) := by decide +kernel
theorem dX11_openCells_12 : decode cX11_openCells 12 = .ok (.iload_n 2, 1) := by decide +kernel
theorem dX11_openCells_13 : decode cX11_openCells 13 = .ok (.aload_n 0, 1) := by decide +kernel
theorem dX11_openCells_14 : decode cX11_openCells 14 = .ok (.iload_n 3, 1) := by decide +kernel
theorem dX11_openCells_15 : decode cX11_openCells 15 = .ok (.iload_n 1, 1) := by decide +kernel
theorem dX11_openCells_16 : decode cX11_openCells 16 = .ok (.invokevirtual 116, 3) := by decide +kernel
theorem dX11_openCells_19 : decode cX11_openCells 19 = .ok (.ifCond .eq 7, 3) := by decide +kernel
theorem dX11_openCells_22 : decode cX11_openCells 22 = .ok (.iconst 1, 1) := by decide +kernel
theorem dX11_openCells_23 : decode cX11_openCells 23 = .ok (.goto 4, 3) := by decide +kernel
theorem dX11_openCells_26 : decode cX11_openCells 26 = .ok (.iconst 0, 1) := by decide +kernel
theorem dX11_openCells_27 : decode cX11_openCells 27 = .ok (.iadd, 1) := by decide +kernel
theorem dX11_openCells_28 : decode cX11_openCells 28 = .ok (.istore_n 2, 1) := by decide +kernel
theorem dX11_openCells_29 : decode cX11_openCells 29 = .ok (.iinc 3 1, 3) := by decide +kernel
theorem dX11_openCells_32 : decode cX11_openCells 32 = .ok (.goto (-28), 3) := by decide +kernel
theorem dX11_openCells_35 : decode cX11_openCells 35 = .ok (.iload_n 2, 1) := by decide +kernel
theorem dX11_openCells_36 : decode cX11_openCells 36 = .ok (.ireturn, 1) := by decide +kernel
theorem dX11_mayTour_0 : decode cX11_mayTour 0 = .ok (.aload_n 0, 1) := by decide +kernel
theorem dX11_mayTour_1 : decode cX11_mayTour 1 = .ok (.iload_n 1, 1) := by decide +kernel
theorem dX11_mayTour_2 : decode cX11_mayTour 2 = .ok (.invokevirtual 111, 3) := by decide +kernel
theorem dX11_mayTour_5 : decode cX11_mayTour 5 = .ok (.ifCond .eq 10, 3) := by decide +kernel
theorem dX11_mayTour_8 : decode cX11_mayTour 8 = .ok (.iload_n 2, 1) := by decide +kernel
theorem dX11_mayTour_9 : decode cX11_mayTour 9 = .ok (.invokestatic 90, 3) := by decide +kernel
theorem dX11_mayTour_12 : decode cX11_mayTour 12 = .ok (.ifCond .ne 5, 3) := by decide +kernel
theorem dX11_mayTour_15 : decode cX11_mayTour 15 = .ok (.iconst (-1), 1) := by decide +kernel
theorem dX11_mayTour_16 : decode cX11_mayTour 16 = .ok (.ireturn, 1) := by decide +kernel
theorem dX11_mayTour_17 : decode cX11_mayTour 17 = .ok (.iload_n 3, 1) := by decide +kernel
theorem dX11_mayTour_18 : decode cX11_mayTour 18 = .ok (.i2l, 1) := by decide +kernel
theorem dX11_mayTour_19 : decode cX11_mayTour 19 = .ok (.lconst 0, 1) := by decide +kernel
theorem dX11_mayTour_20 : decode cX11_mayTour 20 = .ok (.ldc2_w 97, 3) := by decide +kernel
theorem dX11_mayTour_23 : decode cX11_mayTour 23 = .ok (.invokestatic 84, 3) := by decide +kernel
theorem dX11_mayTour_26 : decode cX11_mayTour 26 = .ok (.ifCond .ne 6, 3) := by decide +kernel
theorem dX11_mayTour_29 : decode cX11_mayTour 29 = .ok (.bipush (-2), 2) := by decide +kernel
theorem dX11_mayTour_31 : decode cX11_mayTour 31 = .ok (.ireturn, 1) := by decide +kernel
theorem dX11_mayTour_32 : decode cX11_mayTour 32 = .ok (.aload_n 0, 1) := by decide +kernel
theorem dX11_mayTour_33 : decode cX11_mayTour 33 = .ok (.aload_n 0, 1) := by decide +kernel
theorem dX11_mayTour_34 : decode cX11_mayTour 34 = .ok (.getfield 108, 3) := by decide +kernel
theorem dX11_mayTour_37 : decode cX11_mayTour 37 = .ok (.invokevirtual 156, 3) := by decide +kernel
theorem dX11_mayTour_40 : decode cX11_mayTour 40 = .ok (.bipush 16, 2) := by decide +kernel
theorem dX11_mayTour_42 : decode cX11_mayTour 42 = .ok (.if_icmp .gt 15, 3) := by decide +kernel
theorem dX11_mayTour_45 : decode cX11_mayTour 45 = .ok (.aload_n 0, 1) := by decide +kernel
theorem dX11_mayTour_46 : decode cX11_mayTour 46 = .ok (.iload_n 1, 1) := by decide +kernel
theorem dX11_mayTour_47 : decode cX11_mayTour 47 = .ok (.aload_n 0, 1) := by decide +kernel
theorem dX11_mayTour_48 : decode cX11_mayTour 48 = .ok (.getfield 108, 3) := by decide +kernel
theorem dX11_mayTour_51 : decode cX11_mayTour 51 = .ok (.invokevirtual 116, 3) := by decide +kernel
theorem dX11_mayTour_54 : decode cX11_mayTour 54 = .ok (.ifCond .ne 8, 3) := by decide +kernel
theorem dX11_mayTour_57 : decode cX11_mayTour 57 = .ok (.bipush (-3), 2) := by decide +kernel
theorem dX11_mayTour_59 : decode cX11_mayTour 59 = .ok (.goto 4, 3) := by decide +kernel
theorem dX11_mayTour_62 : decode cX11_mayTour 62 = .ok (.iconst 0, 1) := by decide +kernel
theorem dX11_mayTour_63 : decode cX11_mayTour 63 = .ok (.ireturn, 1) := by decide +kernel
theorem dX11_layTours_0 : decode cX11_layTours 0 = .ok (.aload_n 0, 1) := by decide +kernel
theorem dX11_layTours_1 : decode cX11_layTours 1 = .ok (.iconst 0, 1) := by decide +kernel
theorem dX11_layTours_2 : decode cX11_layTours 2 = .ok (.putfield 159, 3) := by decide +kernel
theorem dX11_layTours_5 : decode cX11_layTours 5 = .ok (.aload_n 0, 1) := by decide +kernel
theorem dX11_layTours_6 : decode cX11_layTours 6 = .ok (.aload_n 0, 1) := by decide +kernel
theorem dX11_layTours_7 : decode cX11_layTours 7 = .ok (.aload_n 0, 1) := by decide +kernel
theorem dX11_layTours_8 : decode cX11_layTours 8 = .ok (.getfield 108, 3) := by decide +kernel
theorem dX11_layTours_11 : decode cX11_layTours 11 = .ok (.invokevirtual 156, 3) := by decide +kernel
theorem dX11_layTours_14 : decode cX11_layTours 14 = .ok (.iconst 1, 1) := by decide +kernel
theorem dX11_layTours_15 : decode cX11_layTours 15 = .ok (.isub, 1) := by decide +kernel
theorem dX11_layTours_16 : decode cX11_layTours 16 = .ok (.putfield 162, 3) := by decide +kernel
theorem dX11_layTours_19 : decode cX11_layTours 19 = .ok (.iconst 1, 1) := by decide +kernel
theorem dX11_layTours_20 : decode cX11_layTours 20 = .ok (.iload_n 1, 1) := by decide +kernel
theorem dX11_layTours_21 : decode cX11_layTours 21 = .ok (.bipush 24, 2) := by decide +kernel
theorem dX11_layTours_23 : decode cX11_layTours 23 = .ok (.idiv, 1) := by decide +kernel
theorem dX11_layTours_24 : decode cX11_layTours 24 = .ok (.ishl, 1) := by decide +kernel
theorem dX11_layTours_25 : decode cX11_layTours 25 = .ok (.istore_n 3, 1) := by decide +kernel
theorem dX11_layTours_26 : decode cX11_layTours 26 = .ok (.iconst 0, 1) := by decide +kernel
theorem dX11_layTours_27 : decode cX11_layTours 27 = .ok (.istore 4, 2) := by decide +kernel
theorem dX11_layTours_29 : decode cX11_layTours 29 = .ok (.aload_n 0, 1) := by decide +kernel
theorem dX11_layTours_30 : decode cX11_layTours 30 = .ok (.getfield 48, 3) := by decide +kernel
theorem dX11_layTours_33 : decode cX11_layTours 33 = .ok (.iconst 0, 1) := by decide +kernel
theorem dX11_layTours_34 : decode cX11_layTours 34 = .ok (.iload_n 1, 1) := by decide +kernel
theorem dX11_layTours_35 : decode cX11_layTours 35 = .ok (.iastore, 1) := by decide +kernel
theorem dX11_layTours_36 : decode cX11_layTours 36 = .ok (.aload_n 0, 1) := by decide +kernel
theorem dX11_layTours_37 : decode cX11_layTours 37 = .ok (.getfield 51, 3) := by decide +kernel
theorem dX11_layTours_40 : decode cX11_layTours 40 = .ok (.iconst 0, 1) := by decide +kernel
theorem dX11_layTours_41 : decode cX11_layTours 41 = .ok (.iconst (-1), 1) := by decide +kernel
theorem dX11_layTours_42 : decode cX11_layTours 42 = .ok (.iastore, 1) := by decide +kernel
theorem dX11_layTours_43 : decode cX11_layTours 43 = .ok (.iload 4, 2) := by decide +kernel
theorem dX11_layTours_45 : decode cX11_layTours 45 = .ok (.ifCond .lt 172, 3) := by decide +kernel
theorem dX11_layTours_48 : decode cX11_layTours 48 = .ok (.iload 4, 2) := by decide +kernel
theorem dX11_layTours_50 : decode cX11_layTours 50 = .ok (.aload_n 0, 1) := by decide +kernel
theorem dX11_layTours_51 : decode cX11_layTours 51 = .ok (.getfield 162, 3) := by decide +kernel
theorem dX11_layTours_54 : decode cX11_layTours 54 = .ok (.if_icmp .ne 21, 3) := by decide +kernel
theorem dX11_layTours_57 : decode cX11_layTours 57 = .ok (.aload_n 0, 1) := by decide +kernel
theorem dX11_layTours_58 : decode cX11_layTours 58 = .ok (.getfield 51, 3) := by decide +kernel
theorem dX11_layTours_61 : decode cX11_layTours 61 = .ok (.iload 4, 2) := by decide +kernel
theorem dX11_layTours_63 : decode cX11_layTours 63 = .ok (.iaload, 1) := by decide +kernel
theorem dX11_layTours_64 : decode cX11_layTours 64 = .ok (.iconst (-1), 1) := by decide +kernel
theorem dX11_layTours_65 : decode cX11_layTours 65 = .ok (.if_icmp .ne 10, 3) := by decide +kernel
theorem dX11_layTours_68 : decode cX11_layTours 68 = .ok (.aload_n 0, 1) := by decide +kernel
theorem dX11_layTours_69 : decode cX11_layTours 69 = .ok (.iload 4, 2) := by decide +kernel
theorem dX11_layTours_71 : decode cX11_layTours 71 = .ok (.iload_n 2, 1) := by decide +kernel
theorem dX11_layTours_72 : decode cX11_layTours 72 = .ok (.invokevirtual 165, 3) := by decide +kernel
theorem dX11_layTours_75 : decode cX11_layTours 75 = .ok (.aload_n 0, 1) := by decide +kernel
theorem dX11_layTours_76 : decode cX11_layTours 76 = .ok (.getfield 51, 3) := by decide +kernel
theorem dX11_layTours_79 : decode cX11_layTours 79 = .ok (.iload 4, 2) := by decide +kernel
theorem dX11_layTours_81 : decode cX11_layTours 81 = .ok (.dup2, 1) := by decide +kernel
theorem dX11_layTours_82 : decode cX11_layTours 82 = .ok (.iaload, 1) := by decide +kernel
theorem dX11_layTours_83 : decode cX11_layTours 83 = .ok (.iconst 1, 1) := by decide +kernel
theorem dX11_layTours_84 : decode cX11_layTours 84 = .ok (.iadd, 1) := by decide +kernel
theorem dX11_layTours_85 : decode cX11_layTours 85 = .ok (.iastore, 1) := by decide +kernel
theorem dX11_layTours_86 : decode cX11_layTours 86 = .ok (.aload_n 0, 1) := by decide +kernel
theorem dX11_layTours_87 : decode cX11_layTours 87 = .ok (.getfield 51, 3) := by decide +kernel
theorem dX11_layTours_90 : decode cX11_layTours 90 = .ok (.iload 4, 2) := by decide +kernel
theorem dX11_layTours_92 : decode cX11_layTours 92 = .ok (.iaload, 1) := by decide +kernel
theorem dX11_layTours_93 : decode cX11_layTours 93 = .ok (.iconst 3, 1) := by decide +kernel
theorem dX11_layTours_94 : decode cX11_layTours 94 = .ok (.if_icmp .le 8, 3) := by decide +kernel
theorem dX11_layTours_97 : decode cX11_layTours 97 = .ok (.bipush (-9), 2) := by decide +kernel
theorem dX11_layTours_99 : decode cX11_layTours 99 = .ok (.goto 21, 3) := by decide +kernel
theorem dX11_layTours_102 : decode cX11_layTours 102 = .ok (.aload_n 0, 1) := by decide +kernel
theorem dX11_layTours_103 : decode cX11_layTours 103 = .ok (.aload_n 0, 1) := by decide +kernel
theorem dX11_layTours_104 : decode cX11_layTours 104 = .ok (.getfield 48, 3) := by decide +kernel
theorem dX11_layTours_107 : decode cX11_layTours 107 = .ok (.iload 4, 2) := by decide +kernel
theorem dX11_layTours_109 : decode cX11_layTours 109 = .ok (.iaload, 1) := by decide +kernel
theorem dX11_layTours_110 : decode cX11_layTours 110 = .ok (.aload_n 0, 1) := by decide +kernel
theorem dX11_layTours_111 : decode cX11_layTours 111 = .ok (.getfield 51, 3) := by decide +kernel
theorem dX11_layTours_114 : decode cX11_layTours 114 = .ok (.iload 4, 2) := by decide +kernel
theorem dX11_layTours_116 : decode cX11_layTours 116 = .ok (.iaload, 1) := by decide +kernel
theorem dX11_layTours_117 : decode cX11_layTours 117 = .ok (.invokevirtual 123, 3) := by decide +kernel
theorem dX11_layTours_120 : decode cX11_layTours 120 = .ok (.istore 5, 2) := by decide +kernel
theorem dX11_layTours_122 : decode cX11_layTours 122 = .ok (.aload_n 0, 1) := by decide +kernel
theorem dX11_layTours_123 : decode cX11_layTours 123 = .ok (.getfield 51, 3) := by decide +kernel
theorem dX11_layTours_126 : decode cX11_layTours 126 = .ok (.iload 4, 2) := by decide +kernel
theorem dX11_layTours_128 : decode cX11_layTours 128 = .ok (.iaload, 1) := by decide +kernel
theorem dX11_layTours_129 : decode cX11_layTours 129 = .ok (.iconst 3, 1) := by decide +kernel
theorem dX11_layTours_130 : decode cX11_layTours 130 = .ok (.if_icmp .gt 12, 3) := by decide +kernel
theorem dX11_layTours_133 : decode cX11_layTours 133 = .ok (.iload 4, 2) := by decide +kernel
theorem dX11_layTours_135 : decode cX11_layTours 135 = .ok (.aload_n 0, 1) := by decide +kernel
theorem dX11_layTours_136 : decode cX11_layTours 136 = .ok (.getfield 162, 3) := by decide +kernel
theorem dX11_layTours_139 : decode cX11_layTours 139 = .ok (.if_icmp .ne 26, 3) := by decide +kernel
theorem dX11_layTours_142 : decode cX11_layTours 142 = .ok (.iload_n 3, 1) := by decide +kernel
theorem dX11_layTours_143 : decode cX11_layTours 143 = .ok (.iconst 1, 1) := by decide +kernel
theorem dX11_layTours_144 : decode cX11_layTours 144 = .ok (.aload_n 0, 1) := by decide +kernel
theorem dX11_layTours_145 : decode cX11_layTours 145 = .ok (.getfield 48, 3) := by decide +kernel
theorem dX11_layTours_148 : decode cX11_layTours 148 = .ok (.iload 4, 2) := by decide +kernel
theorem dX11_layTours_150 : decode cX11_layTours 150 = .ok (.iaload, 1) := by decide +kernel
theorem dX11_layTours_151 : decode cX11_layTours 151 = .ok (.bipush 24, 2) := by decide +kernel
theorem dX11_layTours_153 : decode cX11_layTours 153 = .ok (.idiv, 1) := by decide +kernel
theorem dX11_layTours_154 : decode cX11_layTours 154 = .ok (.ishl, 1) := by decide +kernel
theorem dX11_layTours_155 : decode cX11_layTours 155 = .ok (.iconst (-1), 1) := by decide +kernel
theorem dX11_layTours_156 : decode cX11_layTours 156 = .ok (.ixor, 1) := by decide +kernel
theorem dX11_layTours_157 : decode cX11_layTours 157 = .ok (.iand, 1) := by decide +kernel
theorem dX11_layTours_158 : decode cX11_layTours 158 = .ok (.istore_n 3, 1) := by decide +kernel
theorem dX11_layTours_159 : decode cX11_layTours 159 = .ok (.iinc 4 (-1), 3) := by decide +kernel
theorem dX11_layTours_162 : decode cX11_layTours 162 = .ok (.goto 52, 3) := by decide +kernel
theorem dX11_layTours_165 : decode cX11_layTours 165 = .ok (.iload 5, 2) := by decide +kernel
theorem dX11_layTours_167 : decode cX11_layTours 167 = .ok (.bipush (-9), 2) := by decide +kernel
theorem dX11_layTours_169 : decode cX11_layTours 169 = .ok (.if_icmp .eq 45, 3) := by decide +kernel
theorem dX11_layTours_172 : decode cX11_layTours 172 = .ok (.iload_n 3, 1) := by decide +kernel
theorem dX11_layTours_173 : decode cX11_layTours 173 = .ok (.iload 5, 2) := by decide +kernel
theorem dX11_layTours_175 : decode cX11_layTours 175 = .ok (.bipush 24, 2) := by decide +kernel
theorem dX11_layTours_177 : decode cX11_layTours 177 = .ok (.idiv, 1) := by decide +kernel
theorem dX11_layTours_178 : decode cX11_layTours 178 = .ok (.ishr, 1) := by decide +kernel
theorem dX11_layTours_179 : decode cX11_layTours 179 = .ok (.iconst 1, 1) := by decide +kernel
theorem dX11_layTours_180 : decode cX11_layTours 180 = .ok (.iand, 1) := by decide +kernel
theorem dX11_layTours_181 : decode cX11_layTours 181 = .ok (.ifCond .ne 33, 3) := by decide +kernel
theorem dX11_layTours_184 : decode cX11_layTours 184 = .ok (.iinc 4 1, 3) := by decide +kernel
theorem dX11_layTours_187 : decode cX11_layTours 187 = .ok (.aload_n 0, 1) := by decide +kernel
theorem dX11_layTours_188 : decode cX11_layTours 188 = .ok (.getfield 48, 3) := by decide +kernel
theorem dX11_layTours_191 : decode cX11_layTours 191 = .ok (.iload 4, 2) := by decide +kernel
theorem dX11_layTours_193 : decode cX11_layTours 193 = .ok (.iload 5, 2) := by decide +kernel
theorem dX11_layTours_195 : decode cX11_layTours 195 = .ok (.iastore, 1) := by decide +kernel
theorem dX11_layTours_196 : decode cX11_layTours 196 = .ok (.aload_n 0, 1) := by decide +kernel
theorem dX11_layTours_197 : decode cX11_layTours 197 = .ok (.getfield 51, 3) := by decide +kernel
theorem dX11_layTours_200 : decode cX11_layTours 200 = .ok (.iload 4, 2) := by decide +kernel
theorem dX11_layTours_202 : decode cX11_layTours 202 = .ok (.iconst (-1), 1) := by decide +kernel
theorem dX11_layTours_203 : decode cX11_layTours 203 = .ok (.iastore, 1) := by decide +kernel
theorem dX11_layTours_204 : decode cX11_layTours 204 = .ok (.iload_n 3, 1) := by decide +kernel
theorem dX11_layTours_205 : decode cX11_layTours 205 = .ok (.iconst 1, 1) := by decide +kernel
theorem dX11_layTours_206 : decode cX11_layTours 206 = .ok (.iload 5, 2) := by decide +kernel
theorem dX11_layTours_208 : decode cX11_layTours 208 = .ok (.bipush 24, 2) := by decide +kernel
theorem dX11_layTours_210 : decode cX11_layTours 210 = .ok (.idiv, 1) := by decide +kernel
theorem dX11_layTours_211 : decode cX11_layTours 211 = .ok (.ishl, 1) := by decide +kernel
theorem dX11_layTours_212 : decode cX11_layTours 212 = .ok (.ior, 1) := by decide +kernel
theorem dX11_layTours_213 : decode cX11_layTours 213 = .ok (.istore_n 3, 1) := by decide +kernel
theorem dX11_layTours_214 : decode cX11_layTours 214 = .ok (.goto (-171), 3) := by decide +kernel
theorem dX11_layTours_217 : decode cX11_layTours 217 = .ok (.return_, 1) := by decide +kernel
theorem dX11_endTour_0 : decode cX11_endTour 0 = .ok (.iload_n 2, 1) := by decide +kernel
theorem dX11_endTour_1 : decode cX11_endTour 1 = .ok (.ifCond .le 22, 3) := by decide +kernel
theorem dX11_endTour_4 : decode cX11_endTour 4 = .ok (.aload_n 0, 1) := by decide +kernel
theorem dX11_endTour_5 : decode cX11_endTour 5 = .ok (.getfield 7, 3) := by decide +kernel
theorem dX11_endTour_8 : decode cX11_endTour 8 = .ok (.aload_n 0, 1) := by decide +kernel
theorem dX11_endTour_9 : decode cX11_endTour 9 = .ok (.getfield 48, 3) := by decide +kernel
theorem dX11_endTour_12 : decode cX11_endTour 12 = .ok (.iload_n 1, 1) := by decide +kernel
theorem dX11_endTour_13 : decode cX11_endTour 13 = .ok (.iaload, 1) := by decide +kernel
theorem dX11_endTour_14 : decode cX11_endTour 14 = .ok (.bipush 24, 2) := by decide +kernel
theorem dX11_endTour_16 : decode cX11_endTour 16 = .ok (.irem, 1) := by decide +kernel
theorem dX11_endTour_17 : decode cX11_endTour 17 = .ok (.iaload, 1) := by decide +kernel
theorem dX11_endTour_18 : decode cX11_endTour 18 = .ok (.iload_n 2, 1) := by decide +kernel
theorem dX11_endTour_19 : decode cX11_endTour 19 = .ok (.if_icmp .eq 4, 3) := by decide +kernel
theorem dX11_endTour_22 : decode cX11_endTour 22 = .ok (.return_, 1) := by decide +kernel
theorem dX11_endTour_23 : decode cX11_endTour 23 = .ok (.iconst 0, 1) := by decide +kernel
theorem dX11_endTour_24 : decode cX11_endTour 24 = .ok (.istore_n 3, 1) := by decide +kernel
theorem dX11_endTour_25 : decode cX11_endTour 25 = .ok (.iload_n 3, 1) := by decide +kernel
theorem dX11_endTour_26 : decode cX11_endTour 26 = .ok (.iload_n 1, 1) := by decide +kernel
theorem dX11_endTour_27 : decode cX11_endTour 27 = .ok (.if_icmp .ge 28, 3) := by decide +kernel
theorem dX11_endTour_30 : decode cX11_endTour 30 = .ok (.aload_n 0, 1) := by decide +kernel
theorem dX11_endTour_31 : decode cX11_endTour 31 = .ok (.getfield 159, 3) := by decide +kernel
theorem dX11_endTour_34 : decode cX11_endTour 34 = .ok (.ifCond .ne 21, 3) := by decide +kernel
theorem dX11_endTour_37 : decode cX11_endTour 37 = .ok (.aload_n 0, 1) := by decide +kernel
theorem dX11_endTour_38 : decode cX11_endTour 38 = .ok (.getfield 54, 3) := by decide +kernel
theorem dX11_endTour_41 : decode cX11_endTour 41 = .ok (.iload_n 3, 1) := by decide +kernel
theorem dX11_endTour_42 : decode cX11_endTour 42 = .ok (.aload_n 0, 1) := by decide +kernel
theorem dX11_endTour_43 : decode cX11_endTour 43 = .ok (.getfield 51, 3) := by decide +kernel
theorem dX11_endTour_46 : decode cX11_endTour 46 = .ok (.iload_n 3, 1) := by decide +kernel
theorem dX11_endTour_47 : decode cX11_endTour 47 = .ok (.iaload, 1) := by decide +kernel
theorem dX11_endTour_48 : decode cX11_endTour 48 = .ok (.iastore, 1) := by decide +kernel
theorem dX11_endTour_49 : decode cX11_endTour 49 = .ok (.iinc 3 1, 3) := by decide +kernel
theorem dX11_endTour_52 : decode cX11_endTour 52 = .ok (.goto (-27), 3) := by decide +kernel
theorem dX11_endTour_55 : decode cX11_endTour 55 = .ok (.aload_n 0, 1) := by decide +kernel
theorem dX11_endTour_56 : decode cX11_endTour 56 = .ok (.dup, 1) := by decide +kernel
theorem dX11_endTour_57 : decode cX11_endTour 57 = .ok (.getfield 159, 3) := by decide +kernel
theorem dX11_endTour_60 : decode cX11_endTour 60 = .ok (.iconst 1, 1) := by decide +kernel
theorem dX11_endTour_61 : decode cX11_endTour 61 = .ok (.iadd, 1) := by decide +kernel
theorem dX11_endTour_62 : decode cX11_endTour 62 = .ok (.putfield 159, 3) := by decide +kernel
theorem dX11_endTour_65 : decode cX11_endTour 65 = .ok (.return_, 1) := by decide +kernel
theorem dX11_tours_0 : decode cX11_tours 0 = .ok (.aload_n 0, 1) := by decide +kernel
theorem dX11_tours_1 : decode cX11_tours 1 = .ok (.iload_n 1, 1) := by decide +kernel
theorem dX11_tours_2 : decode cX11_tours 2 = .ok (.iload_n 2, 1) := by decide +kernel
theorem dX11_tours_3 : decode cX11_tours 3 = .ok (.iload_n 3, 1) := by decide +kernel
theorem dX11_tours_4 : decode cX11_tours 4 = .ok (.invokevirtual 168, 3) := by decide +kernel
theorem dX11_tours_7 : decode cX11_tours 7 = .ok (.istore 4, 2) := by decide +kernel
theorem dX11_tours_9 : decode cX11_tours 9 = .ok (.iload 4, 2) := by decide +kernel
theorem dX11_tours_11 : decode cX11_tours 11 = .ok (.ifCond .ge 6, 3) := by decide +kernel
theorem dX11_tours_14 : decode cX11_tours 14 = .ok (.iload 4, 2) := by decide +kernel
theorem dX11_tours_16 : decode cX11_tours 16 = .ok (.ireturn, 1) := by decide +kernel
theorem dX11_tours_17 : decode cX11_tours 17 = .ok (.aload_n 0, 1) := by decide +kernel
theorem dX11_tours_18 : decode cX11_tours 18 = .ok (.bipush 24, 2) := by decide +kernel
theorem dX11_tours_20 : decode cX11_tours 20 = .ok (.iload_n 1, 1) := by decide +kernel
theorem dX11_tours_21 : decode cX11_tours 21 = .ok (.imul, 1) := by decide +kernel
theorem dX11_tours_22 : decode cX11_tours 22 = .ok (.iload_n 2, 1) := by decide +kernel
theorem dX11_tours_23 : decode cX11_tours 23 = .ok (.iadd, 1) := by decide +kernel
theorem dX11_tours_24 : decode cX11_tours 24 = .ok (.iload_n 3, 1) := by decide +kernel
theorem dX11_tours_25 : decode cX11_tours 25 = .ok (.invokevirtual 172, 3) := by decide +kernel
theorem dX11_tours_28 : decode cX11_tours 28 = .ok (.aload_n 0, 1) := by decide +kernel
theorem dX11_tours_29 : decode cX11_tours 29 = .ok (.getfield 159, 3) := by decide +kernel
theorem dX11_tours_32 : decode cX11_tours 32 = .ok (.ireturn, 1) := by decide +kernel
theorem dX11_tour_0 : decode cX11_tour 0 = .ok (.aload_n 0, 1) := by decide +kernel
theorem dX11_tour_1 : decode cX11_tour 1 = .ok (.iload_n 1, 1) := by decide +kernel
theorem dX11_tour_2 : decode cX11_tour 2 = .ok (.iload_n 2, 1) := by decide +kernel
theorem dX11_tour_3 : decode cX11_tour 3 = .ok (.iload_n 3, 1) := by decide +kernel
theorem dX11_tour_4 : decode cX11_tour 4 = .ok (.invokevirtual 168, 3) := by decide +kernel
theorem dX11_tour_7 : decode cX11_tour 7 = .ok (.istore 5, 2) := by decide +kernel
theorem dX11_tour_9 : decode cX11_tour 9 = .ok (.iload 5, 2) := by decide +kernel
theorem dX11_tour_11 : decode cX11_tour 11 = .ok (.ifCond .ge 6, 3) := by decide +kernel
theorem dX11_tour_14 : decode cX11_tour 14 = .ok (.iload 5, 2) := by decide +kernel
theorem dX11_tour_16 : decode cX11_tour 16 = .ok (.ireturn, 1) := by decide +kernel
theorem dX11_tour_17 : decode cX11_tour 17 = .ok (.aload_n 0, 1) := by decide +kernel
theorem dX11_tour_18 : decode cX11_tour 18 = .ok (.bipush 24, 2) := by decide +kernel
theorem dX11_tour_20 : decode cX11_tour 20 = .ok (.iload_n 1, 1) := by decide +kernel
theorem dX11_tour_21 : decode cX11_tour 21 = .ok (.imul, 1) := by decide +kernel
theorem dX11_tour_22 : decode cX11_tour 22 = .ok (.iload_n 2, 1) := by decide +kernel
theorem dX11_tour_23 : decode cX11_tour 23 = .ok (.iadd, 1) := by decide +kernel
theorem dX11_tour_24 : decode cX11_tour 24 = .ok (.iload_n 3, 1) := by decide +kernel
theorem dX11_tour_25 : decode cX11_tour 25 = .ok (.invokevirtual 172, 3) := by decide +kernel
theorem dX11_tour_28 : decode cX11_tour 28 = .ok (.aload_n 0, 1) := by decide +kernel
theorem dX11_tour_29 : decode cX11_tour 29 = .ok (.getfield 159, 3) := by decide +kernel
theorem dX11_tour_32 : decode cX11_tour 32 = .ok (.ifCond .le 30, 3) := by decide +kernel
theorem dX11_tour_35 : decode cX11_tour 35 = .ok (.iload 4, 2) := by decide +kernel
theorem dX11_tour_37 : decode cX11_tour 37 = .ok (.i2l, 1) := by decide +kernel
theorem dX11_tour_38 : decode cX11_tour 38 = .ok (.lconst 0, 1) := by decide +kernel
theorem dX11_tour_39 : decode cX11_tour 39 = .ok (.aload_n 0, 1) := by decide +kernel
theorem dX11_tour_40 : decode cX11_tour 40 = .ok (.getfield 162, 3) := by decide +kernel
theorem dX11_tour_43 : decode cX11_tour 43 = .ok (.iconst 1, 1) := by decide +kernel
theorem dX11_tour_44 : decode cX11_tour 44 = .ok (.isub, 1) := by decide +kernel
theorem dX11_tour_45 : decode cX11_tour 45 = .ok (.i2l, 1) := by decide +kernel
theorem dX11_tour_46 : decode cX11_tour 46 = .ok (.invokestatic 84, 3) := by decide +kernel
theorem dX11_tour_49 : decode cX11_tour 49 = .ok (.ifCond .eq 13, 3) := by decide +kernel
theorem dX11_tour_52 : decode cX11_tour 52 = .ok (.aload_n 0, 1) := by decide +kernel
theorem dX11_tour_53 : decode cX11_tour 53 = .ok (.getfield 54, 3) := by decide +kernel
theorem dX11_tour_56 : decode cX11_tour 56 = .ok (.iload 4, 2) := by decide +kernel
theorem dX11_tour_58 : decode cX11_tour 58 = .ok (.iaload, 1) := by decide +kernel
theorem dX11_tour_59 : decode cX11_tour 59 = .ok (.goto 5, 3) := by decide +kernel
theorem dX11_tour_62 : decode cX11_tour 62 = .ok (.bipush (-9), 2) := by decide +kernel
theorem dX11_tour_64 : decode cX11_tour 64 = .ok (.ireturn, 1) := by decide +kernel
theorem dX11_row_0 : decode cX11_row 0 = .ok (.iload_n 1, 1) := by decide +kernel
theorem dX11_row_1 : decode cX11_row 1 = .ok (.invokestatic 94, 3) := by decide +kernel
theorem dX11_row_4 : decode cX11_row 4 = .ok (.ifCond .eq 15, 3) := by decide +kernel
theorem dX11_row_7 : decode cX11_row 7 = .ok (.iload_n 2, 1) := by decide +kernel
theorem dX11_row_8 : decode cX11_row 8 = .ok (.i2l, 1) := by decide +kernel
theorem dX11_row_9 : decode cX11_row 9 = .ok (.lconst 0, 1) := by decide +kernel
theorem dX11_row_10 : decode cX11_row 10 = .ok (.ldc2_w 97, 3) := by decide +kernel
theorem dX11_row_13 : decode cX11_row 13 = .ok (.invokestatic 84, 3) := by decide +kernel
theorem dX11_row_16 : decode cX11_row 16 = .ok (.ifCond .ne 6, 3) := by decide +kernel
theorem dX11_row_19 : decode cX11_row 19 = .ok (.bipush (-2), 2) := by decide +kernel
theorem dX11_row_21 : decode cX11_row 21 = .ok (.ireturn, 1) := by decide +kernel
theorem dX11_row_22 : decode cX11_row 22 = .ok (.aload_n 0, 1) := by decide +kernel
theorem dX11_row_23 : decode cX11_row 23 = .ok (.getfield 175, 3) := by decide +kernel
theorem dX11_row_26 : decode cX11_row 26 = .ok (.bipush 20, 2) := by decide +kernel
theorem dX11_row_28 : decode cX11_row 28 = .ok (.if_icmp .ne 6, 3) := by decide +kernel
theorem dX11_row_31 : decode cX11_row 31 = .ok (.bipush (-4), 2) := by decide +kernel
theorem dX11_row_33 : decode cX11_row 33 = .ok (.ireturn, 1) := by decide +kernel
theorem dX11_row_34 : decode cX11_row 34 = .ok (.aload_n 0, 1) := by decide +kernel
theorem dX11_row_35 : decode cX11_row 35 = .ok (.getfield 57, 3) := by decide +kernel
theorem dX11_row_38 : decode cX11_row 38 = .ok (.aload_n 0, 1) := by decide +kernel
theorem dX11_row_39 : decode cX11_row 39 = .ok (.getfield 175, 3) := by decide +kernel
theorem dX11_row_42 : decode cX11_row 42 = .ok (.iload_n 1, 1) := by decide +kernel
theorem dX11_row_43 : decode cX11_row 43 = .ok (.iastore, 1) := by decide +kernel
theorem dX11_row_44 : decode cX11_row 44 = .ok (.aload_n 0, 1) := by decide +kernel
theorem dX11_row_45 : decode cX11_row 45 = .ok (.getfield 60, 3) := by decide +kernel
theorem dX11_row_48 : decode cX11_row 48 = .ok (.aload_n 0, 1) := by decide +kernel
theorem dX11_row_49 : decode cX11_row 49 = .ok (.getfield 175, 3) := by decide +kernel
theorem dX11_row_52 : decode cX11_row 52 = .ok (.iload_n 2, 1) := by decide +kernel
theorem dX11_row_53 : decode cX11_row 53 = .ok (.iastore, 1) := by decide +kernel
theorem dX11_row_54 : decode cX11_row 54 = .ok (.aload_n 0, 1) := by decide +kernel
theorem dX11_row_55 : decode cX11_row 55 = .ok (.dup, 1) := by decide +kernel
theorem dX11_row_56 : decode cX11_row 56 = .ok (.getfield 175, 3) := by decide +kernel
theorem dX11_row_59 : decode cX11_row 59 = .ok (.iconst 1, 1) := by decide +kernel
theorem dX11_row_60 : decode cX11_row 60 = .ok (.iadd, 1) := by decide +kernel
theorem dX11_row_61 : decode cX11_row 61 = .ok (.putfield 175, 3) := by decide +kernel
theorem dX11_row_64 : decode cX11_row 64 = .ok (.aload_n 0, 1) := by decide +kernel
theorem dX11_row_65 : decode cX11_row 65 = .ok (.getfield 175, 3) := by decide +kernel
theorem dX11_row_68 : decode cX11_row 68 = .ok (.ireturn, 1) := by decide +kernel
theorem dX11_clear_0 : decode cX11_clear 0 = .ok (.aload_n 0, 1) := by decide +kernel
theorem dX11_clear_1 : decode cX11_clear 1 = .ok (.getfield 175, 3) := by decide +kernel
theorem dX11_clear_4 : decode cX11_clear 4 = .ok (.istore_n 1, 1) := by decide +kernel
theorem dX11_clear_5 : decode cX11_clear 5 = .ok (.aload_n 0, 1) := by decide +kernel
theorem dX11_clear_6 : decode cX11_clear 6 = .ok (.iconst 0, 1) := by decide +kernel
theorem dX11_clear_7 : decode cX11_clear 7 = .ok (.putfield 175, 3) := by decide +kernel
theorem dX11_clear_10 : decode cX11_clear 10 = .ok (.iload_n 1, 1) := by decide +kernel
theorem dX11_clear_11 : decode cX11_clear 11 = .ok (.ireturn, 1) := by decide +kernel
theorem dX11_behind_0 : decode cX11_behind 0 = .ok (.iload_n 1, 1) := by decide +kernel
theorem dX11_behind_1 : decode cX11_behind 1 = .ok (.istore_n 2, 1) := by decide +kernel
theorem dX11_behind_2 : decode cX11_behind 2 = .ok (.iconst 0, 1) := by decide +kernel
theorem dX11_behind_3 : decode cX11_behind 3 = .ok (.istore_n 3, 1) := by decide +kernel
theorem dX11_behind_4 : decode cX11_behind 4 = .ok (.iload_n 3, 1) := by decide +kernel
theorem dX11_behind_5 : decode cX11_behind 5 = .ok (.aload_n 0, 1) := by decide +kernel
theorem dX11_behind_6 : decode cX11_behind 6 = .ok (.getfield 175, 3) := by decide +kernel
theorem dX11_behind_9 : decode cX11_behind 9 = .ok (.if_icmp .ge 63, 3) := by decide +kernel
theorem dX11_behind_12 : decode cX11_behind 12 = .ok (.iload_n 2, 1) := by decide +kernel
theorem dX11_behind_13 : decode cX11_behind 13 = .ok (.bipush (-9), 2) := by decide +kernel
theorem dX11_behind_15 : decode cX11_behind 15 = .ok (.if_icmp .eq 57, 3) := by decide +kernel
theorem dX11_behind_18 : decode cX11_behind 18 = .ok (.aload_n 0, 1) := by decide +kernel
theorem dX11_behind_19 : decode cX11_behind 19 = .ok (.iload_n 2, 1) := by decide +kernel
theorem dX11_behind_20 : decode cX11_behind 20 = .ok (.aload_n 0, 1) := by decide +kernel
theorem dX11_behind_21 : decode cX11_behind 21 = .ok (.getfield 57, 3) := by decide +kernel
theorem dX11_behind_24 : decode cX11_behind 24 = .ok (.iload_n 3, 1) := by decide +kernel
theorem dX11_behind_25 : decode cX11_behind 25 = .ok (.iaload, 1) := by decide +kernel
theorem dX11_behind_26 : decode cX11_behind 26 = .ok (.invokevirtual 123, 3) := by decide +kernel
theorem dX11_behind_29 : decode cX11_behind 29 = .ok (.istore_n 2, 1) := by decide +kernel
theorem dX11_behind_30 : decode cX11_behind 30 = .ok (.iload_n 2, 1) := by decide +kernel
theorem dX11_behind_31 : decode cX11_behind 31 = .ok (.bipush (-9), 2) := by decide +kernel
theorem dX11_behind_33 : decode cX11_behind 33 = .ok (.if_icmp .eq 26, 3) := by decide +kernel
theorem dX11_behind_36 : decode cX11_behind 36 = .ok (.aload_n 0, 1) := by decide +kernel
theorem dX11_behind_37 : decode cX11_behind 37 = .ok (.getfield 60, 3) := by decide +kernel
theorem dX11_behind_40 : decode cX11_behind 40 = .ok (.iload_n 3, 1) := by decide +kernel
theorem dX11_behind_41 : decode cX11_behind 41 = .ok (.iaload, 1) := by decide +kernel
theorem dX11_behind_42 : decode cX11_behind 42 = .ok (.ifCond .eq 17, 3) := by decide +kernel
theorem dX11_behind_45 : decode cX11_behind 45 = .ok (.aload_n 0, 1) := by decide +kernel
theorem dX11_behind_46 : decode cX11_behind 46 = .ok (.getfield 60, 3) := by decide +kernel
theorem dX11_behind_49 : decode cX11_behind 49 = .ok (.iload_n 3, 1) := by decide +kernel
theorem dX11_behind_50 : decode cX11_behind 50 = .ok (.iaload, 1) := by decide +kernel
theorem dX11_behind_51 : decode cX11_behind 51 = .ok (.aload_n 0, 1) := by decide +kernel
theorem dX11_behind_52 : decode cX11_behind 52 = .ok (.iload_n 2, 1) := by decide +kernel
theorem dX11_behind_53 : decode cX11_behind 53 = .ok (.invokevirtual 152, 3) := by decide +kernel
theorem dX11_behind_56 : decode cX11_behind 56 = .ok (.if_icmp .ne 7, 3) := by decide +kernel
theorem dX11_behind_59 : decode cX11_behind 59 = .ok (.iload_n 2, 1) := by decide +kernel
theorem dX11_behind_60 : decode cX11_behind 60 = .ok (.goto 5, 3) := by decide +kernel
theorem dX11_behind_63 : decode cX11_behind 63 = .ok (.bipush (-9), 2) := by decide +kernel
theorem dX11_behind_65 : decode cX11_behind 65 = .ok (.istore_n 2, 1) := by decide +kernel
theorem dX11_behind_66 : decode cX11_behind 66 = .ok (.iinc 3 1, 3) := by decide +kernel
theorem dX11_behind_69 : decode cX11_behind 69 = .ok (.goto (-65), 3) := by decide +kernel
theorem dX11_behind_72 : decode cX11_behind 72 = .ok (.iload_n 2, 1) := by decide +kernel
theorem dX11_behind_73 : decode cX11_behind 73 = .ok (.ireturn, 1) := by decide +kernel
theorem dX11_starts_0 : decode cX11_starts 0 = .ok (.iconst 0, 1) := by decide +kernel
theorem dX11_starts_1 : decode cX11_starts 1 = .ok (.istore_n 1, 1) := by decide +kernel
theorem dX11_starts_2 : decode cX11_starts 2 = .ok (.iconst 0, 1) := by decide +kernel
theorem dX11_starts_3 : decode cX11_starts 3 = .ok (.istore_n 2, 1) := by decide +kernel
theorem dX11_starts_4 : decode cX11_starts 4 = .ok (.iload_n 2, 1) := by decide +kernel
theorem dX11_starts_5 : decode cX11_starts 5 = .ok (.bipush 24, 2) := by decide +kernel
theorem dX11_starts_7 : decode cX11_starts 7 = .ok (.aload_n 0, 1) := by decide +kernel
theorem dX11_starts_8 : decode cX11_starts 8 = .ok (.invokevirtual 100, 3) := by decide +kernel
theorem dX11_starts_11 : decode cX11_starts 11 = .ok (.imul, 1) := by decide +kernel
theorem dX11_starts_12 : decode cX11_starts 12 = .ok (.if_icmp .ge 27, 3) := by decide +kernel
theorem dX11_starts_15 : decode cX11_starts 15 = .ok (.iload_n 1, 1) := by decide +kernel
theorem dX11_starts_16 : decode cX11_starts 16 = .ok (.aload_n 0, 1) := by decide +kernel
theorem dX11_starts_17 : decode cX11_starts 17 = .ok (.iload_n 2, 1) := by decide +kernel
theorem dX11_starts_18 : decode cX11_starts 18 = .ok (.invokevirtual 178, 3) := by decide +kernel
theorem dX11_starts_21 : decode cX11_starts 21 = .ok (.bipush (-9), 2) := by decide +kernel
theorem dX11_starts_23 : decode cX11_starts 23 = .ok (.if_icmp .ne 7, 3) := by decide +kernel
theorem dX11_starts_26 : decode cX11_starts 26 = .ok (.iconst 0, 1) := by decide +kernel
theorem dX11_starts_27 : decode cX11_starts 27 = .ok (.goto 4, 3) := by decide +kernel
theorem dX11_starts_30 : decode cX11_starts 30 = .ok (.iconst 1, 1) := by decide +kernel
theorem dX11_starts_31 : decode cX11_starts 31 = .ok (.iadd, 1) := by decide +kernel
theorem dX11_starts_32 : decode cX11_starts 32 = .ok (.istore_n 1, 1) := by decide +kernel
theorem dX11_starts_33 : decode cX11_starts 33 = .ok (.iinc 2 1, 3) := by decide +kernel
theorem dX11_starts_36 : decode cX11_starts 36 = .ok (.goto (-32), 3) := by decide +kernel
theorem dX11_starts_39 : decode cX11_starts 39 = .ok (.iload_n 1, 1) := by decide +kernel
theorem dX11_starts_40 : decode cX11_starts 40 = .ok (.ireturn, 1) := by decide +kernel
theorem dX11_start_0 : decode cX11_start 0 = .ok (.iconst 0, 1) := by decide +kernel
theorem dX11_start_1 : decode cX11_start 1 = .ok (.istore_n 2, 1) := by decide +kernel
theorem dX11_start_2 : decode cX11_start 2 = .ok (.iconst 0, 1) := by decide +kernel
theorem dX11_start_3 : decode cX11_start 3 = .ok (.istore_n 3, 1) := by decide +kernel
theorem dX11_start_4 : decode cX11_start 4 = .ok (.iload_n 3, 1) := by decide +kernel
theorem dX11_start_5 : decode cX11_start 5 = .ok (.bipush 24, 2) := by decide +kernel
theorem dX11_start_7 : decode cX11_start 7 = .ok (.aload_n 0, 1) := by decide +kernel
theorem dX11_start_8 : decode cX11_start 8 = .ok (.invokevirtual 100, 3) := by decide +kernel
theorem dX11_start_11 : decode cX11_start 11 = .ok (.imul, 1) := by decide +kernel
theorem dX11_start_12 : decode cX11_start 12 = .ok (.if_icmp .ge 29, 3) := by decide +kernel
theorem dX11_start_15 : decode cX11_start 15 = .ok (.aload_n 0, 1) := by decide +kernel
theorem dX11_start_16 : decode cX11_start 16 = .ok (.iload_n 3, 1) := by decide +kernel
theorem dX11_start_17 : decode cX11_start 17 = .ok (.invokevirtual 178, 3) := by decide +kernel
theorem dX11_start_20 : decode cX11_start 20 = .ok (.bipush (-9), 2) := by decide +kernel
theorem dX11_start_22 : decode cX11_start 22 = .ok (.if_icmp .eq 13, 3) := by decide +kernel
theorem dX11_start_25 : decode cX11_start 25 = .ok (.iload_n 2, 1) := by decide +kernel
theorem dX11_start_26 : decode cX11_start 26 = .ok (.iload_n 1, 1) := by decide +kernel
theorem dX11_start_27 : decode cX11_start 27 = .ok (.if_icmp .ne 5, 3) := by decide +kernel
theorem dX11_start_30 : decode cX11_start 30 = .ok (.iload_n 3, 1) := by decide +kernel
theorem dX11_start_31 : decode cX11_start 31 = .ok (.ireturn, 1) := by decide +kernel
theorem dX11_start_32 : decode cX11_start 32 = .ok (.iinc 2 1, 3) := by decide +kernel
theorem dX11_start_35 : decode cX11_start 35 = .ok (.iinc 3 1, 3) := by decide +kernel
theorem dX11_start_38 : decode cX11_start 38 = .ok (.goto (-34), 3) := by decide +kernel
theorem dX11_start_41 : decode cX11_start 41 = .ok (.bipush (-9), 2) := by decide +kernel
theorem dX11_start_43 : decode cX11_start 43 = .ok (.ireturn, 1) := by decide +kernel
theorem dX11_sure_0 : decode cX11_sure 0 = .ok (.iload_n 1, 1) := by decide +kernel
theorem dX11_sure_1 : decode cX11_sure 1 = .ok (.i2l, 1) := by decide +kernel
theorem dX11_sure_2 : decode cX11_sure 2 = .ok (.lconst 0, 1) := by decide +kernel
theorem dX11_sure_3 : decode cX11_sure 3 = .ok (.ldc2_w 104, 3) := by decide +kernel
theorem dX11_sure_6 : decode cX11_sure 6 = .ok (.invokestatic 84, 3) := by decide +kernel
theorem dX11_sure_9 : decode cX11_sure 9 = .ok (.ifCond .ne 6, 3) := by decide +kernel
theorem dX11_sure_12 : decode cX11_sure 12 = .ok (.bipush (-2), 2) := by decide +kernel
theorem dX11_sure_14 : decode cX11_sure 14 = .ok (.ireturn, 1) := by decide +kernel
theorem dX11_sure_15 : decode cX11_sure 15 = .ok (.bipush (-9), 2) := by decide +kernel
theorem dX11_sure_17 : decode cX11_sure 17 = .ok (.istore_n 2, 1) := by decide +kernel
theorem dX11_sure_18 : decode cX11_sure 18 = .ok (.iconst 1, 1) := by decide +kernel
theorem dX11_sure_19 : decode cX11_sure 19 = .ok (.istore_n 3, 1) := by decide +kernel
theorem dX11_sure_20 : decode cX11_sure 20 = .ok (.iconst 0, 1) := by decide +kernel
theorem dX11_sure_21 : decode cX11_sure 21 = .ok (.istore 4, 2) := by decide +kernel
theorem dX11_sure_23 : decode cX11_sure 23 = .ok (.iload 4, 2) := by decide +kernel
theorem dX11_sure_25 : decode cX11_sure 25 = .ok (.bipush 24, 2) := by decide +kernel
theorem dX11_sure_27 : decode cX11_sure 27 = .ok (.aload_n 0, 1) := by decide +kernel
theorem dX11_sure_28 : decode cX11_sure 28 = .ok (.invokevirtual 100, 3) := by decide +kernel
theorem dX11_sure_31 : decode cX11_sure 31 = .ok (.imul, 1) := by decide +kernel
theorem dX11_sure_32 : decode cX11_sure 32 = .ok (.if_icmp .ge 86, 3) := by decide +kernel
theorem dX11_sure_35 : decode cX11_sure 35 = .ok (.aload_n 0, 1) := by decide +kernel
theorem dX11_sure_36 : decode cX11_sure 36 = .ok (.iload 4, 2) := by decide +kernel
theorem dX11_sure_38 : decode cX11_sure 38 = .ok (.invokevirtual 178, 3) := by decide +kernel
theorem dX11_sure_41 : decode cX11_sure 41 = .ok (.istore 5, 2) := by decide +kernel
theorem dX11_sure_43 : decode cX11_sure 43 = .ok (.iload 5, 2) := by decide +kernel
theorem dX11_sure_45 : decode cX11_sure 45 = .ok (.bipush (-9), 2) := by decide +kernel
theorem dX11_sure_47 : decode cX11_sure 47 = .ok (.if_icmp .eq 65, 3) := by decide +kernel
theorem dX11_sure_50 : decode cX11_sure 50 = .ok (.iload_n 1, 1) := by decide +kernel
theorem dX11_sure_51 : decode cX11_sure 51 = .ok (.ifCond .ne 11, 3) := by decide +kernel
theorem dX11_sure_54 : decode cX11_sure 54 = .ok (.iload 5, 2) := by decide +kernel
theorem dX11_sure_56 : decode cX11_sure 56 = .ok (.bipush 24, 2) := by decide +kernel
theorem dX11_sure_58 : decode cX11_sure 58 = .ok (.idiv, 1) := by decide +kernel
theorem dX11_sure_59 : decode cX11_sure 59 = .ok (.goto 26, 3) := by decide +kernel
theorem dX11_sure_62 : decode cX11_sure 62 = .ok (.iload_n 1, 1) := by decide +kernel
theorem dX11_sure_63 : decode cX11_sure 63 = .ok (.iconst 1, 1) := by decide +kernel
theorem dX11_sure_64 : decode cX11_sure 64 = .ok (.if_icmp .ne 16, 3) := by decide +kernel
theorem dX11_sure_67 : decode cX11_sure 67 = .ok (.aload_n 0, 1) := by decide +kernel
theorem dX11_sure_68 : decode cX11_sure 68 = .ok (.getfield 7, 3) := by decide +kernel
theorem dX11_sure_71 : decode cX11_sure 71 = .ok (.iload 5, 2) := by decide +kernel
theorem dX11_sure_73 : decode cX11_sure 73 = .ok (.bipush 24, 2) := by decide +kernel
theorem dX11_sure_75 : decode cX11_sure 75 = .ok (.irem, 1) := by decide +kernel
theorem dX11_sure_76 : decode cX11_sure 76 = .ok (.iaload, 1) := by decide +kernel
theorem dX11_sure_77 : decode cX11_sure 77 = .ok (.goto 8, 3) := by decide +kernel
theorem dX11_sure_80 : decode cX11_sure 80 = .ok (.iload 4, 2) := by decide +kernel
theorem dX11_sure_82 : decode cX11_sure 82 = .ok (.bipush 24, 2) := by decide +kernel
theorem dX11_sure_84 : decode cX11_sure 84 = .ok (.idiv, 1) := by decide +kernel
theorem dX11_sure_85 : decode cX11_sure 85 = .ok (.istore 6, 2) := by decide +kernel
theorem dX11_sure_87 : decode cX11_sure 87 = .ok (.iload_n 3, 1) := by decide +kernel
theorem dX11_sure_88 : decode cX11_sure 88 = .ok (.ifCond .eq 19, 3) := by decide +kernel
theorem dX11_sure_91 : decode cX11_sure 91 = .ok (.iload_n 2, 1) := by decide +kernel
theorem dX11_sure_92 : decode cX11_sure 92 = .ok (.bipush (-9), 2) := by decide +kernel
theorem dX11_sure_94 : decode cX11_sure 94 = .ok (.if_icmp .eq 9, 3) := by decide +kernel
theorem dX11_sure_97 : decode cX11_sure 97 = .ok (.iload_n 2, 1) := by decide +kernel
theorem dX11_sure_98 : decode cX11_sure 98 = .ok (.iload 6, 2) := by decide +kernel
theorem dX11_sure_100 : decode cX11_sure 100 = .ok (.if_icmp .ne 7, 3) := by decide +kernel
theorem dX11_sure_103 : decode cX11_sure 103 = .ok (.iconst 1, 1) := by decide +kernel
theorem dX11_sure_104 : decode cX11_sure 104 = .ok (.goto 4, 3) := by decide +kernel
theorem dX11_sure_107 : decode cX11_sure 107 = .ok (.iconst 0, 1) := by decide +kernel
theorem dX11_sure_108 : decode cX11_sure 108 = .ok (.istore_n 3, 1) := by decide +kernel
theorem dX11_sure_109 : decode cX11_sure 109 = .ok (.iload 6, 2) := by decide +kernel
theorem dX11_sure_111 : decode cX11_sure 111 = .ok (.istore_n 2, 1) := by decide +kernel
theorem dX11_sure_112 : decode cX11_sure 112 = .ok (.iinc 4 1, 3) := by decide +kernel
theorem dX11_sure_115 : decode cX11_sure 115 = .ok (.goto (-92), 3) := by decide +kernel
theorem dX11_sure_118 : decode cX11_sure 118 = .ok (.iload_n 3, 1) := by decide +kernel
theorem dX11_sure_119 : decode cX11_sure 119 = .ok (.ifCond .eq 7, 3) := by decide +kernel
theorem dX11_sure_122 : decode cX11_sure 122 = .ok (.iload_n 2, 1) := by decide +kernel
theorem dX11_sure_123 : decode cX11_sure 123 = .ok (.goto 5, 3) := by decide +kernel
theorem dX11_sure_126 : decode cX11_sure 126 = .ok (.bipush (-9), 2) := by decide +kernel
theorem dX11_sure_128 : decode cX11_sure 128 = .ok (.ireturn, 1) := by decide +kernel
theorem dX11_greatestBy_0 : decode cX11_greatestBy 0 = .ok (.iconst 0, 1) := by decide +kernel
theorem dX11_greatestBy_1 : decode cX11_greatestBy 1 = .ok (.istore_n 2, 1) := by decide +kernel
theorem dX11_greatestBy_2 : decode cX11_greatestBy 2 = .ok (.iload_n 2, 1) := by decide +kernel
theorem dX11_greatestBy_3 : decode cX11_greatestBy 3 = .ok (.bipush 7, 2) := by decide +kernel
theorem dX11_greatestBy_5 : decode cX11_greatestBy 5 = .ok (.if_icmp .ge 16, 3) := by decide +kernel
theorem dX11_greatestBy_8 : decode cX11_greatestBy 8 = .ok (.aload_n 0, 1) := by decide +kernel
theorem dX11_greatestBy_9 : decode cX11_greatestBy 9 = .ok (.getfield 63, 3) := by decide +kernel
theorem dX11_greatestBy_12 : decode cX11_greatestBy 12 = .ok (.iload_n 2, 1) := by decide +kernel
theorem dX11_greatestBy_13 : decode cX11_greatestBy 13 = .ok (.iconst 0, 1) := by decide +kernel
theorem dX11_greatestBy_14 : decode cX11_greatestBy 14 = .ok (.iastore, 1) := by decide +kernel
theorem dX11_greatestBy_15 : decode cX11_greatestBy 15 = .ok (.iinc 2 1, 3) := by decide +kernel
theorem dX11_greatestBy_18 : decode cX11_greatestBy 18 = .ok (.goto (-16), 3) := by decide +kernel
theorem dX11_greatestBy_21 : decode cX11_greatestBy 21 = .ok (.bipush (-9), 2) := by decide +kernel
theorem dX11_greatestBy_23 : decode cX11_greatestBy 23 = .ok (.istore_n 2, 1) := by decide +kernel
theorem dX11_greatestBy_24 : decode cX11_greatestBy 24 = .ok (.iconst 0, 1) := by decide +kernel
theorem dX11_greatestBy_25 : decode cX11_greatestBy 25 = .ok (.istore_n 3, 1) := by decide +kernel
theorem dX11_greatestBy_26 : decode cX11_greatestBy 26 = .ok (.iload_n 3, 1) := by decide +kernel
theorem dX11_greatestBy_27 : decode cX11_greatestBy 27 = .ok (.bipush 24, 2) := by decide +kernel
theorem dX11_greatestBy_29 : decode cX11_greatestBy 29 = .ok (.aload_n 0, 1) := by decide +kernel
theorem dX11_greatestBy_30 : decode cX11_greatestBy 30 = .ok (.invokevirtual 100, 3) := by decide +kernel
theorem dX11_greatestBy_33 : decode cX11_greatestBy 33 = .ok (.imul, 1) := by decide +kernel
theorem dX11_greatestBy_34 : decode cX11_greatestBy 34 = .ok (.if_icmp .ge 88, 3) := by decide +kernel
theorem dX11_greatestBy_37 : decode cX11_greatestBy 37 = .ok (.aload_n 0, 1) := by decide +kernel
theorem dX11_greatestBy_38 : decode cX11_greatestBy 38 = .ok (.iload_n 3, 1) := by decide +kernel
theorem dX11_greatestBy_39 : decode cX11_greatestBy 39 = .ok (.invokevirtual 178, 3) := by decide +kernel
theorem dX11_greatestBy_42 : decode cX11_greatestBy 42 = .ok (.istore 4, 2) := by decide +kernel
theorem dX11_greatestBy_44 : decode cX11_greatestBy 44 = .ok (.iload 4, 2) := by decide +kernel
theorem dX11_greatestBy_46 : decode cX11_greatestBy 46 = .ok (.bipush (-9), 2) := by decide +kernel
theorem dX11_greatestBy_48 : decode cX11_greatestBy 48 = .ok (.if_icmp .eq 68, 3) := by decide +kernel
theorem dX11_greatestBy_51 : decode cX11_greatestBy 51 = .ok (.aload_n 0, 1) := by decide +kernel
theorem dX11_greatestBy_52 : decode cX11_greatestBy 52 = .ok (.iload 4, 2) := by decide +kernel
theorem dX11_greatestBy_54 : decode cX11_greatestBy 54 = .ok (.iload_n 1, 1) := by decide +kernel
theorem dX11_greatestBy_55 : decode cX11_greatestBy 55 = .ok (.invokevirtual 123, 3) := by decide +kernel
theorem dX11_greatestBy_58 : decode cX11_greatestBy 58 = .ok (.istore 5, 2) := by decide +kernel
theorem dX11_greatestBy_60 : decode cX11_greatestBy 60 = .ok (.iload 5, 2) := by decide +kernel
theorem dX11_greatestBy_62 : decode cX11_greatestBy 62 = .ok (.bipush (-9), 2) := by decide +kernel
theorem dX11_greatestBy_64 : decode cX11_greatestBy 64 = .ok (.if_icmp .ne 6, 3) := by decide +kernel
theorem dX11_greatestBy_67 : decode cX11_greatestBy 67 = .ok (.bipush (-9), 2) := by decide +kernel
theorem dX11_greatestBy_69 : decode cX11_greatestBy 69 = .ok (.ireturn, 1) := by decide +kernel
theorem dX11_greatestBy_70 : decode cX11_greatestBy 70 = .ok (.aload_n 0, 1) := by decide +kernel
theorem dX11_greatestBy_71 : decode cX11_greatestBy 71 = .ok (.getfield 63, 3) := by decide +kernel
theorem dX11_greatestBy_74 : decode cX11_greatestBy 74 = .ok (.aload_n 0, 1) := by decide +kernel
theorem dX11_greatestBy_75 : decode cX11_greatestBy 75 = .ok (.iload 5, 2) := by decide +kernel
theorem dX11_greatestBy_77 : decode cX11_greatestBy 77 = .ok (.invokevirtual 152, 3) := by decide +kernel
theorem dX11_greatestBy_80 : decode cX11_greatestBy 80 = .ok (.dup2, 1) := by decide +kernel
theorem dX11_greatestBy_81 : decode cX11_greatestBy 81 = .ok (.iaload, 1) := by decide +kernel
theorem dX11_greatestBy_82 : decode cX11_greatestBy 82 = .ok (.iconst 1, 1) := by decide +kernel
theorem dX11_greatestBy_83 : decode cX11_greatestBy 83 = .ok (.iadd, 1) := by decide +kernel
theorem dX11_greatestBy_84 : decode cX11_greatestBy 84 = .ok (.iastore, 1) := by decide +kernel
theorem dX11_greatestBy_85 : decode cX11_greatestBy 85 = .ok (.aload_n 0, 1) := by decide +kernel
theorem dX11_greatestBy_86 : decode cX11_greatestBy 86 = .ok (.getfield 63, 3) := by decide +kernel
theorem dX11_greatestBy_89 : decode cX11_greatestBy 89 = .ok (.aload_n 0, 1) := by decide +kernel
theorem dX11_greatestBy_90 : decode cX11_greatestBy 90 = .ok (.iload 5, 2) := by decide +kernel
theorem dX11_greatestBy_92 : decode cX11_greatestBy 92 = .ok (.invokevirtual 152, 3) := by decide +kernel
theorem dX11_greatestBy_95 : decode cX11_greatestBy 95 = .ok (.iaload, 1) := by decide +kernel
theorem dX11_greatestBy_96 : decode cX11_greatestBy 96 = .ok (.iload_n 2, 1) := by decide +kernel
theorem dX11_greatestBy_97 : decode cX11_greatestBy 97 = .ok (.if_icmp .le 17, 3) := by decide +kernel
theorem dX11_greatestBy_100 : decode cX11_greatestBy 100 = .ok (.aload_n 0, 1) := by decide +kernel
theorem dX11_greatestBy_101 : decode cX11_greatestBy 101 = .ok (.getfield 63, 3) := by decide +kernel
theorem dX11_greatestBy_104 : decode cX11_greatestBy 104 = .ok (.aload_n 0, 1) := by decide +kernel
theorem dX11_greatestBy_105 : decode cX11_greatestBy 105 = .ok (.iload 5, 2) := by decide +kernel
theorem dX11_greatestBy_107 : decode cX11_greatestBy 107 = .ok (.invokevirtual 152, 3) := by decide +kernel
theorem dX11_greatestBy_110 : decode cX11_greatestBy 110 = .ok (.iaload, 1) := by decide +kernel
theorem dX11_greatestBy_111 : decode cX11_greatestBy 111 = .ok (.goto 4, 3) := by decide +kernel
theorem dX11_greatestBy_114 : decode cX11_greatestBy 114 = .ok (.iload_n 2, 1) := by decide +kernel
theorem dX11_greatestBy_115 : decode cX11_greatestBy 115 = .ok (.istore_n 2, 1) := by decide +kernel
theorem dX11_greatestBy_116 : decode cX11_greatestBy 116 = .ok (.iinc 3 1, 3) := by decide +kernel
theorem dX11_greatestBy_119 : decode cX11_greatestBy 119 = .ok (.goto (-93), 3) := by decide +kernel
theorem dX11_greatestBy_122 : decode cX11_greatestBy 122 = .ok (.iload_n 2, 1) := by decide +kernel
theorem dX11_greatestBy_123 : decode cX11_greatestBy 123 = .ok (.ireturn, 1) := by decide +kernel
theorem dX11_next_0 : decode cX11_next 0 = .ok (.bipush (-9), 2) := by decide +kernel
theorem dX11_next_2 : decode cX11_next 2 = .ok (.istore_n 1, 1) := by decide +kernel
theorem dX11_next_3 : decode cX11_next 3 = .ok (.ldc 99, 2) := by decide +kernel
theorem dX11_next_5 : decode cX11_next 5 = .ok (.istore_n 2, 1) := by decide +kernel
theorem dX11_next_6 : decode cX11_next 6 = .ok (.iconst 0, 1) := by decide +kernel
theorem dX11_next_7 : decode cX11_next 7 = .ok (.istore_n 3, 1) := by decide +kernel
theorem dX11_next_8 : decode cX11_next 8 = .ok (.iload_n 3, 1) := by decide +kernel
theorem dX11_next_9 : decode cX11_next 9 = .ok (.iconst 4, 1) := by decide +kernel
theorem dX11_next_10 : decode cX11_next 10 = .ok (.if_icmp .ge 55, 3) := by decide +kernel
theorem dX11_next_13 : decode cX11_next 13 = .ok (.aload_n 0, 1) := by decide +kernel
theorem dX11_next_14 : decode cX11_next 14 = .ok (.iload_n 3, 1) := by decide +kernel
theorem dX11_next_15 : decode cX11_next 15 = .ok (.invokevirtual 181, 3) := by decide +kernel
theorem dX11_next_18 : decode cX11_next 18 = .ok (.istore 4, 2) := by decide +kernel
theorem dX11_next_20 : decode cX11_next 20 = .ok (.iload 4, 2) := by decide +kernel
theorem dX11_next_22 : decode cX11_next 22 = .ok (.bipush (-9), 2) := by decide +kernel
theorem dX11_next_24 : decode cX11_next 24 = .ok (.if_icmp .eq 13, 3) := by decide +kernel
theorem dX11_next_27 : decode cX11_next 27 = .ok (.iload 4, 2) := by decide +kernel
theorem dX11_next_29 : decode cX11_next 29 = .ok (.iload_n 2, 1) := by decide +kernel
theorem dX11_next_30 : decode cX11_next 30 = .ok (.if_icmp .ge 7, 3) := by decide +kernel
theorem dX11_next_33 : decode cX11_next 33 = .ok (.iload_n 3, 1) := by decide +kernel
theorem dX11_next_34 : decode cX11_next 34 = .ok (.goto 4, 3) := by decide +kernel
theorem dX11_next_37 : decode cX11_next 37 = .ok (.iload_n 1, 1) := by decide +kernel
theorem dX11_next_38 : decode cX11_next 38 = .ok (.istore_n 1, 1) := by decide +kernel
theorem dX11_next_39 : decode cX11_next 39 = .ok (.iload 4, 2) := by decide +kernel
theorem dX11_next_41 : decode cX11_next 41 = .ok (.bipush (-9), 2) := by decide +kernel
theorem dX11_next_43 : decode cX11_next 43 = .ok (.if_icmp .eq 14, 3) := by decide +kernel
theorem dX11_next_46 : decode cX11_next 46 = .ok (.iload 4, 2) := by decide +kernel
theorem dX11_next_48 : decode cX11_next 48 = .ok (.iload_n 2, 1) := by decide +kernel
theorem dX11_next_49 : decode cX11_next 49 = .ok (.if_icmp .ge 8, 3) := by decide +kernel
theorem dX11_next_52 : decode cX11_next 52 = .ok (.iload 4, 2) := by decide +kernel
theorem dX11_next_54 : decode cX11_next 54 = .ok (.goto 4, 3) := by decide +kernel
theorem dX11_next_57 : decode cX11_next 57 = .ok (.iload_n 2, 1) := by decide +kernel
theorem dX11_next_58 : decode cX11_next 58 = .ok (.istore_n 2, 1) := by decide +kernel
theorem dX11_next_59 : decode cX11_next 59 = .ok (.iinc 3 1, 3) := by decide +kernel
theorem dX11_next_62 : decode cX11_next 62 = .ok (.goto (-54), 3) := by decide +kernel
theorem dX11_next_65 : decode cX11_next 65 = .ok (.iload_n 1, 1) := by decide +kernel
theorem dX11_next_66 : decode cX11_next 66 = .ok (.ireturn, 1) := by decide +kernel
theorem dX11_isPlace_0 : decode cX11_isPlace 0 = .ok (.iload_n 1, 1) := by decide +kernel
theorem dX11_isPlace_1 : decode cX11_isPlace 1 = .ok (.i2l, 1) := by decide +kernel
theorem dX11_isPlace_2 : decode cX11_isPlace 2 = .ok (.lconst 0, 1) := by decide +kernel
theorem dX11_isPlace_3 : decode cX11_isPlace 3 = .ok (.iconst 3, 1) := by decide +kernel
theorem dX11_isPlace_4 : decode cX11_isPlace 4 = .ok (.aload_n 0, 1) := by decide +kernel
theorem dX11_isPlace_5 : decode cX11_isPlace 5 = .ok (.invokevirtual 100, 3) := by decide +kernel
theorem dX11_isPlace_8 : decode cX11_isPlace 8 = .ok (.imul, 1) := by decide +kernel
theorem dX11_isPlace_9 : decode cX11_isPlace 9 = .ok (.iconst 1, 1) := by decide +kernel
theorem dX11_isPlace_10 : decode cX11_isPlace 10 = .ok (.isub, 1) := by decide +kernel
theorem dX11_isPlace_11 : decode cX11_isPlace 11 = .ok (.i2l, 1) := by decide +kernel
theorem dX11_isPlace_12 : decode cX11_isPlace 12 = .ok (.invokestatic 84, 3) := by decide +kernel
theorem dX11_isPlace_15 : decode cX11_isPlace 15 = .ok (.ireturn, 1) := by decide +kernel
theorem dX11_otherOf_0 : decode cX11_otherOf 0 = .ok (.iload_n 1, 1) := by decide +kernel
theorem dX11_otherOf_1 : decode cX11_otherOf 1 = .ok (.iconst 3, 1) := by decide +kernel
theorem dX11_otherOf_2 : decode cX11_otherOf 2 = .ok (.irem, 1) := by decide +kernel
theorem dX11_otherOf_3 : decode cX11_otherOf 3 = .ok (.ifCond .ne 9, 3) := by decide +kernel
theorem dX11_otherOf_6 : decode cX11_otherOf 6 = .ok (.iload_n 1, 1) := by decide +kernel
theorem dX11_otherOf_7 : decode cX11_otherOf 7 = .ok (.iconst 3, 1) := by decide +kernel
theorem dX11_otherOf_8 : decode cX11_otherOf 8 = .ok (.idiv, 1) := by decide +kernel
theorem dX11_otherOf_9 : decode cX11_otherOf 9 = .ok (.goto 22, 3) := by decide +kernel
theorem dX11_otherOf_12 : decode cX11_otherOf 12 = .ok (.aload_n 0, 1) := by decide +kernel
theorem dX11_otherOf_13 : decode cX11_otherOf 13 = .ok (.iload_n 1, 1) := by decide +kernel
theorem dX11_otherOf_14 : decode cX11_otherOf 14 = .ok (.iconst 3, 1) := by decide +kernel
theorem dX11_otherOf_15 : decode cX11_otherOf 15 = .ok (.idiv, 1) := by decide +kernel
theorem dX11_otherOf_16 : decode cX11_otherOf 16 = .ok (.iload_n 1, 1) := by decide +kernel
theorem dX11_otherOf_17 : decode cX11_otherOf 17 = .ok (.iconst 3, 1) := by decide +kernel
theorem dX11_otherOf_18 : decode cX11_otherOf 18 = .ok (.irem, 1) := by decide +kernel
theorem dX11_otherOf_19 : decode cX11_otherOf 19 = .ok (.iconst 1, 1) := by decide +kernel
theorem dX11_otherOf_20 : decode cX11_otherOf 20 = .ok (.if_icmp .ne 7, 3) := by decide +kernel
theorem dX11_otherOf_23 : decode cX11_otherOf 23 = .ok (.iconst 0, 1) := by decide +kernel
theorem dX11_otherOf_24 : decode cX11_otherOf 24 = .ok (.goto 4, 3) := by decide +kernel
theorem dX11_otherOf_27 : decode cX11_otherOf 27 = .ok (.iconst 1, 1) := by decide +kernel
theorem dX11_otherOf_28 : decode cX11_otherOf 28 = .ok (.invokevirtual 120, 3) := by decide +kernel
theorem dX11_otherOf_31 : decode cX11_otherOf 31 = .ok (.ireturn, 1) := by decide +kernel
theorem dX11_isSound_0 : decode cX11_isSound 0 = .ok (.aload_n 0, 1) := by decide +kernel
theorem dX11_isSound_1 : decode cX11_isSound 1 = .ok (.iload_n 1, 1) := by decide +kernel
theorem dX11_isSound_2 : decode cX11_isSound 2 = .ok (.invokevirtual 184, 3) := by decide +kernel
theorem dX11_isSound_5 : decode cX11_isSound 5 = .ok (.istore_n 3, 1) := by decide +kernel
theorem dX11_isSound_6 : decode cX11_isSound 6 = .ok (.iload_n 3, 1) := by decide +kernel
theorem dX11_isSound_7 : decode cX11_isSound 7 = .ok (.bipush (-9), 2) := by decide +kernel
theorem dX11_isSound_9 : decode cX11_isSound 9 = .ok (.if_icmp .eq 23, 3) := by decide +kernel
theorem dX11_isSound_12 : decode cX11_isSound 12 = .ok (.aload_n 0, 1) := by decide +kernel
theorem dX11_isSound_13 : decode cX11_isSound 13 = .ok (.iload_n 1, 1) := by decide +kernel
theorem dX11_isSound_14 : decode cX11_isSound 14 = .ok (.iconst 3, 1) := by decide +kernel
theorem dX11_isSound_15 : decode cX11_isSound 15 = .ok (.idiv, 1) := by decide +kernel
theorem dX11_isSound_16 : decode cX11_isSound 16 = .ok (.iload_n 2, 1) := by decide +kernel
theorem dX11_isSound_17 : decode cX11_isSound 17 = .ok (.invokevirtual 116, 3) := by decide +kernel
theorem dX11_isSound_20 : decode cX11_isSound 20 = .ok (.ifCond .eq 12, 3) := by decide +kernel
theorem dX11_isSound_23 : decode cX11_isSound 23 = .ok (.aload_n 0, 1) := by decide +kernel
theorem dX11_isSound_24 : decode cX11_isSound 24 = .ok (.iload_n 3, 1) := by decide +kernel
theorem dX11_isSound_25 : decode cX11_isSound 25 = .ok (.iload_n 2, 1) := by decide +kernel
theorem dX11_isSound_26 : decode cX11_isSound 26 = .ok (.invokevirtual 116, 3) := by decide +kernel
theorem dX11_isSound_29 : decode cX11_isSound 29 = .ok (.ifCond .ne 5, 3) := by decide +kernel
theorem dX11_isSound_32 : decode cX11_isSound 32 = .ok (.iconst 0, 1) := by decide +kernel
theorem dX11_isSound_33 : decode cX11_isSound 33 = .ok (.ireturn, 1) := by decide +kernel
theorem dX11_isSound_34 : decode cX11_isSound 34 = .ok (.iload_n 1, 1) := by decide +kernel
theorem dX11_isSound_35 : decode cX11_isSound 35 = .ok (.iconst 3, 1) := by decide +kernel
theorem dX11_isSound_36 : decode cX11_isSound 36 = .ok (.irem, 1) := by decide +kernel
theorem dX11_isSound_37 : decode cX11_isSound 37 = .ok (.ifCond .ne 15, 3) := by decide +kernel
theorem dX11_isSound_40 : decode cX11_isSound 40 = .ok (.aload_n 0, 1) := by decide +kernel
theorem dX11_isSound_41 : decode cX11_isSound 41 = .ok (.getfield 32, 3) := by decide +kernel
theorem dX11_isSound_44 : decode cX11_isSound 44 = .ok (.iload_n 1, 1) := by decide +kernel
theorem dX11_isSound_45 : decode cX11_isSound 45 = .ok (.iconst 3, 1) := by decide +kernel
theorem dX11_isSound_46 : decode cX11_isSound 46 = .ok (.idiv, 1) := by decide +kernel
theorem dX11_isSound_47 : decode cX11_isSound 47 = .ok (.iaload, 1) := by decide +kernel
theorem dX11_isSound_48 : decode cX11_isSound 48 = .ok (.iconst 2, 1) := by decide +kernel
theorem dX11_isSound_49 : decode cX11_isSound 49 = .ok (.if_icmp .eq 7, 3) := by decide +kernel
theorem dX11_isSound_52 : decode cX11_isSound 52 = .ok (.iconst 1, 1) := by decide +kernel
theorem dX11_isSound_53 : decode cX11_isSound 53 = .ok (.goto 4, 3) := by decide +kernel
theorem dX11_isSound_56 : decode cX11_isSound 56 = .ok (.iconst 0, 1) := by decide +kernel
theorem dX11_isSound_57 : decode cX11_isSound 57 = .ok (.ireturn, 1) := by decide +kernel
theorem dX11_sound_0 : decode cX11_sound 0 = .ok (.aload_n 0, 1) := by decide +kernel
theorem dX11_sound_1 : decode cX11_sound 1 = .ok (.iload_n 1, 1) := by decide +kernel
theorem dX11_sound_2 : decode cX11_sound 2 = .ok (.invokevirtual 187, 3) := by decide +kernel
theorem dX11_sound_5 : decode cX11_sound 5 = .ok (.ifCond .ne 7, 3) := by decide +kernel
theorem dX11_sound_8 : decode cX11_sound 8 = .ok (.iconst (-1), 1) := by decide +kernel
theorem dX11_sound_9 : decode cX11_sound 9 = .ok (.goto 20, 3) := by decide +kernel
theorem dX11_sound_12 : decode cX11_sound 12 = .ok (.aload_n 0, 1) := by decide +kernel
theorem dX11_sound_13 : decode cX11_sound 13 = .ok (.iload_n 1, 1) := by decide +kernel
theorem dX11_sound_14 : decode cX11_sound 14 = .ok (.aload_n 0, 1) := by decide +kernel
theorem dX11_sound_15 : decode cX11_sound 15 = .ok (.getfield 108, 3) := by decide +kernel
theorem dX11_sound_18 : decode cX11_sound 18 = .ok (.invokevirtual 190, 3) := by decide +kernel
theorem dX11_sound_21 : decode cX11_sound 21 = .ok (.ifCond .eq 7, 3) := by decide +kernel
theorem dX11_sound_24 : decode cX11_sound 24 = .ok (.iconst 1, 1) := by decide +kernel
theorem dX11_sound_25 : decode cX11_sound 25 = .ok (.goto 4, 3) := by decide +kernel
theorem dX11_sound_28 : decode cX11_sound 28 = .ok (.iconst 0, 1) := by decide +kernel
theorem dX11_sound_29 : decode cX11_sound 29 = .ok (.ireturn, 1) := by decide +kernel
theorem dX11_blockTo_0 : decode cX11_blockTo 0 = .ok (.iload_n 1, 1) := by decide +kernel
theorem dX11_blockTo_1 : decode cX11_blockTo 1 = .ok (.iconst 3, 1) := by decide +kernel
theorem dX11_blockTo_2 : decode cX11_blockTo 2 = .ok (.idiv, 1) := by decide +kernel
theorem dX11_blockTo_3 : decode cX11_blockTo 3 = .ok (.istore_n 3, 1) := by decide +kernel
theorem dX11_blockTo_4 : decode cX11_blockTo 4 = .ok (.iload_n 1, 1) := by decide +kernel
theorem dX11_blockTo_5 : decode cX11_blockTo 5 = .ok (.iconst 3, 1) := by decide +kernel
theorem dX11_blockTo_6 : decode cX11_blockTo 6 = .ok (.irem, 1) := by decide +kernel
theorem dX11_blockTo_7 : decode cX11_blockTo 7 = .ok (.istore 4, 2) := by decide +kernel
theorem dX11_blockTo_9 : decode cX11_blockTo 9 = .ok (.iload_n 3, 1) := by decide +kernel
theorem dX11_blockTo_10 : decode cX11_blockTo 10 = .ok (.aload_n 0, 1) := by decide +kernel
theorem dX11_blockTo_11 : decode cX11_blockTo 11 = .ok (.getfield 25, 3) := by decide +kernel
theorem dX11_blockTo_14 : decode cX11_blockTo 14 = .ok (.irem, 1) := by decide +kernel
theorem dX11_blockTo_15 : decode cX11_blockTo 15 = .ok (.istore 5, 2) := by decide +kernel
theorem dX11_blockTo_17 : decode cX11_blockTo 17 = .ok (.iload_n 3, 1) := by decide +kernel
theorem dX11_blockTo_18 : decode cX11_blockTo 18 = .ok (.aload_n 0, 1) := by decide +kernel
theorem dX11_blockTo_19 : decode cX11_blockTo 19 = .ok (.getfield 25, 3) := by decide +kernel
theorem dX11_blockTo_22 : decode cX11_blockTo 22 = .ok (.idiv, 1) := by decide +kernel
theorem dX11_blockTo_23 : decode cX11_blockTo 23 = .ok (.istore 6, 2) := by decide +kernel
theorem dX11_blockTo_25 : decode cX11_blockTo 25 = .ok (.iload 4, 2) := by decide +kernel
theorem dX11_blockTo_27 : decode cX11_blockTo 27 = .ok (.istore 7, 2) := by decide +kernel
theorem dX11_blockTo_29 : decode cX11_blockTo 29 = .ok (.iload 4, 2) := by decide +kernel
theorem dX11_blockTo_31 : decode cX11_blockTo 31 = .ok (.ifCond .ne 68, 3) := by decide +kernel
theorem dX11_blockTo_34 : decode cX11_blockTo 34 = .ok (.iload_n 2, 1) := by decide +kernel
theorem dX11_blockTo_35 : decode cX11_blockTo 35 = .ok (.iconst 2, 1) := by decide +kernel
theorem dX11_blockTo_36 : decode cX11_blockTo 36 = .ok (.irem, 1) := by decide +kernel
theorem dX11_blockTo_37 : decode cX11_blockTo 37 = .ok (.ifCond .ne 7, 3) := by decide +kernel
theorem dX11_blockTo_40 : decode cX11_blockTo 40 = .ok (.iconst 1, 1) := by decide +kernel
theorem dX11_blockTo_41 : decode cX11_blockTo 41 = .ok (.goto 4, 3) := by decide +kernel
theorem dX11_blockTo_44 : decode cX11_blockTo 44 = .ok (.iconst 2, 1) := by decide +kernel
theorem dX11_blockTo_45 : decode cX11_blockTo 45 = .ok (.istore 7, 2) := by decide +kernel
theorem dX11_blockTo_47 : decode cX11_blockTo 47 = .ok (.iload 5, 2) := by decide +kernel
theorem dX11_blockTo_49 : decode cX11_blockTo 49 = .ok (.iload_n 2, 1) := by decide +kernel
theorem dX11_blockTo_50 : decode cX11_blockTo 50 = .ok (.ifCond .ne 7, 3) := by decide +kernel
theorem dX11_blockTo_53 : decode cX11_blockTo 53 = .ok (.iconst 1, 1) := by decide +kernel
theorem dX11_blockTo_54 : decode cX11_blockTo 54 = .ok (.goto 14, 3) := by decide +kernel
theorem dX11_blockTo_57 : decode cX11_blockTo 57 = .ok (.iload_n 2, 1) := by decide +kernel
theorem dX11_blockTo_58 : decode cX11_blockTo 58 = .ok (.iconst 2, 1) := by decide +kernel
theorem dX11_blockTo_59 : decode cX11_blockTo 59 = .ok (.if_icmp .ne 8, 3) := by decide +kernel
theorem dX11_blockTo_62 : decode cX11_blockTo 62 = .ok (.bipush (-2), 2) := by decide +kernel
theorem dX11_blockTo_64 : decode cX11_blockTo 64 = .ok (.goto 4, 3) := by decide +kernel
theorem dX11_blockTo_67 : decode cX11_blockTo 67 = .ok (.iconst 0, 1) := by decide +kernel
theorem dX11_blockTo_68 : decode cX11_blockTo 68 = .ok (.iadd, 1) := by decide +kernel
theorem dX11_blockTo_69 : decode cX11_blockTo 69 = .ok (.istore 5, 2) := by decide +kernel
theorem dX11_blockTo_71 : decode cX11_blockTo 71 = .ok (.iload 6, 2) := by decide +kernel
theorem dX11_blockTo_73 : decode cX11_blockTo 73 = .ok (.iload_n 2, 1) := by decide +kernel
theorem dX11_blockTo_74 : decode cX11_blockTo 74 = .ok (.iconst 1, 1) := by decide +kernel
theorem dX11_blockTo_75 : decode cX11_blockTo 75 = .ok (.if_icmp .ne 7, 3) := by decide +kernel
theorem dX11_blockTo_78 : decode cX11_blockTo 78 = .ok (.iconst 1, 1) := by decide +kernel
theorem dX11_blockTo_79 : decode cX11_blockTo 79 = .ok (.goto 14, 3) := by decide +kernel
theorem dX11_blockTo_82 : decode cX11_blockTo 82 = .ok (.iload_n 2, 1) := by decide +kernel
theorem dX11_blockTo_83 : decode cX11_blockTo 83 = .ok (.iconst 3, 1) := by decide +kernel
theorem dX11_blockTo_84 : decode cX11_blockTo 84 = .ok (.if_icmp .ne 8, 3) := by decide +kernel
theorem dX11_blockTo_87 : decode cX11_blockTo 87 = .ok (.bipush (-2), 2) := by decide +kernel
theorem dX11_blockTo_89 : decode cX11_blockTo 89 = .ok (.goto 4, 3) := by decide +kernel
theorem dX11_blockTo_92 : decode cX11_blockTo 92 = .ok (.iconst 0, 1) := by decide +kernel
theorem dX11_blockTo_93 : decode cX11_blockTo 93 = .ok (.iadd, 1) := by decide +kernel
theorem dX11_blockTo_94 : decode cX11_blockTo 94 = .ok (.istore 6, 2) := by decide +kernel
theorem dX11_blockTo_96 : decode cX11_blockTo 96 = .ok (.goto 133, 3) := by decide +kernel
theorem dX11_blockTo_99 : decode cX11_blockTo 99 = .ok (.iload 4, 2) := by decide +kernel
theorem dX11_blockTo_101 : decode cX11_blockTo 101 = .ok (.iconst 1, 1) := by decide +kernel
theorem dX11_blockTo_102 : decode cX11_blockTo 102 = .ok (.if_icmp .ne 66, 3) := by decide +kernel
theorem dX11_blockTo_105 : decode cX11_blockTo 105 = .ok (.iload_n 2, 1) := by decide +kernel
theorem dX11_blockTo_106 : decode cX11_blockTo 106 = .ok (.iconst 2, 1) := by decide +kernel
theorem dX11_blockTo_107 : decode cX11_blockTo 107 = .ok (.irem, 1) := by decide +kernel
theorem dX11_blockTo_108 : decode cX11_blockTo 108 = .ok (.ifCond .ne 7, 3) := by decide +kernel
theorem dX11_blockTo_111 : decode cX11_blockTo 111 = .ok (.iconst 0, 1) := by decide +kernel
theorem dX11_blockTo_112 : decode cX11_blockTo 112 = .ok (.goto 4, 3) := by decide +kernel
theorem dX11_blockTo_115 : decode cX11_blockTo 115 = .ok (.iconst 1, 1) := by decide +kernel
theorem dX11_blockTo_116 : decode cX11_blockTo 116 = .ok (.istore 7, 2) := by decide +kernel
theorem dX11_blockTo_118 : decode cX11_blockTo 118 = .ok (.iload 5, 2) := by decide +kernel
theorem dX11_blockTo_120 : decode cX11_blockTo 120 = .ok (.iload_n 2, 1) := by decide +kernel
theorem dX11_blockTo_121 : decode cX11_blockTo 121 = .ok (.ifCond .ne 7, 3) := by decide +kernel
theorem dX11_blockTo_124 : decode cX11_blockTo 124 = .ok (.iconst 2, 1) := by decide +kernel
theorem dX11_blockTo_125 : decode cX11_blockTo 125 = .ok (.goto 13, 3) := by decide +kernel
theorem dX11_blockTo_128 : decode cX11_blockTo 128 = .ok (.iload_n 2, 1) := by decide +kernel
theorem dX11_blockTo_129 : decode cX11_blockTo 129 = .ok (.iconst 2, 1) := by decide +kernel
theorem dX11_blockTo_130 : decode cX11_blockTo 130 = .ok (.if_icmp .ne 7, 3) := by decide +kernel
theorem dX11_blockTo_133 : decode cX11_blockTo 133 = .ok (.iconst (-1), 1) := by decide +kernel
theorem dX11_blockTo_134 : decode cX11_blockTo 134 = .ok (.goto 4, 3) := by decide +kernel
theorem dX11_blockTo_137 : decode cX11_blockTo 137 = .ok (.iconst 0, 1) := by decide +kernel
theorem dX11_blockTo_138 : decode cX11_blockTo 138 = .ok (.iadd, 1) := by decide +kernel
theorem dX11_blockTo_139 : decode cX11_blockTo 139 = .ok (.istore 5, 2) := by decide +kernel
theorem dX11_blockTo_141 : decode cX11_blockTo 141 = .ok (.iload 6, 2) := by decide +kernel
theorem dX11_blockTo_143 : decode cX11_blockTo 143 = .ok (.iload_n 2, 1) := by decide +kernel
theorem dX11_blockTo_144 : decode cX11_blockTo 144 = .ok (.iconst 1, 1) := by decide +kernel
theorem dX11_blockTo_145 : decode cX11_blockTo 145 = .ok (.if_icmp .ne 7, 3) := by decide +kernel
theorem dX11_blockTo_148 : decode cX11_blockTo 148 = .ok (.iconst 1, 1) := by decide +kernel
theorem dX11_blockTo_149 : decode cX11_blockTo 149 = .ok (.goto 13, 3) := by decide +kernel
theorem dX11_blockTo_152 : decode cX11_blockTo 152 = .ok (.iload_n 2, 1) := by decide +kernel
theorem dX11_blockTo_153 : decode cX11_blockTo 153 = .ok (.iconst 3, 1) := by decide +kernel
theorem dX11_blockTo_154 : decode cX11_blockTo 154 = .ok (.if_icmp .ne 7, 3) := by decide +kernel
theorem dX11_blockTo_157 : decode cX11_blockTo 157 = .ok (.iconst (-1), 1) := by decide +kernel
theorem dX11_blockTo_158 : decode cX11_blockTo 158 = .ok (.goto 4, 3) := by decide +kernel
theorem dX11_blockTo_161 : decode cX11_blockTo 161 = .ok (.iconst 0, 1) := by decide +kernel
theorem dX11_blockTo_162 : decode cX11_blockTo 162 = .ok (.iadd, 1) := by decide +kernel
theorem dX11_blockTo_163 : decode cX11_blockTo 163 = .ok (.istore 6, 2) := by decide +kernel
theorem dX11_blockTo_165 : decode cX11_blockTo 165 = .ok (.goto 64, 3) := by decide +kernel
theorem dX11_blockTo_168 : decode cX11_blockTo 168 = .ok (.iload_n 2, 1) := by decide +kernel
theorem dX11_blockTo_169 : decode cX11_blockTo 169 = .ok (.iconst 2, 1) := by decide +kernel
theorem dX11_blockTo_170 : decode cX11_blockTo 170 = .ok (.irem, 1) := by decide +kernel
theorem dX11_blockTo_171 : decode cX11_blockTo 171 = .ok (.iconst 1, 1) := by decide +kernel
theorem dX11_blockTo_172 : decode cX11_blockTo 172 = .ok (.if_icmp .ne 7, 3) := by decide +kernel
theorem dX11_blockTo_175 : decode cX11_blockTo 175 = .ok (.iconst 0, 1) := by decide +kernel
theorem dX11_blockTo_176 : decode cX11_blockTo 176 = .ok (.goto 4, 3) := by decide +kernel
theorem dX11_blockTo_179 : decode cX11_blockTo 179 = .ok (.iconst 2, 1) := by decide +kernel
theorem dX11_blockTo_180 : decode cX11_blockTo 180 = .ok (.istore 7, 2) := by decide +kernel
theorem dX11_blockTo_182 : decode cX11_blockTo 182 = .ok (.iload 6, 2) := by decide +kernel
theorem dX11_blockTo_184 : decode cX11_blockTo 184 = .ok (.iload_n 2, 1) := by decide +kernel
theorem dX11_blockTo_185 : decode cX11_blockTo 185 = .ok (.iconst 1, 1) := by decide +kernel
theorem dX11_blockTo_186 : decode cX11_blockTo 186 = .ok (.if_icmp .ne 7, 3) := by decide +kernel
theorem dX11_blockTo_189 : decode cX11_blockTo 189 = .ok (.iconst 2, 1) := by decide +kernel
theorem dX11_blockTo_190 : decode cX11_blockTo 190 = .ok (.goto 13, 3) := by decide +kernel
theorem dX11_blockTo_193 : decode cX11_blockTo 193 = .ok (.iload_n 2, 1) := by decide +kernel
theorem dX11_blockTo_194 : decode cX11_blockTo 194 = .ok (.iconst 3, 1) := by decide +kernel
theorem dX11_blockTo_195 : decode cX11_blockTo 195 = .ok (.if_icmp .ne 7, 3) := by decide +kernel
theorem dX11_blockTo_198 : decode cX11_blockTo 198 = .ok (.iconst (-1), 1) := by decide +kernel
theorem dX11_blockTo_199 : decode cX11_blockTo 199 = .ok (.goto 4, 3) := by decide +kernel
theorem dX11_blockTo_202 : decode cX11_blockTo 202 = .ok (.iconst 0, 1) := by decide +kernel
theorem dX11_blockTo_203 : decode cX11_blockTo 203 = .ok (.iadd, 1) := by decide +kernel
theorem dX11_blockTo_204 : decode cX11_blockTo 204 = .ok (.istore 6, 2) := by decide +kernel
theorem dX11_blockTo_206 : decode cX11_blockTo 206 = .ok (.iload 5, 2) := by decide +kernel
theorem dX11_blockTo_208 : decode cX11_blockTo 208 = .ok (.iload_n 2, 1) := by decide +kernel
theorem dX11_blockTo_209 : decode cX11_blockTo 209 = .ok (.ifCond .ne 7, 3) := by decide +kernel
theorem dX11_blockTo_212 : decode cX11_blockTo 212 = .ok (.iconst 1, 1) := by decide +kernel
theorem dX11_blockTo_213 : decode cX11_blockTo 213 = .ok (.goto 13, 3) := by decide +kernel
theorem dX11_blockTo_216 : decode cX11_blockTo 216 = .ok (.iload_n 2, 1) := by decide +kernel
theorem dX11_blockTo_217 : decode cX11_blockTo 217 = .ok (.iconst 2, 1) := by decide +kernel
theorem dX11_blockTo_218 : decode cX11_blockTo 218 = .ok (.if_icmp .ne 7, 3) := by decide +kernel
theorem dX11_blockTo_221 : decode cX11_blockTo 221 = .ok (.iconst (-1), 1) := by decide +kernel
theorem dX11_blockTo_222 : decode cX11_blockTo 222 = .ok (.goto 4, 3) := by decide +kernel
theorem dX11_blockTo_225 : decode cX11_blockTo 225 = .ok (.iconst 0, 1) := by decide +kernel
theorem dX11_blockTo_226 : decode cX11_blockTo 226 = .ok (.iadd, 1) := by decide +kernel
theorem dX11_blockTo_227 : decode cX11_blockTo 227 = .ok (.istore 5, 2) := by decide +kernel
theorem dX11_blockTo_229 : decode cX11_blockTo 229 = .ok (.iload 5, 2) := by decide +kernel
theorem dX11_blockTo_231 : decode cX11_blockTo 231 = .ok (.i2l, 1) := by decide +kernel
theorem dX11_blockTo_232 : decode cX11_blockTo 232 = .ok (.lconst 0, 1) := by decide +kernel
theorem dX11_blockTo_233 : decode cX11_blockTo 233 = .ok (.aload_n 0, 1) := by decide +kernel
theorem dX11_blockTo_234 : decode cX11_blockTo 234 = .ok (.getfield 25, 3) := by decide +kernel
theorem dX11_blockTo_237 : decode cX11_blockTo 237 = .ok (.iconst 1, 1) := by decide +kernel
theorem dX11_blockTo_238 : decode cX11_blockTo 238 = .ok (.isub, 1) := by decide +kernel
theorem dX11_blockTo_239 : decode cX11_blockTo 239 = .ok (.i2l, 1) := by decide +kernel
theorem dX11_blockTo_240 : decode cX11_blockTo 240 = .ok (.invokestatic 84, 3) := by decide +kernel
theorem dX11_blockTo_243 : decode cX11_blockTo 243 = .ok (.ifCond .eq 38, 3) := by decide +kernel
theorem dX11_blockTo_246 : decode cX11_blockTo 246 = .ok (.iload 6, 2) := by decide +kernel
theorem dX11_blockTo_248 : decode cX11_blockTo 248 = .ok (.i2l, 1) := by decide +kernel
theorem dX11_blockTo_249 : decode cX11_blockTo 249 = .ok (.lconst 0, 1) := by decide +kernel
theorem dX11_blockTo_250 : decode cX11_blockTo 250 = .ok (.aload_n 0, 1) := by decide +kernel
theorem dX11_blockTo_251 : decode cX11_blockTo 251 = .ok (.getfield 29, 3) := by decide +kernel
theorem dX11_blockTo_254 : decode cX11_blockTo 254 = .ok (.iconst 1, 1) := by decide +kernel
theorem dX11_blockTo_255 : decode cX11_blockTo 255 = .ok (.isub, 1) := by decide +kernel
theorem dX11_blockTo_256 : decode cX11_blockTo 256 = .ok (.i2l, 1) := by decide +kernel
theorem dX11_blockTo_257 : decode cX11_blockTo 257 = .ok (.invokestatic 84, 3) := by decide +kernel
theorem dX11_blockTo_260 : decode cX11_blockTo 260 = .ok (.ifCond .eq 21, 3) := by decide +kernel
theorem dX11_blockTo_263 : decode cX11_blockTo 263 = .ok (.iconst 3, 1) := by decide +kernel
theorem dX11_blockTo_264 : decode cX11_blockTo 264 = .ok (.iload 6, 2) := by decide +kernel
theorem dX11_blockTo_266 : decode cX11_blockTo 266 = .ok (.aload_n 0, 1) := by decide +kernel
theorem dX11_blockTo_267 : decode cX11_blockTo 267 = .ok (.getfield 25, 3) := by decide +kernel
theorem dX11_blockTo_270 : decode cX11_blockTo 270 = .ok (.imul, 1) := by decide +kernel
theorem dX11_blockTo_271 : decode cX11_blockTo 271 = .ok (.iload 5, 2) := by decide +kernel
theorem dX11_blockTo_273 : decode cX11_blockTo 273 = .ok (.iadd, 1) := by decide +kernel
theorem dX11_blockTo_274 : decode cX11_blockTo 274 = .ok (.imul, 1) := by decide +kernel
theorem dX11_blockTo_275 : decode cX11_blockTo 275 = .ok (.iload 7, 2) := by decide +kernel
theorem dX11_blockTo_277 : decode cX11_blockTo 277 = .ok (.iadd, 1) := by decide +kernel
theorem dX11_blockTo_278 : decode cX11_blockTo 278 = .ok (.goto 5, 3) := by decide +kernel
theorem dX11_blockTo_281 : decode cX11_blockTo 281 = .ok (.bipush (-9), 2) := by decide +kernel
theorem dX11_blockTo_283 : decode cX11_blockTo 283 = .ok (.ireturn, 1) := by decide +kernel
theorem dX11_blockRoll_0 : decode cX11_blockRoll 0 = .ok (.iload_n 1, 1) := by decide +kernel
theorem dX11_blockRoll_1 : decode cX11_blockRoll 1 = .ok (.bipush 8, 2) := by decide +kernel
theorem dX11_blockRoll_3 : decode cX11_blockRoll 3 = .ok (.irem, 1) := by decide +kernel
theorem dX11_blockRoll_4 : decode cX11_blockRoll 4 = .ok (.istore_n 3, 1) := by decide +kernel
theorem dX11_blockRoll_5 : decode cX11_blockRoll 5 = .ok (.aload_n 0, 1) := by decide +kernel
theorem dX11_blockRoll_6 : decode cX11_blockRoll 6 = .ok (.iload_n 1, 1) := by decide +kernel
theorem dX11_blockRoll_7 : decode cX11_blockRoll 7 = .ok (.bipush 8, 2) := by decide +kernel
theorem dX11_blockRoll_9 : decode cX11_blockRoll 9 = .ok (.idiv, 1) := by decide +kernel
theorem dX11_blockRoll_10 : decode cX11_blockRoll 10 = .ok (.iload_n 3, 1) := by decide +kernel
theorem dX11_blockRoll_11 : decode cX11_blockRoll 11 = .ok (.invokevirtual 190, 3) := by decide +kernel
theorem dX11_blockRoll_14 : decode cX11_blockRoll 14 = .ok (.ifCond .ne 6, 3) := by decide +kernel
theorem dX11_blockRoll_17 : decode cX11_blockRoll 17 = .ok (.bipush (-9), 2) := by decide +kernel
theorem dX11_blockRoll_19 : decode cX11_blockRoll 19 = .ok (.ireturn, 1) := by decide +kernel
theorem dX11_blockRoll_20 : decode cX11_blockRoll 20 = .ok (.aload_n 0, 1) := by decide +kernel
theorem dX11_blockRoll_21 : decode cX11_blockRoll 21 = .ok (.iload_n 1, 1) := by decide +kernel
theorem dX11_blockRoll_22 : decode cX11_blockRoll 22 = .ok (.bipush 8, 2) := by decide +kernel
theorem dX11_blockRoll_24 : decode cX11_blockRoll 24 = .ok (.idiv, 1) := by decide +kernel
theorem dX11_blockRoll_25 : decode cX11_blockRoll 25 = .ok (.iload_n 2, 1) := by decide +kernel
theorem dX11_blockRoll_26 : decode cX11_blockRoll 26 = .ok (.invokevirtual 193, 3) := by decide +kernel
theorem dX11_blockRoll_29 : decode cX11_blockRoll 29 = .ok (.istore 4, 2) := by decide +kernel
theorem dX11_blockRoll_31 : decode cX11_blockRoll 31 = .ok (.iload 4, 2) := by decide +kernel
theorem dX11_blockRoll_33 : decode cX11_blockRoll 33 = .ok (.bipush (-9), 2) := by decide +kernel
theorem dX11_blockRoll_35 : decode cX11_blockRoll 35 = .ok (.if_icmp .eq 13, 3) := by decide +kernel
theorem dX11_blockRoll_38 : decode cX11_blockRoll 38 = .ok (.aload_n 0, 1) := by decide +kernel
theorem dX11_blockRoll_39 : decode cX11_blockRoll 39 = .ok (.iload 4, 2) := by decide +kernel
theorem dX11_blockRoll_41 : decode cX11_blockRoll 41 = .ok (.iload_n 3, 1) := by decide +kernel
theorem dX11_blockRoll_42 : decode cX11_blockRoll 42 = .ok (.invokevirtual 190, 3) := by decide +kernel
theorem dX11_blockRoll_45 : decode cX11_blockRoll 45 = .ok (.ifCond .ne 6, 3) := by decide +kernel
theorem dX11_blockRoll_48 : decode cX11_blockRoll 48 = .ok (.bipush (-9), 2) := by decide +kernel
theorem dX11_blockRoll_50 : decode cX11_blockRoll 50 = .ok (.ireturn, 1) := by decide +kernel
theorem dX11_blockRoll_51 : decode cX11_blockRoll 51 = .ok (.iload 4, 2) := by decide +kernel
theorem dX11_blockRoll_53 : decode cX11_blockRoll 53 = .ok (.iconst 3, 1) := by decide +kernel
theorem dX11_blockRoll_54 : decode cX11_blockRoll 54 = .ok (.irem, 1) := by decide +kernel
theorem dX11_blockRoll_55 : decode cX11_blockRoll 55 = .ok (.ifCond .ne 29, 3) := by decide +kernel
theorem dX11_blockRoll_58 : decode cX11_blockRoll 58 = .ok (.aload_n 0, 1) := by decide +kernel
theorem dX11_blockRoll_59 : decode cX11_blockRoll 59 = .ok (.getfield 32, 3) := by decide +kernel
theorem dX11_blockRoll_62 : decode cX11_blockRoll 62 = .ok (.iload 4, 2) := by decide +kernel
theorem dX11_blockRoll_64 : decode cX11_blockRoll 64 = .ok (.iconst 3, 1) := by decide +kernel
theorem dX11_blockRoll_65 : decode cX11_blockRoll 65 = .ok (.idiv, 1) := by decide +kernel
theorem dX11_blockRoll_66 : decode cX11_blockRoll 66 = .ok (.iaload, 1) := by decide +kernel
theorem dX11_blockRoll_67 : decode cX11_blockRoll 67 = .ok (.i2l, 1) := by decide +kernel
theorem dX11_blockRoll_68 : decode cX11_blockRoll 68 = .ok (.ldc2_w 88, 3) := by decide +kernel
theorem dX11_blockRoll_71 : decode cX11_blockRoll 71 = .ok (.ldc2_w 106, 3) := by decide +kernel
theorem dX11_blockRoll_74 : decode cX11_blockRoll 74 = .ok (.invokestatic 84, 3) := by decide +kernel
theorem dX11_blockRoll_77 : decode cX11_blockRoll 77 = .ok (.ifCond .eq 7, 3) := by decide +kernel
theorem dX11_blockRoll_80 : decode cX11_blockRoll 80 = .ok (.iconst 1, 1) := by decide +kernel
theorem dX11_blockRoll_81 : decode cX11_blockRoll 81 = .ok (.goto 4, 3) := by decide +kernel
theorem dX11_blockRoll_84 : decode cX11_blockRoll 84 = .ok (.iconst 0, 1) := by decide +kernel
theorem dX11_blockRoll_85 : decode cX11_blockRoll 85 = .ok (.istore 5, 2) := by decide +kernel
theorem dX11_blockRoll_87 : decode cX11_blockRoll 87 = .ok (.iload 5, 2) := by decide +kernel
theorem dX11_blockRoll_89 : decode cX11_blockRoll 89 = .ok (.ifCond .eq 21, 3) := by decide +kernel
theorem dX11_blockRoll_92 : decode cX11_blockRoll 92 = .ok (.iload_n 3, 1) := by decide +kernel
theorem dX11_blockRoll_93 : decode cX11_blockRoll 93 = .ok (.iconst 1, 1) := by decide +kernel
theorem dX11_blockRoll_94 : decode cX11_blockRoll 94 = .ok (.aload_n 0, 1) := by decide +kernel
theorem dX11_blockRoll_95 : decode cX11_blockRoll 95 = .ok (.getfield 32, 3) := by decide +kernel
theorem dX11_blockRoll_98 : decode cX11_blockRoll 98 = .ok (.iload 4, 2) := by decide +kernel
theorem dX11_blockRoll_100 : decode cX11_blockRoll 100 = .ok (.iconst 3, 1) := by decide +kernel
theorem dX11_blockRoll_101 : decode cX11_blockRoll 101 = .ok (.idiv, 1) := by decide +kernel
theorem dX11_blockRoll_102 : decode cX11_blockRoll 102 = .ok (.iaload, 1) := by decide +kernel
theorem dX11_blockRoll_103 : decode cX11_blockRoll 103 = .ok (.iconst 3, 1) := by decide +kernel
theorem dX11_blockRoll_104 : decode cX11_blockRoll 104 = .ok (.isub, 1) := by decide +kernel
theorem dX11_blockRoll_105 : decode cX11_blockRoll 105 = .ok (.ishl, 1) := by decide +kernel
theorem dX11_blockRoll_106 : decode cX11_blockRoll 106 = .ok (.ixor, 1) := by decide +kernel
theorem dX11_blockRoll_107 : decode cX11_blockRoll 107 = .ok (.goto 4, 3) := by decide +kernel
theorem dX11_blockRoll_110 : decode cX11_blockRoll 110 = .ok (.iload_n 3, 1) := by decide +kernel
theorem dX11_blockRoll_111 : decode cX11_blockRoll 111 = .ok (.istore 6, 2) := by decide +kernel
theorem dX11_blockRoll_113 : decode cX11_blockRoll 113 = .ok (.aload_n 0, 1) := by decide +kernel
theorem dX11_blockRoll_114 : decode cX11_blockRoll 114 = .ok (.iload 4, 2) := by decide +kernel
theorem dX11_blockRoll_116 : decode cX11_blockRoll 116 = .ok (.iload 6, 2) := by decide +kernel
theorem dX11_blockRoll_118 : decode cX11_blockRoll 118 = .ok (.invokevirtual 190, 3) := by decide +kernel
theorem dX11_blockRoll_121 : decode cX11_blockRoll 121 = .ok (.ifCond .eq 14, 3) := by decide +kernel
theorem dX11_blockRoll_124 : decode cX11_blockRoll 124 = .ok (.bipush 8, 2) := by decide +kernel
theorem dX11_blockRoll_126 : decode cX11_blockRoll 126 = .ok (.iload 4, 2) := by decide +kernel
theorem dX11_blockRoll_128 : decode cX11_blockRoll 128 = .ok (.imul, 1) := by decide +kernel
theorem dX11_blockRoll_129 : decode cX11_blockRoll 129 = .ok (.iload 6, 2) := by decide +kernel
theorem dX11_blockRoll_131 : decode cX11_blockRoll 131 = .ok (.iadd, 1) := by decide +kernel
theorem dX11_blockRoll_132 : decode cX11_blockRoll 132 = .ok (.goto 5, 3) := by decide +kernel
theorem dX11_blockRoll_135 : decode cX11_blockRoll 135 = .ok (.bipush (-9), 2) := by decide +kernel
theorem dX11_blockRoll_137 : decode cX11_blockRoll 137 = .ok (.ireturn, 1) := by decide +kernel
theorem dX11_rolls_0 : decode cX11_rolls 0 = .ok (.aload_n 0, 1) := by decide +kernel
theorem dX11_rolls_1 : decode cX11_rolls 1 = .ok (.iload_n 1, 1) := by decide +kernel
theorem dX11_rolls_2 : decode cX11_rolls 2 = .ok (.invokevirtual 187, 3) := by decide +kernel
theorem dX11_rolls_5 : decode cX11_rolls 5 = .ok (.ifCond .ne 5, 3) := by decide +kernel
theorem dX11_rolls_8 : decode cX11_rolls 8 = .ok (.iconst (-1), 1) := by decide +kernel
theorem dX11_rolls_9 : decode cX11_rolls 9 = .ok (.ireturn, 1) := by decide +kernel
theorem dX11_rolls_10 : decode cX11_rolls 10 = .ok (.iload_n 2, 1) := by decide +kernel
theorem dX11_rolls_11 : decode cX11_rolls 11 = .ok (.invokestatic 94, 3) := by decide +kernel
theorem dX11_rolls_14 : decode cX11_rolls 14 = .ok (.ifCond .ne 6, 3) := by decide +kernel
theorem dX11_rolls_17 : decode cX11_rolls 17 = .ok (.bipush (-2), 2) := by decide +kernel
theorem dX11_rolls_19 : decode cX11_rolls 19 = .ok (.ireturn, 1) := by decide +kernel
theorem dX11_rolls_20 : decode cX11_rolls 20 = .ok (.aload_n 0, 1) := by decide +kernel
theorem dX11_rolls_21 : decode cX11_rolls 21 = .ok (.bipush 8, 2) := by decide +kernel
theorem dX11_rolls_23 : decode cX11_rolls 23 = .ok (.iload_n 1, 1) := by decide +kernel
theorem dX11_rolls_24 : decode cX11_rolls 24 = .ok (.imul, 1) := by decide +kernel
theorem dX11_rolls_25 : decode cX11_rolls 25 = .ok (.aload_n 0, 1) := by decide +kernel
theorem dX11_rolls_26 : decode cX11_rolls 26 = .ok (.getfield 108, 3) := by decide +kernel
theorem dX11_rolls_29 : decode cX11_rolls 29 = .ok (.iadd, 1) := by decide +kernel
theorem dX11_rolls_30 : decode cX11_rolls 30 = .ok (.iload_n 2, 1) := by decide +kernel
theorem dX11_rolls_31 : decode cX11_rolls 31 = .ok (.invokevirtual 196, 3) := by decide +kernel
theorem dX11_rolls_34 : decode cX11_rolls 34 = .ok (.istore_n 3, 1) := by decide +kernel
theorem dX11_rolls_35 : decode cX11_rolls 35 = .ok (.iload_n 3, 1) := by decide +kernel
theorem dX11_rolls_36 : decode cX11_rolls 36 = .ok (.bipush (-9), 2) := by decide +kernel
theorem dX11_rolls_38 : decode cX11_rolls 38 = .ok (.if_icmp .ne 8, 3) := by decide +kernel
theorem dX11_rolls_41 : decode cX11_rolls 41 = .ok (.bipush (-9), 2) := by decide +kernel
theorem dX11_rolls_43 : decode cX11_rolls 43 = .ok (.goto 7, 3) := by decide +kernel
theorem dX11_rolls_46 : decode cX11_rolls 46 = .ok (.iload_n 3, 1) := by decide +kernel
theorem dX11_rolls_47 : decode cX11_rolls 47 = .ok (.bipush 8, 2) := by decide +kernel
theorem dX11_rolls_49 : decode cX11_rolls 49 = .ok (.idiv, 1) := by decide +kernel
theorem dX11_rolls_50 : decode cX11_rolls 50 = .ok (.ireturn, 1) := by decide +kernel
theorem dX11_layHome_0 : decode cX11_layHome 0 = .ok (.bipush 24, 2) := by decide +kernel
theorem dX11_layHome_2 : decode cX11_layHome 2 = .ok (.aload_n 0, 1) := by decide +kernel
theorem dX11_layHome_3 : decode cX11_layHome 3 = .ok (.invokevirtual 100, 3) := by decide +kernel
theorem dX11_layHome_6 : decode cX11_layHome 6 = .ok (.imul, 1) := by decide +kernel
theorem dX11_layHome_7 : decode cX11_layHome 7 = .ok (.istore_n 2, 1) := by decide +kernel
theorem dX11_layHome_8 : decode cX11_layHome 8 = .ok (.iconst 0, 1) := by decide +kernel
theorem dX11_layHome_9 : decode cX11_layHome 9 = .ok (.istore_n 3, 1) := by decide +kernel
theorem dX11_layHome_10 : decode cX11_layHome 10 = .ok (.iload_n 3, 1) := by decide +kernel
theorem dX11_layHome_11 : decode cX11_layHome 11 = .ok (.iload_n 2, 1) := by decide +kernel
theorem dX11_layHome_12 : decode cX11_layHome 12 = .ok (.if_icmp .ge 46, 3) := by decide +kernel
theorem dX11_layHome_15 : decode cX11_layHome 15 = .ok (.aload_n 0, 1) := by decide +kernel
theorem dX11_layHome_16 : decode cX11_layHome 16 = .ok (.getfield 66, 3) := by decide +kernel
theorem dX11_layHome_19 : decode cX11_layHome 19 = .ok (.iload_n 3, 1) := by decide +kernel
theorem dX11_layHome_20 : decode cX11_layHome 20 = .ok (.iload_n 3, 1) := by decide +kernel
theorem dX11_layHome_21 : decode cX11_layHome 21 = .ok (.bipush 8, 2) := by decide +kernel
theorem dX11_layHome_23 : decode cX11_layHome 23 = .ok (.idiv, 1) := by decide +kernel
theorem dX11_layHome_24 : decode cX11_layHome 24 = .ok (.iconst 3, 1) := by decide +kernel
theorem dX11_layHome_25 : decode cX11_layHome 25 = .ok (.iload_n 1, 1) := by decide +kernel
theorem dX11_layHome_26 : decode cX11_layHome 26 = .ok (.imul, 1) := by decide +kernel
theorem dX11_layHome_27 : decode cX11_layHome 27 = .ok (.if_icmp .ne 22, 3) := by decide +kernel
theorem dX11_layHome_30 : decode cX11_layHome 30 = .ok (.aload_n 0, 1) := by decide +kernel
theorem dX11_layHome_31 : decode cX11_layHome 31 = .ok (.iload_n 3, 1) := by decide +kernel
theorem dX11_layHome_32 : decode cX11_layHome 32 = .ok (.bipush 8, 2) := by decide +kernel
theorem dX11_layHome_34 : decode cX11_layHome 34 = .ok (.idiv, 1) := by decide +kernel
theorem dX11_layHome_35 : decode cX11_layHome 35 = .ok (.iload_n 3, 1) := by decide +kernel
theorem dX11_layHome_36 : decode cX11_layHome 36 = .ok (.bipush 8, 2) := by decide +kernel
theorem dX11_layHome_38 : decode cX11_layHome 38 = .ok (.irem, 1) := by decide +kernel
theorem dX11_layHome_39 : decode cX11_layHome 39 = .ok (.invokevirtual 190, 3) := by decide +kernel
theorem dX11_layHome_42 : decode cX11_layHome 42 = .ok (.ifCond .eq 7, 3) := by decide +kernel
theorem dX11_layHome_45 : decode cX11_layHome 45 = .ok (.iconst 0, 1) := by decide +kernel
theorem dX11_layHome_46 : decode cX11_layHome 46 = .ok (.goto 5, 3) := by decide +kernel
theorem dX11_layHome_49 : decode cX11_layHome 49 = .ok (.ldc 99, 2) := by decide +kernel
theorem dX11_layHome_51 : decode cX11_layHome 51 = .ok (.iastore, 1) := by decide +kernel
theorem dX11_layHome_52 : decode cX11_layHome 52 = .ok (.iinc 3 1, 3) := by decide +kernel
theorem dX11_layHome_55 : decode cX11_layHome 55 = .ok (.goto (-45), 3) := by decide +kernel
theorem dX11_layHome_58 : decode cX11_layHome 58 = .ok (.iconst 1, 1) := by decide +kernel
theorem dX11_layHome_59 : decode cX11_layHome 59 = .ok (.istore_n 3, 1) := by decide +kernel
theorem dX11_layHome_60 : decode cX11_layHome 60 = .ok (.iload_n 3, 1) := by decide +kernel
theorem dX11_layHome_61 : decode cX11_layHome 61 = .ok (.ifCond .eq 87, 3) := by decide +kernel
theorem dX11_layHome_64 : decode cX11_layHome 64 = .ok (.iconst 0, 1) := by decide +kernel
theorem dX11_layHome_65 : decode cX11_layHome 65 = .ok (.istore_n 3, 1) := by decide +kernel
theorem dX11_layHome_66 : decode cX11_layHome 66 = .ok (.iconst 0, 1) := by decide +kernel
theorem dX11_layHome_67 : decode cX11_layHome 67 = .ok (.istore 4, 2) := by decide +kernel
theorem dX11_layHome_69 : decode cX11_layHome 69 = .ok (.iload 4, 2) := by decide +kernel
theorem dX11_layHome_71 : decode cX11_layHome 71 = .ok (.iconst 4, 1) := by decide +kernel
theorem dX11_layHome_72 : decode cX11_layHome 72 = .ok (.iload_n 2, 1) := by decide +kernel
theorem dX11_layHome_73 : decode cX11_layHome 73 = .ok (.imul, 1) := by decide +kernel
theorem dX11_layHome_74 : decode cX11_layHome 74 = .ok (.if_icmp .ge 71, 3) := by decide +kernel
theorem dX11_layHome_77 : decode cX11_layHome 77 = .ok (.aload_n 0, 1) := by decide +kernel
theorem dX11_layHome_78 : decode cX11_layHome 78 = .ok (.iload 4, 2) := by decide +kernel
theorem dX11_layHome_80 : decode cX11_layHome 80 = .ok (.iconst 4, 1) := by decide +kernel
theorem dX11_layHome_81 : decode cX11_layHome 81 = .ok (.idiv, 1) := by decide +kernel
theorem dX11_layHome_82 : decode cX11_layHome 82 = .ok (.iload 4, 2) := by decide +kernel
theorem dX11_layHome_84 : decode cX11_layHome 84 = .ok (.iconst 4, 1) := by decide +kernel
theorem dX11_layHome_85 : decode cX11_layHome 85 = .ok (.irem, 1) := by decide +kernel
theorem dX11_layHome_86 : decode cX11_layHome 86 = .ok (.invokevirtual 196, 3) := by decide +kernel
theorem dX11_layHome_89 : decode cX11_layHome 89 = .ok (.istore 5, 2) := by decide +kernel
theorem dX11_layHome_91 : decode cX11_layHome 91 = .ok (.iload 5, 2) := by decide +kernel
theorem dX11_layHome_93 : decode cX11_layHome 93 = .ok (.bipush (-9), 2) := by decide +kernel
theorem dX11_layHome_95 : decode cX11_layHome 95 = .ok (.if_icmp .eq 44, 3) := by decide +kernel
theorem dX11_layHome_98 : decode cX11_layHome 98 = .ok (.aload_n 0, 1) := by decide +kernel
theorem dX11_layHome_99 : decode cX11_layHome 99 = .ok (.getfield 66, 3) := by decide +kernel
theorem dX11_layHome_102 : decode cX11_layHome 102 = .ok (.iload 5, 2) := by decide +kernel
theorem dX11_layHome_104 : decode cX11_layHome 104 = .ok (.iaload, 1) := by decide +kernel
theorem dX11_layHome_105 : decode cX11_layHome 105 = .ok (.iconst 1, 1) := by decide +kernel
theorem dX11_layHome_106 : decode cX11_layHome 106 = .ok (.iadd, 1) := by decide +kernel
theorem dX11_layHome_107 : decode cX11_layHome 107 = .ok (.aload_n 0, 1) := by decide +kernel
theorem dX11_layHome_108 : decode cX11_layHome 108 = .ok (.getfield 66, 3) := by decide +kernel
theorem dX11_layHome_111 : decode cX11_layHome 111 = .ok (.iload 4, 2) := by decide +kernel
theorem dX11_layHome_113 : decode cX11_layHome 113 = .ok (.iconst 4, 1) := by decide +kernel
theorem dX11_layHome_114 : decode cX11_layHome 114 = .ok (.idiv, 1) := by decide +kernel
theorem dX11_layHome_115 : decode cX11_layHome 115 = .ok (.iaload, 1) := by decide +kernel
theorem dX11_layHome_116 : decode cX11_layHome 116 = .ok (.if_icmp .ge 23, 3) := by decide +kernel
theorem dX11_layHome_119 : decode cX11_layHome 119 = .ok (.aload_n 0, 1) := by decide +kernel
theorem dX11_layHome_120 : decode cX11_layHome 120 = .ok (.getfield 66, 3) := by decide +kernel
theorem dX11_layHome_123 : decode cX11_layHome 123 = .ok (.iload 4, 2) := by decide +kernel
theorem dX11_layHome_125 : decode cX11_layHome 125 = .ok (.iconst 4, 1) := by decide +kernel
theorem dX11_layHome_126 : decode cX11_layHome 126 = .ok (.idiv, 1) := by decide +kernel
theorem dX11_layHome_127 : decode cX11_layHome 127 = .ok (.aload_n 0, 1) := by decide +kernel
theorem dX11_layHome_128 : decode cX11_layHome 128 = .ok (.getfield 66, 3) := by decide +kernel
theorem dX11_layHome_131 : decode cX11_layHome 131 = .ok (.iload 5, 2) := by decide +kernel
theorem dX11_layHome_133 : decode cX11_layHome 133 = .ok (.iaload, 1) := by decide +kernel
theorem dX11_layHome_134 : decode cX11_layHome 134 = .ok (.iconst 1, 1) := by decide +kernel
theorem dX11_layHome_135 : decode cX11_layHome 135 = .ok (.iadd, 1) := by decide +kernel
theorem dX11_layHome_136 : decode cX11_layHome 136 = .ok (.iastore, 1) := by decide +kernel
theorem dX11_layHome_137 : decode cX11_layHome 137 = .ok (.iconst 1, 1) := by decide +kernel
theorem dX11_layHome_138 : decode cX11_layHome 138 = .ok (.istore_n 3, 1) := by decide +kernel
theorem dX11_layHome_139 : decode cX11_layHome 139 = .ok (.iinc 4 1, 3) := by decide +kernel
theorem dX11_layHome_142 : decode cX11_layHome 142 = .ok (.goto (-73), 3) := by decide +kernel
theorem dX11_layHome_145 : decode cX11_layHome 145 = .ok (.goto (-85), 3) := by decide +kernel
theorem dX11_layHome_148 : decode cX11_layHome 148 = .ok (.return_, 1) := by decide +kernel
theorem dX11_home_0 : decode cX11_home 0 = .ok (.aload_n 0, 1) := by decide +kernel
theorem dX11_home_1 : decode cX11_home 1 = .ok (.iload_n 1, 1) := by decide +kernel
theorem dX11_home_2 : decode cX11_home 2 = .ok (.invokevirtual 187, 3) := by decide +kernel
theorem dX11_home_5 : decode cX11_home 5 = .ok (.ifCond .eq 11, 3) := by decide +kernel
theorem dX11_home_8 : decode cX11_home 8 = .ok (.aload_n 0, 1) := by decide +kernel
theorem dX11_home_9 : decode cX11_home 9 = .ok (.iload_n 2, 1) := by decide +kernel
theorem dX11_home_10 : decode cX11_home 10 = .ok (.invokevirtual 111, 3) := by decide +kernel
theorem dX11_home_13 : decode cX11_home 13 = .ok (.ifCond .ne 5, 3) := by decide +kernel
theorem dX11_home_16 : decode cX11_home 16 = .ok (.iconst (-1), 1) := by decide +kernel
theorem dX11_home_17 : decode cX11_home 17 = .ok (.ireturn, 1) := by decide +kernel
theorem dX11_home_18 : decode cX11_home 18 = .ok (.aload_n 0, 1) := by decide +kernel
theorem dX11_home_19 : decode cX11_home 19 = .ok (.iload_n 2, 1) := by decide +kernel
theorem dX11_home_20 : decode cX11_home 20 = .ok (.invokevirtual 199, 3) := by decide +kernel
theorem dX11_home_23 : decode cX11_home 23 = .ok (.aload_n 0, 1) := by decide +kernel
theorem dX11_home_24 : decode cX11_home 24 = .ok (.getfield 66, 3) := by decide +kernel
theorem dX11_home_27 : decode cX11_home 27 = .ok (.bipush 8, 2) := by decide +kernel
theorem dX11_home_29 : decode cX11_home 29 = .ok (.iload_n 1, 1) := by decide +kernel
theorem dX11_home_30 : decode cX11_home 30 = .ok (.imul, 1) := by decide +kernel
theorem dX11_home_31 : decode cX11_home 31 = .ok (.aload_n 0, 1) := by decide +kernel
theorem dX11_home_32 : decode cX11_home 32 = .ok (.getfield 108, 3) := by decide +kernel
theorem dX11_home_35 : decode cX11_home 35 = .ok (.iadd, 1) := by decide +kernel
theorem dX11_home_36 : decode cX11_home 36 = .ok (.iaload, 1) := by decide +kernel
theorem dX11_home_37 : decode cX11_home 37 = .ok (.istore_n 3, 1) := by decide +kernel
theorem dX11_home_38 : decode cX11_home 38 = .ok (.iload_n 3, 1) := by decide +kernel
theorem dX11_home_39 : decode cX11_home 39 = .ok (.ldc 99, 2) := by decide +kernel
theorem dX11_home_41 : decode cX11_home 41 = .ok (.if_icmp .ne 8, 3) := by decide +kernel
theorem dX11_home_44 : decode cX11_home 44 = .ok (.bipush (-9), 2) := by decide +kernel
theorem dX11_home_46 : decode cX11_home 46 = .ok (.goto 4, 3) := by decide +kernel
theorem dX11_home_49 : decode cX11_home 49 = .ok (.iload_n 3, 1) := by decide +kernel
theorem dX11_home_50 : decode cX11_home 50 = .ok (.ireturn, 1) := by decide +kernel
theorem dX11_homeStep_0 : decode cX11_homeStep 0 = .ok (.iconst 0, 1) := by decide +kernel
theorem dX11_homeStep_1 : decode cX11_homeStep 1 = .ok (.istore_n 2, 1) := by decide +kernel
theorem dX11_homeStep_2 : decode cX11_homeStep 2 = .ok (.aload_n 0, 1) := by decide +kernel
theorem dX11_homeStep_3 : decode cX11_homeStep 3 = .ok (.iload_n 1, 1) := by decide +kernel
theorem dX11_homeStep_4 : decode cX11_homeStep 4 = .ok (.iload_n 2, 1) := by decide +kernel
theorem dX11_homeStep_5 : decode cX11_homeStep 5 = .ok (.invokevirtual 196, 3) := by decide +kernel
theorem dX11_homeStep_8 : decode cX11_homeStep 8 = .ok (.bipush (-9), 2) := by decide +kernel
theorem dX11_homeStep_10 : decode cX11_homeStep 10 = .ok (.if_icmp .eq 25, 3) := by decide +kernel
theorem dX11_homeStep_13 : decode cX11_homeStep 13 = .ok (.aload_n 0, 1) := by decide +kernel
theorem dX11_homeStep_14 : decode cX11_homeStep 14 = .ok (.getfield 66, 3) := by decide +kernel
theorem dX11_homeStep_17 : decode cX11_homeStep 17 = .ok (.aload_n 0, 1) := by decide +kernel
theorem dX11_homeStep_18 : decode cX11_homeStep 18 = .ok (.iload_n 1, 1) := by decide +kernel
theorem dX11_homeStep_19 : decode cX11_homeStep 19 = .ok (.iload_n 2, 1) := by decide +kernel
theorem dX11_homeStep_20 : decode cX11_homeStep 20 = .ok (.invokevirtual 196, 3) := by decide +kernel
theorem dX11_homeStep_23 : decode cX11_homeStep 23 = .ok (.iaload, 1) := by decide +kernel
theorem dX11_homeStep_24 : decode cX11_homeStep 24 = .ok (.aload_n 0, 1) := by decide +kernel
theorem dX11_homeStep_25 : decode cX11_homeStep 25 = .ok (.getfield 66, 3) := by decide +kernel
theorem dX11_homeStep_28 : decode cX11_homeStep 28 = .ok (.iload_n 1, 1) := by decide +kernel
theorem dX11_homeStep_29 : decode cX11_homeStep 29 = .ok (.iaload, 1) := by decide +kernel
theorem dX11_homeStep_30 : decode cX11_homeStep 30 = .ok (.iconst 1, 1) := by decide +kernel
theorem dX11_homeStep_31 : decode cX11_homeStep 31 = .ok (.isub, 1) := by decide +kernel
theorem dX11_homeStep_32 : decode cX11_homeStep 32 = .ok (.if_icmp .eq 9, 3) := by decide +kernel
theorem dX11_homeStep_35 : decode cX11_homeStep 35 = .ok (.iinc 2 1, 3) := by decide +kernel
theorem dX11_homeStep_38 : decode cX11_homeStep 38 = .ok (.goto (-36), 3) := by decide +kernel
theorem dX11_homeStep_41 : decode cX11_homeStep 41 = .ok (.aload_n 0, 1) := by decide +kernel
theorem dX11_homeStep_42 : decode cX11_homeStep 42 = .ok (.iload_n 2, 1) := by decide +kernel
theorem dX11_homeStep_43 : decode cX11_homeStep 43 = .ok (.putfield 202, 3) := by decide +kernel
theorem dX11_homeStep_46 : decode cX11_homeStep 46 = .ok (.aload_n 0, 1) := by decide +kernel
theorem dX11_homeStep_47 : decode cX11_homeStep 47 = .ok (.iload_n 1, 1) := by decide +kernel
theorem dX11_homeStep_48 : decode cX11_homeStep 48 = .ok (.iload_n 2, 1) := by decide +kernel
theorem dX11_homeStep_49 : decode cX11_homeStep 49 = .ok (.invokevirtual 196, 3) := by decide +kernel
theorem dX11_homeStep_52 : decode cX11_homeStep 52 = .ok (.ireturn, 1) := by decide +kernel
theorem dX11_homeWay_0 : decode cX11_homeWay 0 = .ok (.aload_n 0, 1) := by decide +kernel
theorem dX11_homeWay_1 : decode cX11_homeWay 1 = .ok (.iload_n 1, 1) := by decide +kernel
theorem dX11_homeWay_2 : decode cX11_homeWay 2 = .ok (.invokevirtual 187, 3) := by decide +kernel
theorem dX11_homeWay_5 : decode cX11_homeWay 5 = .ok (.ifCond .eq 11, 3) := by decide +kernel
theorem dX11_homeWay_8 : decode cX11_homeWay 8 = .ok (.aload_n 0, 1) := by decide +kernel
theorem dX11_homeWay_9 : decode cX11_homeWay 9 = .ok (.iload_n 2, 1) := by decide +kernel
theorem dX11_homeWay_10 : decode cX11_homeWay 10 = .ok (.invokevirtual 111, 3) := by decide +kernel
theorem dX11_homeWay_13 : decode cX11_homeWay 13 = .ok (.ifCond .ne 5, 3) := by decide +kernel
theorem dX11_homeWay_16 : decode cX11_homeWay 16 = .ok (.iconst (-1), 1) := by decide +kernel
theorem dX11_homeWay_17 : decode cX11_homeWay 17 = .ok (.ireturn, 1) := by decide +kernel
theorem dX11_homeWay_18 : decode cX11_homeWay 18 = .ok (.aload_n 0, 1) := by decide +kernel
theorem dX11_homeWay_19 : decode cX11_homeWay 19 = .ok (.iload_n 2, 1) := by decide +kernel
theorem dX11_homeWay_20 : decode cX11_homeWay 20 = .ok (.invokevirtual 199, 3) := by decide +kernel
theorem dX11_homeWay_23 : decode cX11_homeWay 23 = .ok (.bipush 8, 2) := by decide +kernel
theorem dX11_homeWay_25 : decode cX11_homeWay 25 = .ok (.iload_n 1, 1) := by decide +kernel
theorem dX11_homeWay_26 : decode cX11_homeWay 26 = .ok (.imul, 1) := by decide +kernel
theorem dX11_homeWay_27 : decode cX11_homeWay 27 = .ok (.aload_n 0, 1) := by decide +kernel
theorem dX11_homeWay_28 : decode cX11_homeWay 28 = .ok (.getfield 108, 3) := by decide +kernel
theorem dX11_homeWay_31 : decode cX11_homeWay 31 = .ok (.iadd, 1) := by decide +kernel
theorem dX11_homeWay_32 : decode cX11_homeWay 32 = .ok (.istore 4, 2) := by decide +kernel
theorem dX11_homeWay_34 : decode cX11_homeWay 34 = .ok (.aload_n 0, 1) := by decide +kernel
theorem dX11_homeWay_35 : decode cX11_homeWay 35 = .ok (.getfield 66, 3) := by decide +kernel
theorem dX11_homeWay_38 : decode cX11_homeWay 38 = .ok (.iload 4, 2) := by decide +kernel
theorem dX11_homeWay_40 : decode cX11_homeWay 40 = .ok (.iaload, 1) := by decide +kernel
theorem dX11_homeWay_41 : decode cX11_homeWay 41 = .ok (.ldc 99, 2) := by decide +kernel
theorem dX11_homeWay_43 : decode cX11_homeWay 43 = .ok (.if_icmp .eq 22, 3) := by decide +kernel
theorem dX11_homeWay_46 : decode cX11_homeWay 46 = .ok (.iload_n 3, 1) := by decide +kernel
theorem dX11_homeWay_47 : decode cX11_homeWay 47 = .ok (.i2l, 1) := by decide +kernel
theorem dX11_homeWay_48 : decode cX11_homeWay 48 = .ok (.lconst 0, 1) := by decide +kernel
theorem dX11_homeWay_49 : decode cX11_homeWay 49 = .ok (.aload_n 0, 1) := by decide +kernel
theorem dX11_homeWay_50 : decode cX11_homeWay 50 = .ok (.getfield 66, 3) := by decide +kernel
theorem dX11_homeWay_53 : decode cX11_homeWay 53 = .ok (.iload 4, 2) := by decide +kernel
theorem dX11_homeWay_55 : decode cX11_homeWay 55 = .ok (.iaload, 1) := by decide +kernel
theorem dX11_homeWay_56 : decode cX11_homeWay 56 = .ok (.iconst 1, 1) := by decide +kernel
theorem dX11_homeWay_57 : decode cX11_homeWay 57 = .ok (.isub, 1) := by decide +kernel
theorem dX11_homeWay_58 : decode cX11_homeWay 58 = .ok (.i2l, 1) := by decide +kernel
theorem dX11_homeWay_59 : decode cX11_homeWay 59 = .ok (.invokestatic 84, 3) := by decide +kernel
theorem dX11_homeWay_62 : decode cX11_homeWay 62 = .ok (.ifCond .ne 6, 3) := by decide +kernel
theorem dX11_homeWay_65 : decode cX11_homeWay 65 = .ok (.bipush (-9), 2) := by decide +kernel
theorem dX11_homeWay_67 : decode cX11_homeWay 67 = .ok (.ireturn, 1) := by decide +kernel
theorem dX11_homeWay_68 : decode cX11_homeWay 68 = .ok (.iconst 0, 1) := by decide +kernel
theorem dX11_homeWay_69 : decode cX11_homeWay 69 = .ok (.istore 5, 2) := by decide +kernel
theorem dX11_homeWay_71 : decode cX11_homeWay 71 = .ok (.iload 5, 2) := by decide +kernel
theorem dX11_homeWay_73 : decode cX11_homeWay 73 = .ok (.iload_n 3, 1) := by decide +kernel
theorem dX11_homeWay_74 : decode cX11_homeWay 74 = .ok (.if_icmp .gt 17, 3) := by decide +kernel
theorem dX11_homeWay_77 : decode cX11_homeWay 77 = .ok (.aload_n 0, 1) := by decide +kernel
theorem dX11_homeWay_78 : decode cX11_homeWay 78 = .ok (.iload 4, 2) := by decide +kernel
theorem dX11_homeWay_80 : decode cX11_homeWay 80 = .ok (.invokevirtual 205, 3) := by decide +kernel
theorem dX11_homeWay_83 : decode cX11_homeWay 83 = .ok (.istore 4, 2) := by decide +kernel
theorem dX11_homeWay_85 : decode cX11_homeWay 85 = .ok (.iinc 5 1, 3) := by decide +kernel
theorem dX11_homeWay_88 : decode cX11_homeWay 88 = .ok (.goto (-17), 3) := by decide +kernel
theorem dX11_homeWay_91 : decode cX11_homeWay 91 = .ok (.aload_n 0, 1) := by decide +kernel
theorem dX11_homeWay_92 : decode cX11_homeWay 92 = .ok (.getfield 202, 3) := by decide +kernel
theorem dX11_homeWay_95 : decode cX11_homeWay 95 = .ok (.ireturn, 1) := by decide +kernel
theorem dX11_homeGroups_0 : decode cX11_homeGroups 0 = .ok (.aload_n 0, 1) := by decide +kernel
theorem dX11_homeGroups_1 : decode cX11_homeGroups 1 = .ok (.iload_n 1, 1) := by decide +kernel
theorem dX11_homeGroups_2 : decode cX11_homeGroups 2 = .ok (.invokevirtual 187, 3) := by decide +kernel
theorem dX11_homeGroups_5 : decode cX11_homeGroups 5 = .ok (.ifCond .eq 11, 3) := by decide +kernel
theorem dX11_homeGroups_8 : decode cX11_homeGroups 8 = .ok (.aload_n 0, 1) := by decide +kernel
theorem dX11_homeGroups_9 : decode cX11_homeGroups 9 = .ok (.iload_n 2, 1) := by decide +kernel
theorem dX11_homeGroups_10 : decode cX11_homeGroups 10 = .ok (.invokevirtual 111, 3) := by decide +kernel
theorem dX11_homeGroups_13 : decode cX11_homeGroups 13 = .ok (.ifCond .ne 5, 3) := by decide +kernel
theorem dX11_homeGroups_16 : decode cX11_homeGroups 16 = .ok (.iconst (-1), 1) := by decide +kernel
theorem dX11_homeGroups_17 : decode cX11_homeGroups 17 = .ok (.ireturn, 1) := by decide +kernel
theorem dX11_homeGroups_18 : decode cX11_homeGroups 18 = .ok (.aload_n 0, 1) := by decide +kernel
theorem dX11_homeGroups_19 : decode cX11_homeGroups 19 = .ok (.iload_n 2, 1) := by decide +kernel
theorem dX11_homeGroups_20 : decode cX11_homeGroups 20 = .ok (.invokevirtual 199, 3) := by decide +kernel
theorem dX11_homeGroups_23 : decode cX11_homeGroups 23 = .ok (.bipush 8, 2) := by decide +kernel
theorem dX11_homeGroups_25 : decode cX11_homeGroups 25 = .ok (.iload_n 1, 1) := by decide +kernel
theorem dX11_homeGroups_26 : decode cX11_homeGroups 26 = .ok (.imul, 1) := by decide +kernel
theorem dX11_homeGroups_27 : decode cX11_homeGroups 27 = .ok (.aload_n 0, 1) := by decide +kernel
theorem dX11_homeGroups_28 : decode cX11_homeGroups 28 = .ok (.getfield 108, 3) := by decide +kernel
theorem dX11_homeGroups_31 : decode cX11_homeGroups 31 = .ok (.iadd, 1) := by decide +kernel
theorem dX11_homeGroups_32 : decode cX11_homeGroups 32 = .ok (.istore_n 3, 1) := by decide +kernel
theorem dX11_homeGroups_33 : decode cX11_homeGroups 33 = .ok (.aload_n 0, 1) := by decide +kernel
theorem dX11_homeGroups_34 : decode cX11_homeGroups 34 = .ok (.getfield 66, 3) := by decide +kernel
theorem dX11_homeGroups_37 : decode cX11_homeGroups 37 = .ok (.iload_n 3, 1) := by decide +kernel
theorem dX11_homeGroups_38 : decode cX11_homeGroups 38 = .ok (.iaload, 1) := by decide +kernel
theorem dX11_homeGroups_39 : decode cX11_homeGroups 39 = .ok (.ldc 99, 2) := by decide +kernel
theorem dX11_homeGroups_41 : decode cX11_homeGroups 41 = .ok (.if_icmp .ne 6, 3) := by decide +kernel
theorem dX11_homeGroups_44 : decode cX11_homeGroups 44 = .ok (.bipush (-9), 2) := by decide +kernel
theorem dX11_homeGroups_46 : decode cX11_homeGroups 46 = .ok (.ireturn, 1) := by decide +kernel
theorem dX11_homeGroups_47 : decode cX11_homeGroups 47 = .ok (.aload_n 0, 1) := by decide +kernel
theorem dX11_homeGroups_48 : decode cX11_homeGroups 48 = .ok (.getfield 66, 3) := by decide +kernel
theorem dX11_homeGroups_51 : decode cX11_homeGroups 51 = .ok (.iload_n 3, 1) := by decide +kernel
theorem dX11_homeGroups_52 : decode cX11_homeGroups 52 = .ok (.iaload, 1) := by decide +kernel
theorem dX11_homeGroups_53 : decode cX11_homeGroups 53 = .ok (.ifCond .le 12, 3) := by decide +kernel
theorem dX11_homeGroups_56 : decode cX11_homeGroups 56 = .ok (.aload_n 0, 1) := by decide +kernel
theorem dX11_homeGroups_57 : decode cX11_homeGroups 57 = .ok (.iload_n 3, 1) := by decide +kernel
theorem dX11_homeGroups_58 : decode cX11_homeGroups 58 = .ok (.invokevirtual 205, 3) := by decide +kernel
theorem dX11_homeGroups_61 : decode cX11_homeGroups 61 = .ok (.istore_n 3, 1) := by decide +kernel
theorem dX11_homeGroups_62 : decode cX11_homeGroups 62 = .ok (.goto (-15), 3) := by decide +kernel
theorem dX11_homeGroups_65 : decode cX11_homeGroups 65 = .ok (.iload_n 3, 1) := by decide +kernel
theorem dX11_homeGroups_66 : decode cX11_homeGroups 66 = .ok (.bipush 8, 2) := by decide +kernel
theorem dX11_homeGroups_68 : decode cX11_homeGroups 68 = .ok (.irem, 1) := by decide +kernel
theorem dX11_homeGroups_69 : decode cX11_homeGroups 69 = .ok (.ireturn, 1) := by decide +kernel
theorem dX11_whence_0 : decode cX11_whence 0 = .ok (.aload_n 0, 1) := by decide +kernel
theorem dX11_whence_1 : decode cX11_whence 1 = .ok (.iload_n 1, 1) := by decide +kernel
theorem dX11_whence_2 : decode cX11_whence 2 = .ok (.invokevirtual 111, 3) := by decide +kernel
theorem dX11_whence_5 : decode cX11_whence 5 = .ok (.ifCond .ne 5, 3) := by decide +kernel
theorem dX11_whence_8 : decode cX11_whence 8 = .ok (.iconst (-1), 1) := by decide +kernel
theorem dX11_whence_9 : decode cX11_whence 9 = .ok (.ireturn, 1) := by decide +kernel
theorem dX11_whence_10 : decode cX11_whence 10 = .ok (.aload_n 0, 1) := by decide +kernel
theorem dX11_whence_11 : decode cX11_whence 11 = .ok (.iload_n 1, 1) := by decide +kernel
theorem dX11_whence_12 : decode cX11_whence 12 = .ok (.invokevirtual 199, 3) := by decide +kernel
theorem dX11_whence_15 : decode cX11_whence 15 = .ok (.iconst 0, 1) := by decide +kernel
theorem dX11_whence_16 : decode cX11_whence 16 = .ok (.istore_n 3, 1) := by decide +kernel
theorem dX11_whence_17 : decode cX11_whence 17 = .ok (.bipush (-9), 2) := by decide +kernel
theorem dX11_whence_19 : decode cX11_whence 19 = .ok (.istore 4, 2) := by decide +kernel
theorem dX11_whence_21 : decode cX11_whence 21 = .ok (.iconst (-1), 1) := by decide +kernel
theorem dX11_whence_22 : decode cX11_whence 22 = .ok (.istore 5, 2) := by decide +kernel
theorem dX11_whence_24 : decode cX11_whence 24 = .ok (.iconst 0, 1) := by decide +kernel
theorem dX11_whence_25 : decode cX11_whence 25 = .ok (.istore 6, 2) := by decide +kernel
theorem dX11_whence_27 : decode cX11_whence 27 = .ok (.iload 6, 2) := by decide +kernel
theorem dX11_whence_29 : decode cX11_whence 29 = .ok (.iconst 3, 1) := by decide +kernel
theorem dX11_whence_30 : decode cX11_whence 30 = .ok (.aload_n 0, 1) := by decide +kernel
theorem dX11_whence_31 : decode cX11_whence 31 = .ok (.invokevirtual 100, 3) := by decide +kernel
theorem dX11_whence_34 : decode cX11_whence 34 = .ok (.imul, 1) := by decide +kernel
theorem dX11_whence_35 : decode cX11_whence 35 = .ok (.if_icmp .ge 87, 3) := by decide +kernel
theorem dX11_whence_38 : decode cX11_whence 38 = .ok (.aload_n 0, 1) := by decide +kernel
theorem dX11_whence_39 : decode cX11_whence 39 = .ok (.getfield 66, 3) := by decide +kernel
theorem dX11_whence_42 : decode cX11_whence 42 = .ok (.bipush 8, 2) := by decide +kernel
theorem dX11_whence_44 : decode cX11_whence 44 = .ok (.iload 6, 2) := by decide +kernel
theorem dX11_whence_46 : decode cX11_whence 46 = .ok (.imul, 1) := by decide +kernel
theorem dX11_whence_47 : decode cX11_whence 47 = .ok (.aload_n 0, 1) := by decide +kernel
theorem dX11_whence_48 : decode cX11_whence 48 = .ok (.getfield 108, 3) := by decide +kernel
theorem dX11_whence_51 : decode cX11_whence 51 = .ok (.iadd, 1) := by decide +kernel
theorem dX11_whence_52 : decode cX11_whence 52 = .ok (.iaload, 1) := by decide +kernel
theorem dX11_whence_53 : decode cX11_whence 53 = .ok (.istore 7, 2) := by decide +kernel
theorem dX11_whence_55 : decode cX11_whence 55 = .ok (.iload_n 3, 1) := by decide +kernel
theorem dX11_whence_56 : decode cX11_whence 56 = .ok (.iload 7, 2) := by decide +kernel
theorem dX11_whence_58 : decode cX11_whence 58 = .ok (.ldc 99, 2) := by decide +kernel
theorem dX11_whence_60 : decode cX11_whence 60 = .ok (.if_icmp .ge 7, 3) := by decide +kernel
theorem dX11_whence_63 : decode cX11_whence 63 = .ok (.iconst 1, 1) := by decide +kernel
theorem dX11_whence_64 : decode cX11_whence 64 = .ok (.goto 4, 3) := by decide +kernel
theorem dX11_whence_67 : decode cX11_whence 67 = .ok (.iconst 0, 1) := by decide +kernel
theorem dX11_whence_68 : decode cX11_whence 68 = .ok (.iadd, 1) := by decide +kernel
theorem dX11_whence_69 : decode cX11_whence 69 = .ok (.istore_n 3, 1) := by decide +kernel
theorem dX11_whence_70 : decode cX11_whence 70 = .ok (.iload 7, 2) := by decide +kernel
theorem dX11_whence_72 : decode cX11_whence 72 = .ok (.ldc 99, 2) := by decide +kernel
theorem dX11_whence_74 : decode cX11_whence 74 = .ok (.if_icmp .ge 15, 3) := by decide +kernel
theorem dX11_whence_77 : decode cX11_whence 77 = .ok (.iload 7, 2) := by decide +kernel
theorem dX11_whence_79 : decode cX11_whence 79 = .ok (.iload 5, 2) := by decide +kernel
theorem dX11_whence_81 : decode cX11_whence 81 = .ok (.if_icmp .le 8, 3) := by decide +kernel
theorem dX11_whence_84 : decode cX11_whence 84 = .ok (.iload 6, 2) := by decide +kernel
theorem dX11_whence_86 : decode cX11_whence 86 = .ok (.goto 5, 3) := by decide +kernel
theorem dX11_whence_89 : decode cX11_whence 89 = .ok (.iload 4, 2) := by decide +kernel
theorem dX11_whence_91 : decode cX11_whence 91 = .ok (.istore 4, 2) := by decide +kernel
theorem dX11_whence_93 : decode cX11_whence 93 = .ok (.iload 7, 2) := by decide +kernel
theorem dX11_whence_95 : decode cX11_whence 95 = .ok (.ldc 99, 2) := by decide +kernel
theorem dX11_whence_97 : decode cX11_whence 97 = .ok (.if_icmp .ge 15, 3) := by decide +kernel
theorem dX11_whence_100 : decode cX11_whence 100 = .ok (.iload 7, 2) := by decide +kernel
theorem dX11_whence_102 : decode cX11_whence 102 = .ok (.iload 5, 2) := by decide +kernel
theorem dX11_whence_104 : decode cX11_whence 104 = .ok (.if_icmp .le 8, 3) := by decide +kernel
theorem dX11_whence_107 : decode cX11_whence 107 = .ok (.iload 7, 2) := by decide +kernel
theorem dX11_whence_109 : decode cX11_whence 109 = .ok (.goto 5, 3) := by decide +kernel
theorem dX11_whence_112 : decode cX11_whence 112 = .ok (.iload 5, 2) := by decide +kernel
theorem dX11_whence_114 : decode cX11_whence 114 = .ok (.istore 5, 2) := by decide +kernel
theorem dX11_whence_116 : decode cX11_whence 116 = .ok (.iinc 6 1, 3) := by decide +kernel
theorem dX11_whence_119 : decode cX11_whence 119 = .ok (.goto (-92), 3) := by decide +kernel
theorem dX11_whence_122 : decode cX11_whence 122 = .ok (.iload_n 2, 1) := by decide +kernel
theorem dX11_whence_123 : decode cX11_whence 123 = .ok (.ifCond .eq 8, 3) := by decide +kernel
theorem dX11_whence_126 : decode cX11_whence 126 = .ok (.iload 4, 2) := by decide +kernel
theorem dX11_whence_128 : decode cX11_whence 128 = .ok (.goto 4, 3) := by decide +kernel
theorem dX11_whence_131 : decode cX11_whence 131 = .ok (.iload_n 3, 1) := by decide +kernel
theorem dX11_whence_132 : decode cX11_whence 132 = .ok (.ireturn, 1) := by decide +kernel
theorem dX11_must_0 : decode cX11_must 0 = .ok (.aload_n 0, 1) := by decide +kernel
theorem dX11_must_1 : decode cX11_must 1 = .ok (.iload_n 1, 1) := by decide +kernel
theorem dX11_must_2 : decode cX11_must 2 = .ok (.invokevirtual 187, 3) := by decide +kernel
theorem dX11_must_5 : decode cX11_must 5 = .ok (.ifCond .eq 19, 3) := by decide +kernel
theorem dX11_must_8 : decode cX11_must 8 = .ok (.aload_n 0, 1) := by decide +kernel
theorem dX11_must_9 : decode cX11_must 9 = .ok (.iload_n 2, 1) := by decide +kernel
theorem dX11_must_10 : decode cX11_must 10 = .ok (.invokevirtual 111, 3) := by decide +kernel
theorem dX11_must_13 : decode cX11_must 13 = .ok (.ifCond .eq 11, 3) := by decide +kernel
theorem dX11_must_16 : decode cX11_must 16 = .ok (.aload_n 0, 1) := by decide +kernel
theorem dX11_must_17 : decode cX11_must 17 = .ok (.iload_n 3, 1) := by decide +kernel
theorem dX11_must_18 : decode cX11_must 18 = .ok (.invokevirtual 111, 3) := by decide +kernel
theorem dX11_must_21 : decode cX11_must 21 = .ok (.ifCond .ne 5, 3) := by decide +kernel
theorem dX11_must_24 : decode cX11_must 24 = .ok (.iconst (-1), 1) := by decide +kernel
theorem dX11_must_25 : decode cX11_must 25 = .ok (.ireturn, 1) := by decide +kernel
theorem dX11_must_26 : decode cX11_must 26 = .ok (.aload_n 0, 1) := by decide +kernel
theorem dX11_must_27 : decode cX11_must 27 = .ok (.iload_n 2, 1) := by decide +kernel
theorem dX11_must_28 : decode cX11_must 28 = .ok (.invokevirtual 199, 3) := by decide +kernel
theorem dX11_must_31 : decode cX11_must 31 = .ok (.aload_n 0, 1) := by decide +kernel
theorem dX11_must_32 : decode cX11_must 32 = .ok (.getfield 66, 3) := by decide +kernel
theorem dX11_must_35 : decode cX11_must 35 = .ok (.bipush 8, 2) := by decide +kernel
theorem dX11_must_37 : decode cX11_must 37 = .ok (.iload_n 1, 1) := by decide +kernel
theorem dX11_must_38 : decode cX11_must 38 = .ok (.imul, 1) := by decide +kernel
theorem dX11_must_39 : decode cX11_must 39 = .ok (.aload_n 0, 1) := by decide +kernel
theorem dX11_must_40 : decode cX11_must 40 = .ok (.getfield 108, 3) := by decide +kernel
theorem dX11_must_43 : decode cX11_must 43 = .ok (.iadd, 1) := by decide +kernel
theorem dX11_must_44 : decode cX11_must 44 = .ok (.iaload, 1) := by decide +kernel
theorem dX11_must_45 : decode cX11_must 45 = .ok (.ldc 99, 2) := by decide +kernel
theorem dX11_must_47 : decode cX11_must 47 = .ok (.if_icmp .ne 5, 3) := by decide +kernel
theorem dX11_must_50 : decode cX11_must 50 = .ok (.iconst 0, 1) := by decide +kernel
theorem dX11_must_51 : decode cX11_must 51 = .ok (.ireturn, 1) := by decide +kernel
theorem dX11_must_52 : decode cX11_must 52 = .ok (.aload_n 0, 1) := by decide +kernel
theorem dX11_must_53 : decode cX11_must 53 = .ok (.getfield 32, 3) := by decide +kernel
theorem dX11_must_56 : decode cX11_must 56 = .ok (.iload_n 3, 1) := by decide +kernel
theorem dX11_must_57 : decode cX11_must 57 = .ok (.iaload, 1) := by decide +kernel
theorem dX11_must_58 : decode cX11_must 58 = .ok (.istore 4, 2) := by decide +kernel
theorem dX11_must_60 : decode cX11_must 60 = .ok (.aload_n 0, 1) := by decide +kernel
theorem dX11_must_61 : decode cX11_must 61 = .ok (.getfield 32, 3) := by decide +kernel
theorem dX11_must_64 : decode cX11_must 64 = .ok (.iload_n 3, 1) := by decide +kernel
theorem dX11_must_65 : decode cX11_must 65 = .ok (.iconst 1, 1) := by decide +kernel
theorem dX11_must_66 : decode cX11_must 66 = .ok (.iastore, 1) := by decide +kernel
theorem dX11_must_67 : decode cX11_must 67 = .ok (.aload_n 0, 1) := by decide +kernel
theorem dX11_must_68 : decode cX11_must 68 = .ok (.iload_n 2, 1) := by decide +kernel
theorem dX11_must_69 : decode cX11_must 69 = .ok (.invokevirtual 199, 3) := by decide +kernel
theorem dX11_must_72 : decode cX11_must 72 = .ok (.aload_n 0, 1) := by decide +kernel
theorem dX11_must_73 : decode cX11_must 73 = .ok (.getfield 66, 3) := by decide +kernel
theorem dX11_must_76 : decode cX11_must 76 = .ok (.bipush 8, 2) := by decide +kernel
theorem dX11_must_78 : decode cX11_must 78 = .ok (.iload_n 1, 1) := by decide +kernel
theorem dX11_must_79 : decode cX11_must 79 = .ok (.imul, 1) := by decide +kernel
theorem dX11_must_80 : decode cX11_must 80 = .ok (.aload_n 0, 1) := by decide +kernel
theorem dX11_must_81 : decode cX11_must 81 = .ok (.getfield 108, 3) := by decide +kernel
theorem dX11_must_84 : decode cX11_must 84 = .ok (.iadd, 1) := by decide +kernel
theorem dX11_must_85 : decode cX11_must 85 = .ok (.iaload, 1) := by decide +kernel
theorem dX11_must_86 : decode cX11_must 86 = .ok (.ldc 99, 2) := by decide +kernel
theorem dX11_must_88 : decode cX11_must 88 = .ok (.if_icmp .ge 7, 3) := by decide +kernel
theorem dX11_must_91 : decode cX11_must 91 = .ok (.iconst 1, 1) := by decide +kernel
theorem dX11_must_92 : decode cX11_must 92 = .ok (.goto 4, 3) := by decide +kernel
theorem dX11_must_95 : decode cX11_must 95 = .ok (.iconst 0, 1) := by decide +kernel
theorem dX11_must_96 : decode cX11_must 96 = .ok (.istore 5, 2) := by decide +kernel
theorem dX11_must_98 : decode cX11_must 98 = .ok (.aload_n 0, 1) := by decide +kernel
theorem dX11_must_99 : decode cX11_must 99 = .ok (.getfield 32, 3) := by decide +kernel
theorem dX11_must_102 : decode cX11_must 102 = .ok (.iload_n 3, 1) := by decide +kernel
theorem dX11_must_103 : decode cX11_must 103 = .ok (.iload 4, 2) := by decide +kernel
theorem dX11_must_105 : decode cX11_must 105 = .ok (.iastore, 1) := by decide +kernel
theorem dX11_must_106 : decode cX11_must 106 = .ok (.iload 5, 2) := by decide +kernel
theorem dX11_must_108 : decode cX11_must 108 = .ok (.ifCond .eq 7, 3) := by decide +kernel
theorem dX11_must_111 : decode cX11_must 111 = .ok (.iconst 0, 1) := by decide +kernel
theorem dX11_must_112 : decode cX11_must 112 = .ok (.goto 4, 3) := by decide +kernel
theorem dX11_must_115 : decode cX11_must 115 = .ok (.iconst 1, 1) := by decide +kernel
theorem dX11_must_116 : decode cX11_must 116 = .ok (.ireturn, 1) := by decide +kernel
theorem dX11_count_0 : decode cX11_count 0 = .ok (.iconst 0, 1) := by decide +kernel
theorem dX11_count_1 : decode cX11_count 1 = .ok (.istore_n 2, 1) := by decide +kernel
theorem dX11_count_2 : decode cX11_count 2 = .ok (.iconst 0, 1) := by decide +kernel
theorem dX11_count_3 : decode cX11_count 3 = .ok (.istore_n 3, 1) := by decide +kernel
theorem dX11_count_4 : decode cX11_count 4 = .ok (.iconst 0, 1) := by decide +kernel
theorem dX11_count_5 : decode cX11_count 5 = .ok (.istore 4, 2) := by decide +kernel
theorem dX11_count_7 : decode cX11_count 7 = .ok (.iconst 0, 1) := by decide +kernel
theorem dX11_count_8 : decode cX11_count 8 = .ok (.istore 5, 2) := by decide +kernel
theorem dX11_count_10 : decode cX11_count 10 = .ok (.iload 5, 2) := by decide +kernel
theorem dX11_count_12 : decode cX11_count 12 = .ok (.iconst 3, 1) := by decide +kernel
theorem dX11_count_13 : decode cX11_count 13 = .ok (.if_icmp .ge 21, 3) := by decide +kernel
theorem dX11_count_16 : decode cX11_count 16 = .ok (.iload_n 2, 1) := by decide +kernel
theorem dX11_count_17 : decode cX11_count 17 = .ok (.aload_n 0, 1) := by decide +kernel
theorem dX11_count_18 : decode cX11_count 18 = .ok (.getfield 108, 3) := by decide +kernel
theorem dX11_count_21 : decode cX11_count 21 = .ok (.iload 5, 2) := by decide +kernel
theorem dX11_count_23 : decode cX11_count 23 = .ok (.ishr, 1) := by decide +kernel
theorem dX11_count_24 : decode cX11_count 24 = .ok (.iconst 1, 1) := by decide +kernel
theorem dX11_count_25 : decode cX11_count 25 = .ok (.iand, 1) := by decide +kernel
theorem dX11_count_26 : decode cX11_count 26 = .ok (.iadd, 1) := by decide +kernel
theorem dX11_count_27 : decode cX11_count 27 = .ok (.istore_n 2, 1) := by decide +kernel
theorem dX11_count_28 : decode cX11_count 28 = .ok (.iinc 5 1, 3) := by decide +kernel
theorem dX11_count_31 : decode cX11_count 31 = .ok (.goto (-21), 3) := by decide +kernel
theorem dX11_count_34 : decode cX11_count 34 = .ok (.iconst 0, 1) := by decide +kernel
theorem dX11_count_35 : decode cX11_count 35 = .ok (.istore 5, 2) := by decide +kernel
theorem dX11_count_37 : decode cX11_count 37 = .ok (.iload 5, 2) := by decide +kernel
theorem dX11_count_39 : decode cX11_count 39 = .ok (.aload_n 0, 1) := by decide +kernel
theorem dX11_count_40 : decode cX11_count 40 = .ok (.invokevirtual 100, 3) := by decide +kernel
theorem dX11_count_43 : decode cX11_count 43 = .ok (.if_icmp .ge 27, 3) := by decide +kernel
theorem dX11_count_46 : decode cX11_count 46 = .ok (.iload_n 3, 1) := by decide +kernel
theorem dX11_count_47 : decode cX11_count 47 = .ok (.aload_n 0, 1) := by decide +kernel
theorem dX11_count_48 : decode cX11_count 48 = .ok (.getfield 35, 3) := by decide +kernel
theorem dX11_count_51 : decode cX11_count 51 = .ok (.iload 5, 2) := by decide +kernel
theorem dX11_count_53 : decode cX11_count 53 = .ok (.iaload, 1) := by decide +kernel
theorem dX11_count_54 : decode cX11_count 54 = .ok (.ifCond .le 7, 3) := by decide +kernel
theorem dX11_count_57 : decode cX11_count 57 = .ok (.iconst 1, 1) := by decide +kernel
theorem dX11_count_58 : decode cX11_count 58 = .ok (.goto 4, 3) := by decide +kernel
theorem dX11_count_61 : decode cX11_count 61 = .ok (.iconst 0, 1) := by decide +kernel
theorem dX11_count_62 : decode cX11_count 62 = .ok (.iadd, 1) := by decide +kernel
theorem dX11_count_63 : decode cX11_count 63 = .ok (.istore_n 3, 1) := by decide +kernel
theorem dX11_count_64 : decode cX11_count 64 = .ok (.iinc 5 1, 3) := by decide +kernel
theorem dX11_count_67 : decode cX11_count 67 = .ok (.goto (-30), 3) := by decide +kernel
theorem dX11_count_70 : decode cX11_count 70 = .ok (.iconst 0, 1) := by decide +kernel
theorem dX11_count_71 : decode cX11_count 71 = .ok (.istore 5, 2) := by decide +kernel
theorem dX11_count_73 : decode cX11_count 73 = .ok (.iload 5, 2) := by decide +kernel
theorem dX11_count_75 : decode cX11_count 75 = .ok (.iconst 3, 1) := by decide +kernel
theorem dX11_count_76 : decode cX11_count 76 = .ok (.aload_n 0, 1) := by decide +kernel
theorem dX11_count_77 : decode cX11_count 77 = .ok (.invokevirtual 100, 3) := by decide +kernel
theorem dX11_count_80 : decode cX11_count 80 = .ok (.imul, 1) := by decide +kernel
theorem dX11_count_81 : decode cX11_count 81 = .ok (.if_icmp .ge 32, 3) := by decide +kernel
theorem dX11_count_84 : decode cX11_count 84 = .ok (.iload 4, 2) := by decide +kernel
theorem dX11_count_86 : decode cX11_count 86 = .ok (.aload_n 0, 1) := by decide +kernel
theorem dX11_count_87 : decode cX11_count 87 = .ok (.iload 5, 2) := by decide +kernel
theorem dX11_count_89 : decode cX11_count 89 = .ok (.aload_n 0, 1) := by decide +kernel
theorem dX11_count_90 : decode cX11_count 90 = .ok (.getfield 108, 3) := by decide +kernel
theorem dX11_count_93 : decode cX11_count 93 = .ok (.invokevirtual 190, 3) := by decide +kernel
theorem dX11_count_96 : decode cX11_count 96 = .ok (.ifCond .eq 7, 3) := by decide +kernel
theorem dX11_count_99 : decode cX11_count 99 = .ok (.iconst 1, 1) := by decide +kernel
theorem dX11_count_100 : decode cX11_count 100 = .ok (.goto 4, 3) := by decide +kernel
theorem dX11_count_103 : decode cX11_count 103 = .ok (.iconst 0, 1) := by decide +kernel
theorem dX11_count_104 : decode cX11_count 104 = .ok (.iadd, 1) := by decide +kernel
theorem dX11_count_105 : decode cX11_count 105 = .ok (.istore 4, 2) := by decide +kernel
theorem dX11_count_107 : decode cX11_count 107 = .ok (.iinc 5 1, 3) := by decide +kernel
theorem dX11_count_110 : decode cX11_count 110 = .ok (.goto (-37), 3) := by decide +kernel
theorem dX11_count_113 : decode cX11_count 113 = .ok (.iload_n 1, 1) := by decide +kernel
theorem dX11_count_114 : decode cX11_count 114 = .ok (.tableswitch 64 0 5 #[38, 43, 52, 54, 59, 61], 38) := by decide +kernel
theorem dX11_count_152 : decode cX11_count 152 = .ok (.aload_n 0, 1) := by decide +kernel
theorem dX11_count_153 : decode cX11_count 153 = .ok (.invokevirtual 100, 3) := by decide +kernel
theorem dX11_count_156 : decode cX11_count 156 = .ok (.ireturn, 1) := by decide +kernel
theorem dX11_count_157 : decode cX11_count 157 = .ok (.aload_n 0, 1) := by decide +kernel
theorem dX11_count_158 : decode cX11_count 158 = .ok (.aload_n 0, 1) := by decide +kernel
theorem dX11_count_159 : decode cX11_count 159 = .ok (.getfield 108, 3) := by decide +kernel
theorem dX11_count_162 : decode cX11_count 162 = .ok (.invokevirtual 156, 3) := by decide +kernel
theorem dX11_count_165 : decode cX11_count 165 = .ok (.ireturn, 1) := by decide +kernel
theorem dX11_count_166 : decode cX11_count 166 = .ok (.iload_n 2, 1) := by decide +kernel
theorem dX11_count_167 : decode cX11_count 167 = .ok (.ireturn, 1) := by decide +kernel
theorem dX11_count_168 : decode cX11_count 168 = .ok (.aload_n 0, 1) := by decide +kernel
theorem dX11_count_169 : decode cX11_count 169 = .ok (.getfield 175, 3) := by decide +kernel
theorem dX11_count_172 : decode cX11_count 172 = .ok (.ireturn, 1) := by decide +kernel
theorem dX11_count_173 : decode cX11_count 173 = .ok (.iload_n 3, 1) := by decide +kernel
theorem dX11_count_174 : decode cX11_count 174 = .ok (.ireturn, 1) := by decide +kernel
