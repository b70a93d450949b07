theorem dX10_init_0 : decode cX10_init 0 = .ok (.aload_n 0, 1) := by decide +kernel
theorem dX10_init_1 : decode cX10_init 1 = .ok (.invokespecial 1, 3) := by decide +kernel
theorem dX10_init_4 : decode cX10_init 4 = .ok (.aload_n 0, 1) := by decide +kernel
theorem dX10_init_5 : decode cX10_init 5 = .ok (.iconst (-1), 1) := by decide +kernel
theorem dX10_init_6 : decode cX10_init 6 = .ok (.putfield 9, 3) := by decide +kernel
theorem dX10_init_9 : decode cX10_init 9 = .ok (.aload_n 0, 1) := by decide +kernel
theorem dX10_init_10 : decode cX10_init 10 = .ok (.iconst (-1), 1) := by decide +kernel
theorem dX10_init_11 : decode cX10_init 11 = .ok (.putfield 13, 3) := by decide +kernel
theorem dX10_init_14 : decode cX10_init 14 = .ok (.aload_n 0, 1) := by decide +kernel
theorem dX10_init_15 : decode cX10_init 15 = .ok (.bipush 6, 2) := by decide +kernel
theorem dX10_init_17 : decode cX10_init 17 = .ok (.newarray .int, 2) := by decide +kernel
theorem dX10_init_19 : decode cX10_init 19 = .ok (.putfield 16, 3) := by decide +kernel
theorem dX10_init_22 : decode cX10_init 22 = .ok (.aload_n 0, 1) := by decide +kernel
theorem dX10_init_23 : decode cX10_init 23 = .ok (.bipush 8, 2) := by decide +kernel
theorem dX10_init_25 : decode cX10_init 25 = .ok (.newarray .int, 2) := by decide +kernel
theorem dX10_init_27 : decode cX10_init 27 = .ok (.putfield 20, 3) := by decide +kernel
theorem dX10_init_30 : decode cX10_init 30 = .ok (.aload_n 0, 1) := by decide +kernel
theorem dX10_init_31 : decode cX10_init 31 = .ok (.bipush 8, 2) := by decide +kernel
theorem dX10_init_33 : decode cX10_init 33 = .ok (.newarray .int, 2) := by decide +kernel
theorem dX10_init_35 : decode cX10_init 35 = .ok (.putfield 23, 3) := by decide +kernel
theorem dX10_init_38 : decode cX10_init 38 = .ok (.aload_n 0, 1) := by decide +kernel
theorem dX10_init_39 : decode cX10_init 39 = .ok (.bipush 8, 2) := by decide +kernel
theorem dX10_init_41 : decode cX10_init 41 = .ok (.newarray .int, 2) := by decide +kernel
theorem dX10_init_43 : decode cX10_init 43 = .ok (.putfield 26, 3) := by decide +kernel
theorem dX10_init_46 : decode cX10_init 46 = .ok (.aload_n 0, 1) := by decide +kernel
theorem dX10_init_47 : decode cX10_init 47 = .ok (.bipush 8, 2) := by decide +kernel
theorem dX10_init_49 : decode cX10_init 49 = .ok (.newarray .int, 2) := by decide +kernel
theorem dX10_init_51 : decode cX10_init 51 = .ok (.putfield 29, 3) := by decide +kernel
theorem dX10_init_54 : decode cX10_init 54 = .ok (.aload_n 0, 1) := by decide +kernel
theorem dX10_init_55 : decode cX10_init 55 = .ok (.sipush 1400, 3) := by decide +kernel
theorem dX10_init_58 : decode cX10_init 58 = .ok (.newarray .int, 2) := by decide +kernel
theorem dX10_init_60 : decode cX10_init 60 = .ok (.putfield 32, 3) := by decide +kernel
theorem dX10_init_63 : decode cX10_init 63 = .ok (.aload_n 0, 1) := by decide +kernel
theorem dX10_init_64 : decode cX10_init 64 = .ok (.sipush 700, 3) := by decide +kernel
theorem dX10_init_67 : decode cX10_init 67 = .ok (.newarray .int, 2) := by decide +kernel
theorem dX10_init_69 : decode cX10_init 69 = .ok (.putfield 35, 3) := by decide +kernel
theorem dX10_init_72 : decode cX10_init 72 = .ok (.aload_n 0, 1) := by decide +kernel
theorem dX10_init_73 : decode cX10_init 73 = .ok (.iconst (-1), 1) := by decide +kernel
theorem dX10_init_74 : decode cX10_init 74 = .ok (.putfield 38, 3) := by decide +kernel
theorem dX10_init_77 : decode cX10_init 77 = .ok (.aload_n 0, 1) := by decide +kernel
theorem dX10_init_78 : decode cX10_init 78 = .ok (.iconst 3, 1) := by decide +kernel
theorem dX10_init_79 : decode cX10_init 79 = .ok (.newarray .int, 2) := by decide +kernel
theorem dX10_init_81 : decode cX10_init 81 = .ok (.putfield 41, 3) := by decide +kernel
theorem dX10_init_84 : decode cX10_init 84 = .ok (.aload_n 0, 1) := by decide +kernel
theorem dX10_init_85 : decode cX10_init 85 = .ok (.bipush 6, 2) := by decide +kernel
theorem dX10_init_87 : decode cX10_init 87 = .ok (.newarray .int, 2) := by decide +kernel
theorem dX10_init_89 : decode cX10_init 89 = .ok (.putfield 44, 3) := by decide +kernel
theorem dX10_init_92 : decode cX10_init 92 = .ok (.aload_n 0, 1) := by decide +kernel
theorem dX10_init_93 : decode cX10_init 93 = .ok (.bipush 8, 2) := by decide +kernel
theorem dX10_init_95 : decode cX10_init 95 = .ok (.newarray .int, 2) := by decide +kernel
theorem dX10_init_97 : decode cX10_init 97 = .ok (.putfield 47, 3) := by decide +kernel
theorem dX10_init_100 : decode cX10_init 100 = .ok (.aload_n 0, 1) := by decide +kernel
theorem dX10_init_101 : decode cX10_init 101 = .ok (.bipush 8, 2) := by decide +kernel
theorem dX10_init_103 : decode cX10_init 103 = .ok (.newarray .int, 2) := by decide +kernel
theorem dX10_init_105 : decode cX10_init 105 = .ok (.putfield 50, 3) := by decide +kernel
theorem dX10_init_108 : decode cX10_init 108 = .ok (.aload_n 0, 1) := by decide +kernel
theorem dX10_init_109 : decode cX10_init 109 = .ok (.bipush 8, 2) := by decide +kernel
theorem dX10_init_111 : decode cX10_init 111 = .ok (.newarray .int, 2) := by decide +kernel
theorem dX10_init_113 : decode cX10_init 113 = .ok (.putfield 53, 3) := by decide +kernel
theorem dX10_init_116 : decode cX10_init 116 = .ok (.aload_n 0, 1) := by decide +kernel
theorem dX10_init_117 : decode cX10_init 117 = .ok (.bipush 8, 2) := by decide +kernel
theorem dX10_init_119 : decode cX10_init 119 = .ok (.newarray .int, 2) := by decide +kernel
theorem dX10_init_121 : decode cX10_init 121 = .ok (.putfield 56, 3) := by decide +kernel
theorem dX10_init_124 : decode cX10_init 124 = .ok (.aload_n 0, 1) := by decide +kernel
theorem dX10_init_125 : decode cX10_init 125 = .ok (.bipush 80, 2) := by decide +kernel
theorem dX10_init_127 : decode cX10_init 127 = .ok (.newarray .int, 2) := by decide +kernel
theorem dX10_init_129 : decode cX10_init 129 = .ok (.putfield 59, 3) := by decide +kernel
theorem dX10_init_132 : decode cX10_init 132 = .ok (.aload_n 0, 1) := by decide +kernel
theorem dX10_init_133 : decode cX10_init 133 = .ok (.sipush 1400, 3) := by decide +kernel
theorem dX10_init_136 : decode cX10_init 136 = .ok (.newarray .int, 2) := by decide +kernel
theorem dX10_init_138 : decode cX10_init 138 = .ok (.putfield 62, 3) := by decide +kernel
theorem dX10_init_141 : decode cX10_init 141 = .ok (.aload_n 0, 1) := by decide +kernel
theorem dX10_init_142 : decode cX10_init 142 = .ok (.sipush 950, 3) := by decide +kernel
theorem dX10_init_145 : decode cX10_init 145 = .ok (.newarray .int, 2) := by decide +kernel
theorem dX10_init_147 : decode cX10_init 147 = .ok (.putfield 65, 3) := by decide +kernel
theorem dX10_init_150 : decode cX10_init 150 = .ok (.aload_n 0, 1) := by decide +kernel
theorem dX10_init_151 : decode cX10_init 151 = .ok (.bipush 9, 2) := by decide +kernel
theorem dX10_init_153 : decode cX10_init 153 = .ok (.newarray .boolean, 2) := by decide +kernel
theorem dX10_init_155 : decode cX10_init 155 = .ok (.putfield 68, 3) := by decide +kernel
theorem dX10_init_158 : decode cX10_init 158 = .ok (.aload_n 0, 1) := by decide +kernel
theorem dX10_init_159 : decode cX10_init 159 = .ok (.sipush 160, 3) := by decide +kernel
theorem dX10_init_162 : decode cX10_init 162 = .ok (.newarray .int, 2) := by decide +kernel
theorem dX10_init_164 : decode cX10_init 164 = .ok (.putfield 72, 3) := by decide +kernel
theorem dX10_init_167 : decode cX10_init 167 = .ok (.aload_n 0, 1) := by decide +kernel
theorem dX10_init_168 : decode cX10_init 168 = .ok (.sipush 3200, 3) := by decide +kernel
theorem dX10_init_171 : decode cX10_init 171 = .ok (.newarray .int, 2) := by decide +kernel
theorem dX10_init_173 : decode cX10_init 173 = .ok (.putfield 75, 3) := by decide +kernel
theorem dX10_init_176 : decode cX10_init 176 = .ok (.aload_n 0, 1) := by decide +kernel
theorem dX10_init_177 : decode cX10_init 177 = .ok (.bipush 9, 2) := by decide +kernel
theorem dX10_init_179 : decode cX10_init 179 = .ok (.newarray .int, 2) := by decide +kernel
theorem dX10_init_181 : decode cX10_init 181 = .ok (.putfield 78, 3) := by decide +kernel
theorem dX10_init_184 : decode cX10_init 184 = .ok (.aload_n 0, 1) := by decide +kernel
theorem dX10_init_185 : decode cX10_init 185 = .ok (.sipush 950, 3) := by decide +kernel
theorem dX10_init_188 : decode cX10_init 188 = .ok (.newarray .int, 2) := by decide +kernel
theorem dX10_init_190 : decode cX10_init 190 = .ok (.putfield 81, 3) := by decide +kernel
theorem dX10_init_193 : decode cX10_init 193 = .ok (.aload_n 0, 1) := by decide +kernel
theorem dX10_init_194 : decode cX10_init 194 = .ok (.iconst (-1), 1) := by decide +kernel
theorem dX10_init_195 : decode cX10_init 195 = .ok (.putfield 84, 3) := by decide +kernel
theorem dX10_init_198 : decode cX10_init 198 = .ok (.aload_n 0, 1) := by decide +kernel
theorem dX10_init_199 : decode cX10_init 199 = .ok (.bipush 6, 2) := by decide +kernel
theorem dX10_init_201 : decode cX10_init 201 = .ok (.newarray .int, 2) := by decide +kernel
theorem dX10_init_203 : decode cX10_init 203 = .ok (.putfield 87, 3) := by decide +kernel
theorem dX10_init_206 : decode cX10_init 206 = .ok (.aload_n 0, 1) := by decide +kernel
theorem dX10_init_207 : decode cX10_init 207 = .ok (.bipush 6, 2) := by decide +kernel
theorem dX10_init_209 : decode cX10_init 209 = .ok (.newarray .int, 2) := by decide +kernel
theorem dX10_init_211 : decode cX10_init 211 = .ok (.putfield 90, 3) := by decide +kernel
theorem dX10_init_214 : decode cX10_init 214 = .ok (.aload_n 0, 1) := by decide +kernel
theorem dX10_init_215 : decode cX10_init 215 = .ok (.bipush 24, 2) := by decide +kernel
theorem dX10_init_217 : decode cX10_init 217 = .ok (.newarray .int, 2) := by decide +kernel
theorem dX10_init_219 : decode cX10_init 219 = .ok (.putfield 93, 3) := by decide +kernel
theorem dX10_init_222 : decode cX10_init 222 = .ok (.aload_n 0, 1) := by decide +kernel
theorem dX10_init_223 : decode cX10_init 223 = .ok (.bipush 8, 2) := by decide +kernel
theorem dX10_init_225 : decode cX10_init 225 = .ok (.newarray .int, 2) := by decide +kernel
theorem dX10_init_227 : decode cX10_init 227 = .ok (.putfield 96, 3) := by decide +kernel
theorem dX10_init_230 : decode cX10_init 230 = .ok (.aload_n 0, 1) := by decide +kernel
theorem dX10_init_231 : decode cX10_init 231 = .ok (.sipush 448, 3) := by decide +kernel
theorem dX10_init_234 : decode cX10_init 234 = .ok (.newarray .int, 2) := by decide +kernel
theorem dX10_init_236 : decode cX10_init 236 = .ok (.putfield 99, 3) := by decide +kernel
theorem dX10_init_239 : decode cX10_init 239 = .ok (.aload_n 0, 1) := by decide +kernel
theorem dX10_init_240 : decode cX10_init 240 = .ok (.bipush 80, 2) := by decide +kernel
theorem dX10_init_242 : decode cX10_init 242 = .ok (.newarray .int, 2) := by decide +kernel
theorem dX10_init_244 : decode cX10_init 244 = .ok (.putfield 102, 3) := by decide +kernel
theorem dX10_init_247 : decode cX10_init 247 = .ok (.aload_n 0, 1) := by decide +kernel
theorem dX10_init_248 : decode cX10_init 248 = .ok (.sipush 3200, 3) := by decide +kernel
theorem dX10_init_251 : decode cX10_init 251 = .ok (.newarray .int, 2) := by decide +kernel
theorem dX10_init_253 : decode cX10_init 253 = .ok (.putfield 105, 3) := by decide +kernel
theorem dX10_init_256 : decode cX10_init 256 = .ok (.aload_n 0, 1) := by decide +kernel
theorem dX10_init_257 : decode cX10_init 257 = .ok (.bipush 24, 2) := by decide +kernel
theorem dX10_init_259 : decode cX10_init 259 = .ok (.newarray .int, 2) := by decide +kernel
theorem dX10_init_261 : decode cX10_init 261 = .ok (.putfield 108, 3) := by decide +kernel
theorem dX10_init_264 : decode cX10_init 264 = .ok (.return_, 1) := by decide +kernel
theorem dX10_thrown_0 : decode cX10_thrown 0 = .ok (.aload_n 0, 1) := by decide +kernel
theorem dX10_thrown_1 : decode cX10_thrown 1 = .ok (.getfield 111, 3) := by decide +kernel
theorem dX10_thrown_4 : decode cX10_thrown 4 = .ok (.ireturn, 1) := by decide +kernel
theorem dX10_right_0 : decode cX10_right 0 = .ok (.aload_n 0, 1) := by decide +kernel
theorem dX10_right_1 : decode cX10_right 1 = .ok (.getfield 111, 3) := by decide +kernel
theorem dX10_right_4 : decode cX10_right 4 = .ok (.ifCond .ne 12, 3) := by decide +kernel
theorem dX10_right_7 : decode cX10_right 7 = .ok (.iload_n 1, 1) := by decide +kernel
theorem dX10_right_8 : decode cX10_right 8 = .ok (.ifCond .ne 8, 3) := by decide +kernel
theorem dX10_right_11 : decode cX10_right 11 = .ok (.aload_n 0, 1) := by decide +kernel
theorem dX10_right_12 : decode cX10_right 12 = .ok (.iload_n 2, 1) := by decide +kernel
theorem dX10_right_13 : decode cX10_right 13 = .ok (.putfield 111, 3) := by decide +kernel
theorem dX10_right_16 : decode cX10_right 16 = .ok (.aload_n 0, 1) := by decide +kernel
theorem dX10_right_17 : decode cX10_right 17 = .ok (.getfield 111, 3) := by decide +kernel
theorem dX10_right_20 : decode cX10_right 20 = .ok (.ifCond .ne 7, 3) := by decide +kernel
theorem dX10_right_23 : decode cX10_right 23 = .ok (.iconst 1, 1) := by decide +kernel
theorem dX10_right_24 : decode cX10_right 24 = .ok (.goto 4, 3) := by decide +kernel
theorem dX10_right_27 : decode cX10_right 27 = .ok (.iconst 0, 1) := by decide +kernel
theorem dX10_right_28 : decode cX10_right 28 = .ok (.ireturn, 1) := by decide +kernel
theorem dX10_within_0 : decode cX10_within 0 = .ok (.iload_n 0, 1) := by decide +kernel
theorem dX10_within_1 : decode cX10_within 1 = .ok (.iload_n 1, 1) := by decide +kernel
theorem dX10_within_2 : decode cX10_within 2 = .ok (.if_icmp .lt 12, 3) := by decide +kernel
theorem dX10_within_5 : decode cX10_within 5 = .ok (.iload_n 0, 1) := by decide +kernel
theorem dX10_within_6 : decode cX10_within 6 = .ok (.iload_n 2, 1) := by decide +kernel
theorem dX10_within_7 : decode cX10_within 7 = .ok (.if_icmp .gt 7, 3) := by decide +kernel
theorem dX10_within_10 : decode cX10_within 10 = .ok (.iconst 1, 1) := by decide +kernel
theorem dX10_within_11 : decode cX10_within 11 = .ok (.goto 4, 3) := by decide +kernel
theorem dX10_within_14 : decode cX10_within 14 = .ok (.iconst 0, 1) := by decide +kernel
theorem dX10_within_15 : decode cX10_within 15 = .ok (.ireturn, 1) := by decide +kernel
theorem dX10_bounded_0 : decode cX10_bounded 0 = .ok (.iload_n 0, 1) := by decide +kernel
theorem dX10_bounded_1 : decode cX10_bounded 1 = .ok (.iload_n 1, 1) := by decide +kernel
theorem dX10_bounded_2 : decode cX10_bounded 2 = .ok (.if_icmp .ge 7, 3) := by decide +kernel
theorem dX10_bounded_5 : decode cX10_bounded 5 = .ok (.iload_n 1, 1) := by decide +kernel
theorem dX10_bounded_6 : decode cX10_bounded 6 = .ok (.goto 13, 3) := by decide +kernel
theorem dX10_bounded_9 : decode cX10_bounded 9 = .ok (.iload_n 0, 1) := by decide +kernel
theorem dX10_bounded_10 : decode cX10_bounded 10 = .ok (.iload_n 2, 1) := by decide +kernel
theorem dX10_bounded_11 : decode cX10_bounded 11 = .ok (.if_icmp .le 7, 3) := by decide +kernel
theorem dX10_bounded_14 : decode cX10_bounded 14 = .ok (.iload_n 2, 1) := by decide +kernel
theorem dX10_bounded_15 : decode cX10_bounded 15 = .ok (.goto 4, 3) := by decide +kernel
theorem dX10_bounded_18 : decode cX10_bounded 18 = .ok (.iload_n 0, 1) := by decide +kernel
theorem dX10_bounded_19 : decode cX10_bounded 19 = .ok (.ireturn, 1) := by decide +kernel
theorem dX10_lesser_0 : decode cX10_lesser 0 = .ok (.iload_n 0, 1) := by decide +kernel
theorem dX10_lesser_1 : decode cX10_lesser 1 = .ok (.iload_n 1, 1) := by decide +kernel
theorem dX10_lesser_2 : decode cX10_lesser 2 = .ok (.if_icmp .ge 7, 3) := by decide +kernel
theorem dX10_lesser_5 : decode cX10_lesser 5 = .ok (.iload_n 0, 1) := by decide +kernel
theorem dX10_lesser_6 : decode cX10_lesser 6 = .ok (.goto 4, 3) := by decide +kernel
theorem dX10_lesser_9 : decode cX10_lesser 9 = .ok (.iload_n 1, 1) := by decide +kernel
theorem dX10_lesser_10 : decode cX10_lesser 10 = .ok (.ireturn, 1) := by decide +kernel
theorem dX10_off_0 : decode cX10_off 0 = .ok (.iload_n 0, 1) := by decide +kernel
theorem dX10_off_1 : decode cX10_off 1 = .ok (.iload_n 1, 1) := by decide +kernel
theorem dX10_off_2 : decode cX10_off 2 = .ok (.if_icmp .ge 9, 3) := by decide +kernel
theorem dX10_off_5 : decode cX10_off 5 = .ok (.iload_n 1, 1) := by decide +kernel
theorem dX10_off_6 : decode cX10_off 6 = .ok (.iload_n 0, 1) := by decide +kernel
theorem dX10_off_7 : decode cX10_off 7 = .ok (.isub, 1) := by decide +kernel
theorem dX10_off_8 : decode cX10_off 8 = .ok (.goto 6, 3) := by decide +kernel
theorem dX10_off_11 : decode cX10_off 11 = .ok (.iload_n 0, 1) := by decide +kernel
theorem dX10_off_12 : decode cX10_off 12 = .ok (.iload_n 1, 1) := by decide +kernel
theorem dX10_off_13 : decode cX10_off 13 = .ok (.isub, 1) := by decide +kernel
theorem dX10_off_14 : decode cX10_off 14 = .ok (.ireturn, 1) := by decide +kernel
theorem dX10_copies_0 : decode cX10_copies 0 = .ok (.iconst 0, 1) := by decide +kernel
theorem dX10_copies_1 : decode cX10_copies 1 = .ok (.istore_n 3, 1) := by decide +kernel
theorem dX10_copies_2 : decode cX10_copies 2 = .ok (.iload_n 3, 1) := by decide +kernel
theorem dX10_copies_3 : decode cX10_copies 3 = .ok (.aload_n 1, 1) := by decide +kernel
theorem dX10_copies_4 : decode cX10_copies 4 = .ok (.arraylength, 1) := by decide +kernel
theorem dX10_copies_5 : decode cX10_copies 5 = .ok (.if_icmp .ge 15, 3) := by decide +kernel
theorem dX10_copies_8 : decode cX10_copies 8 = .ok (.aload_n 2, 1) := by decide +kernel
theorem dX10_copies_9 : decode cX10_copies 9 = .ok (.iload_n 3, 1) := by decide +kernel
theorem dX10_copies_10 : decode cX10_copies 10 = .ok (.aload_n 1, 1) := by decide +kernel
theorem dX10_copies_11 : decode cX10_copies 11 = .ok (.iload_n 3, 1) := by decide +kernel
theorem dX10_copies_12 : decode cX10_copies 12 = .ok (.iaload, 1) := by decide +kernel
theorem dX10_copies_13 : decode cX10_copies 13 = .ok (.iastore, 1) := by decide +kernel
theorem dX10_copies_14 : decode cX10_copies 14 = .ok (.iinc 3 1, 3) := by decide +kernel
theorem dX10_copies_17 : decode cX10_copies 17 = .ok (.goto (-15), 3) := by decide +kernel
theorem dX10_copies_20 : decode cX10_copies 20 = .ok (.return_, 1) := by decide +kernel
theorem dX10_bits_0 : decode cX10_bits 0 = .ok (.iconst 0, 1) := by decide +kernel
theorem dX10_bits_1 : decode cX10_bits 1 = .ok (.istore_n 1, 1) := by decide +kernel
theorem dX10_bits_2 : decode cX10_bits 2 = .ok (.iconst 0, 1) := by decide +kernel
theorem dX10_bits_3 : decode cX10_bits 3 = .ok (.istore_n 2, 1) := by decide +kernel
theorem dX10_bits_4 : decode cX10_bits 4 = .ok (.iload_n 2, 1) := by decide +kernel
theorem dX10_bits_5 : decode cX10_bits 5 = .ok (.bipush 8, 2) := by decide +kernel
theorem dX10_bits_7 : decode cX10_bits 7 = .ok (.if_icmp .ge 17, 3) := by decide +kernel
theorem dX10_bits_10 : decode cX10_bits 10 = .ok (.iload_n 1, 1) := by decide +kernel
theorem dX10_bits_11 : decode cX10_bits 11 = .ok (.iload_n 0, 1) := by decide +kernel
theorem dX10_bits_12 : decode cX10_bits 12 = .ok (.iload_n 2, 1) := by decide +kernel
theorem dX10_bits_13 : decode cX10_bits 13 = .ok (.ishr, 1) := by decide +kernel
theorem dX10_bits_14 : decode cX10_bits 14 = .ok (.iconst 1, 1) := by decide +kernel
theorem dX10_bits_15 : decode cX10_bits 15 = .ok (.iand, 1) := by decide +kernel
theorem dX10_bits_16 : decode cX10_bits 16 = .ok (.iadd, 1) := by decide +kernel
theorem dX10_bits_17 : decode cX10_bits 17 = .ok (.istore_n 1, 1) := by decide +kernel
theorem dX10_bits_18 : decode cX10_bits 18 = .ok (.iinc 2 1, 3) := by decide +kernel
theorem dX10_bits_21 : decode cX10_bits 21 = .ok (.goto (-17), 3) := by decide +kernel
theorem dX10_bits_24 : decode cX10_bits 24 = .ok (.iload_n 1, 1) := by decide +kernel
theorem dX10_bits_25 : decode cX10_bits 25 = .ok (.ireturn, 1) := by decide +kernel
theorem dX10_feed_0 : decode cX10_feed 0 = .ok (.aload_n 0, 1) := by decide +kernel
theorem dX10_feed_1 : decode cX10_feed 1 = .ok (.iconst 0, 1) := by decide +kernel
theorem dX10_feed_2 : decode cX10_feed 2 = .ok (.putfield 111, 3) := by decide +kernel
theorem dX10_feed_5 : decode cX10_feed 5 = .ok (.aload_n 0, 1) := by decide +kernel
theorem dX10_feed_6 : decode cX10_feed 6 = .ok (.getfield 114, 3) := by decide +kernel
theorem dX10_feed_9 : decode cX10_feed 9 = .ok (.bipush 20, 2) := by decide +kernel
theorem dX10_feed_11 : decode cX10_feed 11 = .ok (.iadd, 1) := by decide +kernel
theorem dX10_feed_12 : decode cX10_feed 12 = .ok (.sipush 700, 3) := by decide +kernel
theorem dX10_feed_15 : decode cX10_feed 15 = .ok (.if_icmp .le 5, 3) := by decide +kernel
theorem dX10_feed_18 : decode cX10_feed 18 = .ok (.iconst (-1), 1) := by decide +kernel
theorem dX10_feed_19 : decode cX10_feed 19 = .ok (.ireturn, 1) := by decide +kernel
theorem dX10_feed_20 : decode cX10_feed 20 = .ok (.aload_n 0, 1) := by decide +kernel
theorem dX10_feed_21 : decode cX10_feed 21 = .ok (.iload_n 1, 1) := by decide +kernel
theorem dX10_feed_22 : decode cX10_feed 22 = .ok (.invokevirtual 117, 3) := by decide +kernel
theorem dX10_feed_25 : decode cX10_feed 25 = .ok (.aload_n 0, 1) := by decide +kernel
theorem dX10_feed_26 : decode cX10_feed 26 = .ok (.iload_n 2, 1) := by decide +kernel
theorem dX10_feed_27 : decode cX10_feed 27 = .ok (.invokevirtual 117, 3) := by decide +kernel
theorem dX10_feed_30 : decode cX10_feed 30 = .ok (.aload_n 0, 1) := by decide +kernel
theorem dX10_feed_31 : decode cX10_feed 31 = .ok (.iload_n 3, 1) := by decide +kernel
theorem dX10_feed_32 : decode cX10_feed 32 = .ok (.invokevirtual 117, 3) := by decide +kernel
theorem dX10_feed_35 : decode cX10_feed 35 = .ok (.aload_n 0, 1) := by decide +kernel
theorem dX10_feed_36 : decode cX10_feed 36 = .ok (.iload 4, 2) := by decide +kernel
theorem dX10_feed_38 : decode cX10_feed 38 = .ok (.invokevirtual 117, 3) := by decide +kernel
theorem dX10_feed_41 : decode cX10_feed 41 = .ok (.aload_n 0, 1) := by decide +kernel
theorem dX10_feed_42 : decode cX10_feed 42 = .ok (.iload 5, 2) := by decide +kernel
theorem dX10_feed_44 : decode cX10_feed 44 = .ok (.invokevirtual 117, 3) := by decide +kernel
theorem dX10_feed_47 : decode cX10_feed 47 = .ok (.aload_n 0, 1) := by decide +kernel
theorem dX10_feed_48 : decode cX10_feed 48 = .ok (.getfield 114, 3) := by decide +kernel
theorem dX10_feed_51 : decode cX10_feed 51 = .ok (.ireturn, 1) := by decide +kernel
theorem dX10_lays_0 : decode cX10_lays 0 = .ok (.bipush 24, 2) := by decide +kernel
theorem dX10_lays_2 : decode cX10_lays 2 = .ok (.istore_n 2, 1) := by decide +kernel
theorem dX10_lays_3 : decode cX10_lays 3 = .ok (.iload_n 2, 1) := by decide +kernel
theorem dX10_lays_4 : decode cX10_lays 4 = .ok (.ifCond .lt 35, 3) := by decide +kernel
theorem dX10_lays_7 : decode cX10_lays 7 = .ok (.aload_n 0, 1) := by decide +kernel
theorem dX10_lays_8 : decode cX10_lays 8 = .ok (.getfield 35, 3) := by decide +kernel
theorem dX10_lays_11 : decode cX10_lays 11 = .ok (.aload_n 0, 1) := by decide +kernel
theorem dX10_lays_12 : decode cX10_lays 12 = .ok (.getfield 114, 3) := by decide +kernel
theorem dX10_lays_15 : decode cX10_lays 15 = .ok (.iload_n 1, 1) := by decide +kernel
theorem dX10_lays_16 : decode cX10_lays 16 = .ok (.iload_n 2, 1) := by decide +kernel
theorem dX10_lays_17 : decode cX10_lays 17 = .ok (.ishr, 1) := by decide +kernel
theorem dX10_lays_18 : decode cX10_lays 18 = .ok (.sipush 255, 3) := by decide +kernel
theorem dX10_lays_21 : decode cX10_lays 21 = .ok (.iand, 1) := by decide +kernel
theorem dX10_lays_22 : decode cX10_lays 22 = .ok (.iastore, 1) := by decide +kernel
theorem dX10_lays_23 : decode cX10_lays 23 = .ok (.aload_n 0, 1) := by decide +kernel
theorem dX10_lays_24 : decode cX10_lays 24 = .ok (.dup, 1) := by decide +kernel
theorem dX10_lays_25 : decode cX10_lays 25 = .ok (.getfield 114, 3) := by decide +kernel
theorem dX10_lays_28 : decode cX10_lays 28 = .ok (.iconst 1, 1) := by decide +kernel
theorem dX10_lays_29 : decode cX10_lays 29 = .ok (.iadd, 1) := by decide +kernel
theorem dX10_lays_30 : decode cX10_lays 30 = .ok (.putfield 114, 3) := by decide +kernel
theorem dX10_lays_33 : decode cX10_lays 33 = .ok (.iinc 2 (-8), 3) := by decide +kernel
theorem dX10_lays_36 : decode cX10_lays 36 = .ok (.goto (-33), 3) := by decide +kernel
theorem dX10_lays_39 : decode cX10_lays 39 = .ok (.return_, 1) := by decide +kernel
theorem dX10_byteAt_0 : decode cX10_byteAt 0 = .ok (.iload_n 1, 1) := by decide +kernel
theorem dX10_byteAt_1 : decode cX10_byteAt 1 = .ok (.aload_n 0, 1) := by decide +kernel
theorem dX10_byteAt_2 : decode cX10_byteAt 2 = .ok (.getfield 121, 3) := by decide +kernel
theorem dX10_byteAt_5 : decode cX10_byteAt 5 = .ok (.if_icmp .ge 12, 3) := by decide +kernel
theorem dX10_byteAt_8 : decode cX10_byteAt 8 = .ok (.aload_n 0, 1) := by decide +kernel
theorem dX10_byteAt_9 : decode cX10_byteAt 9 = .ok (.getfield 35, 3) := by decide +kernel
theorem dX10_byteAt_12 : decode cX10_byteAt 12 = .ok (.iload_n 1, 1) := by decide +kernel
theorem dX10_byteAt_13 : decode cX10_byteAt 13 = .ok (.iaload, 1) := by decide +kernel
theorem dX10_byteAt_14 : decode cX10_byteAt 14 = .ok (.goto 4, 3) := by decide +kernel
theorem dX10_byteAt_17 : decode cX10_byteAt 17 = .ok (.iconst 0, 1) := by decide +kernel
theorem dX10_byteAt_18 : decode cX10_byteAt 18 = .ok (.ireturn, 1) := by decide +kernel
theorem dX10_isLetter_0 : decode cX10_isLetter 0 = .ok (.iload_n 0, 1) := by decide +kernel
theorem dX10_isLetter_1 : decode cX10_isLetter 1 = .ok (.bipush 97, 2) := by decide +kernel
theorem dX10_isLetter_3 : decode cX10_isLetter 3 = .ok (.if_icmp .lt 13, 3) := by decide +kernel
theorem dX10_isLetter_6 : decode cX10_isLetter 6 = .ok (.iload_n 0, 1) := by decide +kernel
theorem dX10_isLetter_7 : decode cX10_isLetter 7 = .ok (.bipush 122, 2) := by decide +kernel
theorem dX10_isLetter_9 : decode cX10_isLetter 9 = .ok (.if_icmp .gt 7, 3) := by decide +kernel
theorem dX10_isLetter_12 : decode cX10_isLetter 12 = .ok (.iconst 1, 1) := by decide +kernel
theorem dX10_isLetter_13 : decode cX10_isLetter 13 = .ok (.goto 4, 3) := by decide +kernel
theorem dX10_isLetter_16 : decode cX10_isLetter 16 = .ok (.iconst 0, 1) := by decide +kernel
theorem dX10_isLetter_17 : decode cX10_isLetter 17 = .ok (.ireturn, 1) := by decide +kernel
theorem dX10_isDigit_0 : decode cX10_isDigit 0 = .ok (.iload_n 0, 1) := by decide +kernel
theorem dX10_isDigit_1 : decode cX10_isDigit 1 = .ok (.bipush 48, 2) := by decide +kernel
theorem dX10_isDigit_3 : decode cX10_isDigit 3 = .ok (.if_icmp .lt 13, 3) := by decide +kernel
theorem dX10_isDigit_6 : decode cX10_isDigit 6 = .ok (.iload_n 0, 1) := by decide +kernel
theorem dX10_isDigit_7 : decode cX10_isDigit 7 = .ok (.bipush 57, 2) := by decide +kernel
theorem dX10_isDigit_9 : decode cX10_isDigit 9 = .ok (.if_icmp .gt 7, 3) := by decide +kernel
theorem dX10_isDigit_12 : decode cX10_isDigit 12 = .ok (.iconst 1, 1) := by decide +kernel
theorem dX10_isDigit_13 : decode cX10_isDigit 13 = .ok (.goto 4, 3) := by decide +kernel
theorem dX10_isDigit_16 : decode cX10_isDigit 16 = .ok (.iconst 0, 1) := by decide +kernel
theorem dX10_isDigit_17 : decode cX10_isDigit 17 = .ok (.ireturn, 1) := by decide +kernel
theorem dX10_goes_0 : decode cX10_goes 0 = .ok (.aload_n 0, 1) := by decide +kernel
theorem dX10_goes_1 : decode cX10_goes 1 = .ok (.getfield 124, 3) := by decide +kernel
theorem dX10_goes_4 : decode cX10_goes 4 = .ok (.aload_n 0, 1) := by decide +kernel
theorem dX10_goes_5 : decode cX10_goes 5 = .ok (.getfield 121, 3) := by decide +kernel
theorem dX10_goes_8 : decode cX10_goes 8 = .ok (.if_icmp .ge 42, 3) := by decide +kernel
theorem dX10_goes_11 : decode cX10_goes 11 = .ok (.aload_n 0, 1) := by decide +kernel
theorem dX10_goes_12 : decode cX10_goes 12 = .ok (.aload_n 0, 1) := by decide +kernel
theorem dX10_goes_13 : decode cX10_goes 13 = .ok (.getfield 124, 3) := by decide +kernel
theorem dX10_goes_16 : decode cX10_goes 16 = .ok (.invokevirtual 127, 3) := by decide +kernel
theorem dX10_goes_19 : decode cX10_goes 19 = .ok (.bipush 32, 2) := by decide +kernel
theorem dX10_goes_21 : decode cX10_goes 21 = .ok (.if_icmp .eq 16, 3) := by decide +kernel
theorem dX10_goes_24 : decode cX10_goes 24 = .ok (.aload_n 0, 1) := by decide +kernel
theorem dX10_goes_25 : decode cX10_goes 25 = .ok (.aload_n 0, 1) := by decide +kernel
theorem dX10_goes_26 : decode cX10_goes 26 = .ok (.getfield 124, 3) := by decide +kernel
theorem dX10_goes_29 : decode cX10_goes 29 = .ok (.invokevirtual 127, 3) := by decide +kernel
theorem dX10_goes_32 : decode cX10_goes 32 = .ok (.bipush 10, 2) := by decide +kernel
theorem dX10_goes_34 : decode cX10_goes 34 = .ok (.if_icmp .ne 16, 3) := by decide +kernel
theorem dX10_goes_37 : decode cX10_goes 37 = .ok (.aload_n 0, 1) := by decide +kernel
theorem dX10_goes_38 : decode cX10_goes 38 = .ok (.dup, 1) := by decide +kernel
theorem dX10_goes_39 : decode cX10_goes 39 = .ok (.getfield 124, 3) := by decide +kernel
theorem dX10_goes_42 : decode cX10_goes 42 = .ok (.iconst 1, 1) := by decide +kernel
theorem dX10_goes_43 : decode cX10_goes 43 = .ok (.iadd, 1) := by decide +kernel
theorem dX10_goes_44 : decode cX10_goes 44 = .ok (.putfield 124, 3) := by decide +kernel
theorem dX10_goes_47 : decode cX10_goes 47 = .ok (.goto (-47), 3) := by decide +kernel
theorem dX10_goes_50 : decode cX10_goes 50 = .ok (.aload_n 0, 1) := by decide +kernel
theorem dX10_goes_51 : decode cX10_goes 51 = .ok (.aload_n 0, 1) := by decide +kernel
theorem dX10_goes_52 : decode cX10_goes 52 = .ok (.getfield 124, 3) := by decide +kernel
theorem dX10_goes_55 : decode cX10_goes 55 = .ok (.putfield 131, 3) := by decide +kernel
theorem dX10_goes_58 : decode cX10_goes 58 = .ok (.aload_n 0, 1) := by decide +kernel
theorem dX10_goes_59 : decode cX10_goes 59 = .ok (.lconst 0, 1) := by decide +kernel
theorem dX10_goes_60 : decode cX10_goes 60 = .ok (.putfield 134, 3) := by decide +kernel
theorem dX10_goes_63 : decode cX10_goes 63 = .ok (.aload_n 0, 1) := by decide +kernel
theorem dX10_goes_64 : decode cX10_goes 64 = .ok (.iconst 0, 1) := by decide +kernel
theorem dX10_goes_65 : decode cX10_goes 65 = .ok (.putfield 138, 3) := by decide +kernel
theorem dX10_goes_68 : decode cX10_goes 68 = .ok (.aload_n 0, 1) := by decide +kernel
theorem dX10_goes_69 : decode cX10_goes 69 = .ok (.aload_n 0, 1) := by decide +kernel
theorem dX10_goes_70 : decode cX10_goes 70 = .ok (.getfield 124, 3) := by decide +kernel
theorem dX10_goes_73 : decode cX10_goes 73 = .ok (.invokevirtual 127, 3) := by decide +kernel
theorem dX10_goes_76 : decode cX10_goes 76 = .ok (.istore_n 1, 1) := by decide +kernel
theorem dX10_goes_77 : decode cX10_goes 77 = .ok (.aload_n 0, 1) := by decide +kernel
theorem dX10_goes_78 : decode cX10_goes 78 = .ok (.iload_n 1, 1) := by decide +kernel
theorem dX10_goes_79 : decode cX10_goes 79 = .ok (.putfield 141, 3) := by decide +kernel
theorem dX10_goes_82 : decode cX10_goes 82 = .ok (.aload_n 0, 1) := by decide +kernel
theorem dX10_goes_83 : decode cX10_goes 83 = .ok (.getfield 124, 3) := by decide +kernel
theorem dX10_goes_86 : decode cX10_goes 86 = .ok (.aload_n 0, 1) := by decide +kernel
theorem dX10_goes_87 : decode cX10_goes 87 = .ok (.getfield 121, 3) := by decide +kernel
theorem dX10_goes_90 : decode cX10_goes 90 = .ok (.if_icmp .lt 11, 3) := by decide +kernel
theorem dX10_goes_93 : decode cX10_goes 93 = .ok (.aload_n 0, 1) := by decide +kernel
theorem dX10_goes_94 : decode cX10_goes 94 = .ok (.iconst 0, 1) := by decide +kernel
theorem dX10_goes_95 : decode cX10_goes 95 = .ok (.putfield 144, 3) := by decide +kernel
theorem dX10_goes_98 : decode cX10_goes 98 = .ok (.goto 233, 3) := by decide +kernel
theorem dX10_goes_101 : decode cX10_goes 101 = .ok (.iload_n 1, 1) := by decide +kernel
theorem dX10_goes_102 : decode cX10_goes 102 = .ok (.invokestatic 147, 3) := by decide +kernel
theorem dX10_goes_105 : decode cX10_goes 105 = .ok (.ifCond .eq 75, 3) := by decide +kernel
theorem dX10_goes_108 : decode cX10_goes 108 = .ok (.aload_n 0, 1) := by decide +kernel
theorem dX10_goes_109 : decode cX10_goes 109 = .ok (.aload_n 0, 1) := by decide +kernel
theorem dX10_goes_110 : decode cX10_goes 110 = .ok (.getfield 124, 3) := by decide +kernel
theorem dX10_goes_113 : decode cX10_goes 113 = .ok (.invokevirtual 127, 3) := by decide +kernel
theorem dX10_goes_116 : decode cX10_goes 116 = .ok (.invokestatic 147, 3) := by decide +kernel
theorem dX10_goes_119 : decode cX10_goes 119 = .ok (.ifCond .eq 53, 3) := by decide +kernel
theorem dX10_goes_122 : decode cX10_goes 122 = .ok (.aload_n 0, 1) := by decide +kernel
theorem dX10_goes_123 : decode cX10_goes 123 = .ok (.getfield 124, 3) := by decide +kernel
theorem dX10_goes_126 : decode cX10_goes 126 = .ok (.aload_n 0, 1) := by decide +kernel
theorem dX10_goes_127 : decode cX10_goes 127 = .ok (.getfield 131, 3) := by decide +kernel
theorem dX10_goes_130 : decode cX10_goes 130 = .ok (.isub, 1) := by decide +kernel
theorem dX10_goes_131 : decode cX10_goes 131 = .ok (.bipush 7, 2) := by decide +kernel
theorem dX10_goes_133 : decode cX10_goes 133 = .ok (.if_icmp .ge 26, 3) := by decide +kernel
theorem dX10_goes_136 : decode cX10_goes 136 = .ok (.aload_n 0, 1) := by decide +kernel
theorem dX10_goes_137 : decode cX10_goes 137 = .ok (.aload_n 0, 1) := by decide +kernel
theorem dX10_goes_138 : decode cX10_goes 138 = .ok (.getfield 134, 3) := by decide +kernel
theorem dX10_goes_141 : decode cX10_goes 141 = .ok (.iconst 5, 1) := by decide +kernel
theorem dX10_goes_142 : decode cX10_goes 142 = .ok (.lshl, 1) := by decide +kernel
theorem dX10_goes_143 : decode cX10_goes 143 = .ok (.aload_n 0, 1) := by decide +kernel
theorem dX10_goes_144 : decode cX10_goes 144 = .ok (.aload_n 0, 1) := by decide +kernel
theorem dX10_goes_145 : decode cX10_goes 145 = .ok (.getfield 124, 3) := by decide +kernel
theorem dX10_goes_148 : decode cX10_goes 148 = .ok (.invokevirtual 127, 3) := by decide +kernel
theorem dX10_goes_151 : decode cX10_goes 151 = .ok (.bipush 96, 2) := by decide +kernel
theorem dX10_goes_153 : decode cX10_goes 153 = .ok (.isub, 1) := by decide +kernel
theorem dX10_goes_154 : decode cX10_goes 154 = .ok (.i2l, 1) := by decide +kernel
theorem dX10_goes_155 : decode cX10_goes 155 = .ok (.lor, 1) := by decide +kernel
theorem dX10_goes_156 : decode cX10_goes 156 = .ok (.putfield 134, 3) := by decide +kernel
theorem dX10_goes_159 : decode cX10_goes 159 = .ok (.aload_n 0, 1) := by decide +kernel
theorem dX10_goes_160 : decode cX10_goes 160 = .ok (.dup, 1) := by decide +kernel
theorem dX10_goes_161 : decode cX10_goes 161 = .ok (.getfield 124, 3) := by decide +kernel
theorem dX10_goes_164 : decode cX10_goes 164 = .ok (.iconst 1, 1) := by decide +kernel
theorem dX10_goes_165 : decode cX10_goes 165 = .ok (.iadd, 1) := by decide +kernel
theorem dX10_goes_166 : decode cX10_goes 166 = .ok (.putfield 124, 3) := by decide +kernel
theorem dX10_goes_169 : decode cX10_goes 169 = .ok (.goto (-61), 3) := by decide +kernel
theorem dX10_goes_172 : decode cX10_goes 172 = .ok (.aload_n 0, 1) := by decide +kernel
theorem dX10_goes_173 : decode cX10_goes 173 = .ok (.iconst 1, 1) := by decide +kernel
theorem dX10_goes_174 : decode cX10_goes 174 = .ok (.putfield 144, 3) := by decide +kernel
theorem dX10_goes_177 : decode cX10_goes 177 = .ok (.goto 154, 3) := by decide +kernel
theorem dX10_goes_180 : decode cX10_goes 180 = .ok (.iload_n 1, 1) := by decide +kernel
theorem dX10_goes_181 : decode cX10_goes 181 = .ok (.invokestatic 151, 3) := by decide +kernel
theorem dX10_goes_184 : decode cX10_goes 184 = .ok (.ifCond .eq 74, 3) := by decide +kernel
theorem dX10_goes_187 : decode cX10_goes 187 = .ok (.aload_n 0, 1) := by decide +kernel
theorem dX10_goes_188 : decode cX10_goes 188 = .ok (.aload_n 0, 1) := by decide +kernel
theorem dX10_goes_189 : decode cX10_goes 189 = .ok (.getfield 124, 3) := by decide +kernel
theorem dX10_goes_192 : decode cX10_goes 192 = .ok (.invokevirtual 127, 3) := by decide +kernel
theorem dX10_goes_195 : decode cX10_goes 195 = .ok (.invokestatic 151, 3) := by decide +kernel
theorem dX10_goes_198 : decode cX10_goes 198 = .ok (.ifCond .eq 52, 3) := by decide +kernel
theorem dX10_goes_201 : decode cX10_goes 201 = .ok (.aload_n 0, 1) := by decide +kernel
theorem dX10_goes_202 : decode cX10_goes 202 = .ok (.getfield 124, 3) := by decide +kernel
theorem dX10_goes_205 : decode cX10_goes 205 = .ok (.aload_n 0, 1) := by decide +kernel
theorem dX10_goes_206 : decode cX10_goes 206 = .ok (.getfield 131, 3) := by decide +kernel
theorem dX10_goes_209 : decode cX10_goes 209 = .ok (.isub, 1) := by decide +kernel
theorem dX10_goes_210 : decode cX10_goes 210 = .ok (.iconst 4, 1) := by decide +kernel
theorem dX10_goes_211 : decode cX10_goes 211 = .ok (.if_icmp .ge 26, 3) := by decide +kernel
theorem dX10_goes_214 : decode cX10_goes 214 = .ok (.aload_n 0, 1) := by decide +kernel
theorem dX10_goes_215 : decode cX10_goes 215 = .ok (.bipush 10, 2) := by decide +kernel
theorem dX10_goes_217 : decode cX10_goes 217 = .ok (.aload_n 0, 1) := by decide +kernel
theorem dX10_goes_218 : decode cX10_goes 218 = .ok (.getfield 138, 3) := by decide +kernel
theorem dX10_goes_221 : decode cX10_goes 221 = .ok (.imul, 1) := by decide +kernel
theorem dX10_goes_222 : decode cX10_goes 222 = .ok (.aload_n 0, 1) := by decide +kernel
theorem dX10_goes_223 : decode cX10_goes 223 = .ok (.aload_n 0, 1) := by decide +kernel
theorem dX10_goes_224 : decode cX10_goes 224 = .ok (.getfield 124, 3) := by decide +kernel
theorem dX10_goes_227 : decode cX10_goes 227 = .ok (.invokevirtual 127, 3) := by decide +kernel
theorem dX10_goes_230 : decode cX10_goes 230 = .ok (.iadd, 1) := by decide +kernel
theorem dX10_goes_231 : decode cX10_goes 231 = .ok (.bipush 48, 2) := by decide +kernel
theorem dX10_goes_233 : decode cX10_goes 233 = .ok (.isub, 1) := by decide +kernel
theorem dX10_goes_234 : decode cX10_goes 234 = .ok (.putfield 138, 3) := by decide +kernel
theorem dX10_goes_237 : decode cX10_goes 237 = .ok (.aload_n 0, 1) := by decide +kernel
theorem dX10_goes_238 : decode cX10_goes 238 = .ok (.dup, 1) := by decide +kernel
theorem dX10_goes_239 : decode cX10_goes 239 = .ok (.getfield 124, 3) := by decide +kernel
theorem dX10_goes_242 : decode cX10_goes 242 = .ok (.iconst 1, 1) := by decide +kernel
theorem dX10_goes_243 : decode cX10_goes 243 = .ok (.iadd, 1) := by decide +kernel
theorem dX10_goes_244 : decode cX10_goes 244 = .ok (.putfield 124, 3) := by decide +kernel
theorem dX10_goes_247 : decode cX10_goes 247 = .ok (.goto (-60), 3) := by decide +kernel
theorem dX10_goes_250 : decode cX10_goes 250 = .ok (.aload_n 0, 1) := by decide +kernel
theorem dX10_goes_251 : decode cX10_goes 251 = .ok (.iconst 2, 1) := by decide +kernel
theorem dX10_goes_252 : decode cX10_goes 252 = .ok (.putfield 144, 3) := by decide +kernel
theorem dX10_goes_255 : decode cX10_goes 255 = .ok (.goto 76, 3) := by decide +kernel
theorem dX10_goes_258 : decode cX10_goes 258 = .ok (.aload_n 0, 1) := by decide +kernel
theorem dX10_goes_259 : decode cX10_goes 259 = .ok (.dup, 1) := by decide +kernel
theorem dX10_goes_260 : decode cX10_goes 260 = .ok (.getfield 124, 3) := by decide +kernel
theorem dX10_goes_263 : decode cX10_goes 263 = .ok (.iconst 1, 1) := by decide +kernel
theorem dX10_goes_264 : decode cX10_goes 264 = .ok (.iadd, 1) := by decide +kernel
theorem dX10_goes_265 : decode cX10_goes 265 = .ok (.putfield 124, 3) := by decide +kernel
theorem dX10_goes_268 : decode cX10_goes 268 = .ok (.aload_n 0, 1) := by decide +kernel
theorem dX10_goes_269 : decode cX10_goes 269 = .ok (.iload_n 1, 1) := by decide +kernel
theorem dX10_goes_270 : decode cX10_goes 270 = .ok (.bipush 59, 2) := by decide +kernel
theorem dX10_goes_272 : decode cX10_goes 272 = .ok (.if_icmp .eq 51, 3) := by decide +kernel
theorem dX10_goes_275 : decode cX10_goes 275 = .ok (.iload_n 1, 1) := by decide +kernel
theorem dX10_goes_276 : decode cX10_goes 276 = .ok (.bipush 40, 2) := by decide +kernel
theorem dX10_goes_278 : decode cX10_goes 278 = .ok (.if_icmp .eq 45, 3) := by decide +kernel
theorem dX10_goes_281 : decode cX10_goes 281 = .ok (.iload_n 1, 1) := by decide +kernel
theorem dX10_goes_282 : decode cX10_goes 282 = .ok (.bipush 41, 2) := by decide +kernel
theorem dX10_goes_284 : decode cX10_goes 284 = .ok (.if_icmp .eq 39, 3) := by decide +kernel
theorem dX10_goes_287 : decode cX10_goes 287 = .ok (.iload_n 1, 1) := by decide +kernel
theorem dX10_goes_288 : decode cX10_goes 288 = .ok (.bipush 43, 2) := by decide +kernel
theorem dX10_goes_290 : decode cX10_goes 290 = .ok (.if_icmp .eq 33, 3) := by decide +kernel
theorem dX10_goes_293 : decode cX10_goes 293 = .ok (.iload_n 1, 1) := by decide +kernel
theorem dX10_goes_294 : decode cX10_goes 294 = .ok (.bipush 45, 2) := by decide +kernel
theorem dX10_goes_296 : decode cX10_goes 296 = .ok (.if_icmp .eq 27, 3) := by decide +kernel
theorem dX10_goes_299 : decode cX10_goes 299 = .ok (.iload_n 1, 1) := by decide +kernel
theorem dX10_goes_300 : decode cX10_goes 300 = .ok (.bipush 42, 2) := by decide +kernel
theorem dX10_goes_302 : decode cX10_goes 302 = .ok (.if_icmp .eq 21, 3) := by decide +kernel
theorem dX10_goes_305 : decode cX10_goes 305 = .ok (.iload_n 1, 1) := by decide +kernel
theorem dX10_goes_306 : decode cX10_goes 306 = .ok (.bipush 47, 2) := by decide +kernel
theorem dX10_goes_308 : decode cX10_goes 308 = .ok (.if_icmp .eq 15, 3) := by decide +kernel
theorem dX10_goes_311 : decode cX10_goes 311 = .ok (.iload_n 1, 1) := by decide +kernel
theorem dX10_goes_312 : decode cX10_goes 312 = .ok (.bipush 60, 2) := by decide +kernel
theorem dX10_goes_314 : decode cX10_goes 314 = .ok (.if_icmp .eq 9, 3) := by decide +kernel
theorem dX10_goes_317 : decode cX10_goes 317 = .ok (.iload_n 1, 1) := by decide +kernel
theorem dX10_goes_318 : decode cX10_goes 318 = .ok (.bipush 61, 2) := by decide +kernel
theorem dX10_goes_320 : decode cX10_goes 320 = .ok (.if_icmp .ne 7, 3) := by decide +kernel
theorem dX10_goes_323 : decode cX10_goes 323 = .ok (.iconst 3, 1) := by decide +kernel
theorem dX10_goes_324 : decode cX10_goes 324 = .ok (.goto 4, 3) := by decide +kernel
theorem dX10_goes_327 : decode cX10_goes 327 = .ok (.iconst 4, 1) := by decide +kernel
theorem dX10_goes_328 : decode cX10_goes 328 = .ok (.putfield 144, 3) := by decide +kernel
theorem dX10_goes_331 : decode cX10_goes 331 = .ok (.aload_n 0, 1) := by decide +kernel
theorem dX10_goes_332 : decode cX10_goes 332 = .ok (.aload_n 0, 1) := by decide +kernel
theorem dX10_goes_333 : decode cX10_goes 333 = .ok (.getfield 124, 3) := by decide +kernel
theorem dX10_goes_336 : decode cX10_goes 336 = .ok (.aload_n 0, 1) := by decide +kernel
theorem dX10_goes_337 : decode cX10_goes 337 = .ok (.getfield 131, 3) := by decide +kernel
theorem dX10_goes_340 : decode cX10_goes 340 = .ok (.isub, 1) := by decide +kernel
theorem dX10_goes_341 : decode cX10_goes 341 = .ok (.putfield 154, 3) := by decide +kernel
theorem dX10_goes_344 : decode cX10_goes 344 = .ok (.return_, 1) := by decide +kernel
theorem dX10_spelled_0 : decode cX10_spelled 0 = .ok (.iload_n 0, 1) := by decide +kernel
theorem dX10_spelled_1 : decode cX10_spelled 1 = .ok (.i2l, 1) := by decide +kernel
theorem dX10_spelled_2 : decode cX10_spelled 2 = .ok (.ldc2_w 157, 3) := by decide +kernel
theorem dX10_spelled_5 : decode cX10_spelled 5 = .ok (.lsub, 1) := by decide +kernel
theorem dX10_spelled_6 : decode cX10_spelled 6 = .ok (.iconst 5, 1) := by decide +kernel
theorem dX10_spelled_7 : decode cX10_spelled 7 = .ok (.lshl, 1) := by decide +kernel
theorem dX10_spelled_8 : decode cX10_spelled 8 = .ok (.iload_n 1, 1) := by decide +kernel
theorem dX10_spelled_9 : decode cX10_spelled 9 = .ok (.bipush 96, 2) := by decide +kernel
theorem dX10_spelled_11 : decode cX10_spelled 11 = .ok (.isub, 1) := by decide +kernel
theorem dX10_spelled_12 : decode cX10_spelled 12 = .ok (.i2l, 1) := by decide +kernel
theorem dX10_spelled_13 : decode cX10_spelled 13 = .ok (.lor, 1) := by decide +kernel
theorem dX10_spelled_14 : decode cX10_spelled 14 = .ok (.lstore 7, 2) := by decide +kernel
theorem dX10_spelled_16 : decode cX10_spelled 16 = .ok (.iload_n 2, 1) := by decide +kernel
theorem dX10_spelled_17 : decode cX10_spelled 17 = .ok (.ifCond .eq 15, 3) := by decide +kernel
theorem dX10_spelled_20 : decode cX10_spelled 20 = .ok (.lload 7, 2) := by decide +kernel
theorem dX10_spelled_22 : decode cX10_spelled 22 = .ok (.iconst 5, 1) := by decide +kernel
theorem dX10_spelled_23 : decode cX10_spelled 23 = .ok (.lshl, 1) := by decide +kernel
theorem dX10_spelled_24 : decode cX10_spelled 24 = .ok (.iload_n 2, 1) := by decide +kernel
theorem dX10_spelled_25 : decode cX10_spelled 25 = .ok (.bipush 96, 2) := by decide +kernel
theorem dX10_spelled_27 : decode cX10_spelled 27 = .ok (.isub, 1) := by decide +kernel
theorem dX10_spelled_28 : decode cX10_spelled 28 = .ok (.i2l, 1) := by decide +kernel
theorem dX10_spelled_29 : decode cX10_spelled 29 = .ok (.lor, 1) := by decide +kernel
theorem dX10_spelled_30 : decode cX10_spelled 30 = .ok (.lstore 7, 2) := by decide +kernel
theorem dX10_spelled_32 : decode cX10_spelled 32 = .ok (.iload_n 3, 1) := by decide +kernel
theorem dX10_spelled_33 : decode cX10_spelled 33 = .ok (.ifCond .eq 15, 3) := by decide +kernel
theorem dX10_spelled_36 : decode cX10_spelled 36 = .ok (.lload 7, 2) := by decide +kernel
theorem dX10_spelled_38 : decode cX10_spelled 38 = .ok (.iconst 5, 1) := by decide +kernel
theorem dX10_spelled_39 : decode cX10_spelled 39 = .ok (.lshl, 1) := by decide +kernel
theorem dX10_spelled_40 : decode cX10_spelled 40 = .ok (.iload_n 3, 1) := by decide +kernel
theorem dX10_spelled_41 : decode cX10_spelled 41 = .ok (.bipush 96, 2) := by decide +kernel
theorem dX10_spelled_43 : decode cX10_spelled 43 = .ok (.isub, 1) := by decide +kernel
theorem dX10_spelled_44 : decode cX10_spelled 44 = .ok (.i2l, 1) := by decide +kernel
theorem dX10_spelled_45 : decode cX10_spelled 45 = .ok (.lor, 1) := by decide +kernel
theorem dX10_spelled_46 : decode cX10_spelled 46 = .ok (.lstore 7, 2) := by decide +kernel
theorem dX10_spelled_48 : decode cX10_spelled 48 = .ok (.iload 4, 2) := by decide +kernel
theorem dX10_spelled_50 : decode cX10_spelled 50 = .ok (.ifCond .eq 16, 3) := by decide +kernel
theorem dX10_spelled_53 : decode cX10_spelled 53 = .ok (.lload 7, 2) := by decide +kernel
theorem dX10_spelled_55 : decode cX10_spelled 55 = .ok (.iconst 5, 1) := by decide +kernel
theorem dX10_spelled_56 : decode cX10_spelled 56 = .ok (.lshl, 1) := by decide +kernel
theorem dX10_spelled_57 : decode cX10_spelled 57 = .ok (.iload 4, 2) := by decide +kernel
theorem dX10_spelled_59 : decode cX10_spelled 59 = .ok (.bipush 96, 2) := by decide +kernel
theorem dX10_spelled_61 : decode cX10_spelled 61 = .ok (.isub, 1) := by decide +kernel
theorem dX10_spelled_62 : decode cX10_spelled 62 = .ok (.i2l, 1) := by decide +kernel
theorem dX10_spelled_63 : decode cX10_spelled 63 = .ok (.lor, 1) := by decide +kernel
theorem dX10_spelled_64 : decode cX10_spelled 64 = .ok (.lstore 7, 2) := by decide +kernel
theorem dX10_spelled_66 : decode cX10_spelled 66 = .ok (.iload 5, 2) := by decide +kernel
theorem dX10_spelled_68 : decode cX10_spelled 68 = .ok (.ifCond .eq 16, 3) := by decide +kernel
theorem dX10_spelled_71 : decode cX10_spelled 71 = .ok (.lload 7, 2) := by decide +kernel
theorem dX10_spelled_73 : decode cX10_spelled 73 = .ok (.iconst 5, 1) := by decide +kernel
theorem dX10_spelled_74 : decode cX10_spelled 74 = .ok (.lshl, 1) := by decide +kernel
theorem dX10_spelled_75 : decode cX10_spelled 75 = .ok (.iload 5, 2) := by decide +kernel
theorem dX10_spelled_77 : decode cX10_spelled 77 = .ok (.bipush 96, 2) := by decide +kernel
theorem dX10_spelled_79 : decode cX10_spelled 79 = .ok (.isub, 1) := by decide +kernel
theorem dX10_spelled_80 : decode cX10_spelled 80 = .ok (.i2l, 1) := by decide +kernel
theorem dX10_spelled_81 : decode cX10_spelled 81 = .ok (.lor, 1) := by decide +kernel
theorem dX10_spelled_82 : decode cX10_spelled 82 = .ok (.lstore 7, 2) := by decide +kernel
theorem dX10_spelled_84 : decode cX10_spelled 84 = .ok (.iload 6, 2) := by decide +kernel
theorem dX10_spelled_86 : decode cX10_spelled 86 = .ok (.ifCond .eq 16, 3) := by decide +kernel
theorem dX10_spelled_89 : decode cX10_spelled 89 = .ok (.lload 7, 2) := by decide +kernel
theorem dX10_spelled_91 : decode cX10_spelled 91 = .ok (.iconst 5, 1) := by decide +kernel
theorem dX10_spelled_92 : decode cX10_spelled 92 = .ok (.lshl, 1) := by decide +kernel
theorem dX10_spelled_93 : decode cX10_spelled 93 = .ok (.iload 6, 2) := by decide +kernel
theorem dX10_spelled_95 : decode cX10_spelled 95 = .ok (.bipush 96, 2) := by decide +kernel
theorem dX10_spelled_97 : decode cX10_spelled 97 = .ok (.isub, 1) := by decide +kernel
theorem dX10_spelled_98 : decode cX10_spelled 98 = .ok (.i2l, 1) := by decide +kernel
theorem dX10_spelled_99 : decode cX10_spelled 99 = .ok (.lor, 1) := by decide +kernel
theorem dX10_spelled_100 : decode cX10_spelled 100 = .ok (.lstore 7, 2) := by decide +kernel
theorem dX10_spelled_102 : decode cX10_spelled 102 = .ok (.lload 7, 2) := by decide +kernel
theorem dX10_spelled_104 : decode cX10_spelled 104 = .ok (.lreturn, 1) := by decide +kernel
theorem dX10_letters_0 : decode cX10_letters 0 = .ok (.iload_n 0, 1) := by decide +kernel
theorem dX10_letters_1 : decode cX10_letters 1 = .ok (.tableswitch 341 0 16 #[83, 101, 118, 132, 147, 163, 177, 192, 206, 220, 234, 251, 264, 280, 297, 314, 328], 83) := by decide +kernel
theorem dX10_letters_84 : decode cX10_letters 84 = .ok (.bipush 112, 2) := by decide +kernel
theorem dX10_letters_86 : decode cX10_letters 86 = .ok (.bipush 101, 2) := by decide +kernel
theorem dX10_letters_88 : decode cX10_letters 88 = .ok (.bipush 110, 2) := by decide +kernel
theorem dX10_letters_90 : decode cX10_letters 90 = .ok (.bipush 115, 2) := by decide +kernel
theorem dX10_letters_92 : decode cX10_letters 92 = .ok (.bipush 105, 2) := by decide +kernel
theorem dX10_letters_94 : decode cX10_letters 94 = .ok (.bipush 118, 2) := by decide +kernel
theorem dX10_letters_96 : decode cX10_letters 96 = .ok (.bipush 101, 2) := by decide +kernel
theorem dX10_letters_98 : decode cX10_letters 98 = .ok (.invokestatic 159, 3) := by decide +kernel
theorem dX10_letters_101 : decode cX10_letters 101 = .ok (.lreturn, 1) := by decide +kernel
theorem dX10_letters_102 : decode cX10_letters 102 = .ok (.bipush 114, 2) := by decide +kernel
theorem dX10_letters_104 : decode cX10_letters 104 = .ok (.bipush 101, 2) := by decide +kernel
theorem dX10_letters_106 : decode cX10_letters 106 = .ok (.bipush 103, 2) := by decide +kernel
theorem dX10_letters_108 : decode cX10_letters 108 = .ok (.bipush 114, 2) := by decide +kernel
theorem dX10_letters_110 : decode cX10_letters 110 = .ok (.bipush 101, 2) := by decide +kernel
theorem dX10_letters_112 : decode cX10_letters 112 = .ok (.bipush 116, 2) := by decide +kernel
theorem dX10_letters_114 : decode cX10_letters 114 = .ok (.iconst 0, 1) := by decide +kernel
theorem dX10_letters_115 : decode cX10_letters 115 = .ok (.invokestatic 159, 3) := by decide +kernel
theorem dX10_letters_118 : decode cX10_letters 118 = .ok (.lreturn, 1) := by decide +kernel
theorem dX10_letters_119 : decode cX10_letters 119 = .ok (.bipush 114, 2) := by decide +kernel
theorem dX10_letters_121 : decode cX10_letters 121 = .ok (.bipush 101, 2) := by decide +kernel
theorem dX10_letters_123 : decode cX10_letters 123 = .ok (.bipush 100, 2) := by decide +kernel
theorem dX10_letters_125 : decode cX10_letters 125 = .ok (.iconst 0, 1) := by decide +kernel
theorem dX10_letters_126 : decode cX10_letters 126 = .ok (.iconst 0, 1) := by decide +kernel
theorem dX10_letters_127 : decode cX10_letters 127 = .ok (.iconst 0, 1) := by decide +kernel
theorem dX10_letters_128 : decode cX10_letters 128 = .ok (.iconst 0, 1) := by decide +kernel
theorem dX10_letters_129 : decode cX10_letters 129 = .ok (.invokestatic 159, 3) := by decide +kernel
theorem dX10_letters_132 : decode cX10_letters 132 = .ok (.lreturn, 1) := by decide +kernel
theorem dX10_letters_133 : decode cX10_letters 133 = .ok (.bipush 104, 2) := by decide +kernel
theorem dX10_letters_135 : decode cX10_letters 135 = .ok (.bipush 101, 2) := by decide +kernel
theorem dX10_letters_137 : decode cX10_letters 137 = .ok (.bipush 108, 2) := by decide +kernel
theorem dX10_letters_139 : decode cX10_letters 139 = .ok (.bipush 100, 2) := by decide +kernel
theorem dX10_letters_141 : decode cX10_letters 141 = .ok (.iconst 0, 1) := by decide +kernel
theorem dX10_letters_142 : decode cX10_letters 142 = .ok (.iconst 0, 1) := by decide +kernel
theorem dX10_letters_143 : decode cX10_letters 143 = .ok (.iconst 0, 1) := by decide +kernel
theorem dX10_letters_144 : decode cX10_letters 144 = .ok (.invokestatic 159, 3) := by decide +kernel
theorem dX10_letters_147 : decode cX10_letters 147 = .ok (.lreturn, 1) := by decide +kernel
theorem dX10_letters_148 : decode cX10_letters 148 = .ok (.bipush 104, 2) := by decide +kernel
theorem dX10_letters_150 : decode cX10_letters 150 = .ok (.bipush 101, 2) := by decide +kernel
theorem dX10_letters_152 : decode cX10_letters 152 = .ok (.bipush 97, 2) := by decide +kernel
theorem dX10_letters_154 : decode cX10_letters 154 = .ok (.bipush 114, 2) := by decide +kernel
theorem dX10_letters_156 : decode cX10_letters 156 = .ok (.bipush 100, 2) := by decide +kernel
theorem dX10_letters_158 : decode cX10_letters 158 = .ok (.iconst 0, 1) := by decide +kernel
theorem dX10_letters_159 : decode cX10_letters 159 = .ok (.iconst 0, 1) := by decide +kernel
theorem dX10_letters_160 : decode cX10_letters 160 = .ok (.invokestatic 159, 3) := by decide +kernel
theorem dX10_letters_163 : decode cX10_letters 163 = .ok (.lreturn, 1) := by decide +kernel
theorem dX10_letters_164 : decode cX10_letters 164 = .ok (.bipush 100, 2) := by decide +kernel
theorem dX10_letters_166 : decode cX10_letters 166 = .ok (.bipush 97, 2) := by decide +kernel
theorem dX10_letters_168 : decode cX10_letters 168 = .ok (.bipush 121, 2) := by decide +kernel
theorem dX10_letters_170 : decode cX10_letters 170 = .ok (.iconst 0, 1) := by decide +kernel
theorem dX10_letters_171 : decode cX10_letters 171 = .ok (.iconst 0, 1) := by decide +kernel
theorem dX10_letters_172 : decode cX10_letters 172 = .ok (.iconst 0, 1) := by decide +kernel
theorem dX10_letters_173 : decode cX10_letters 173 = .ok (.iconst 0, 1) := by decide +kernel
theorem dX10_letters_174 : decode cX10_letters 174 = .ok (.invokestatic 159, 3) := by decide +kernel
theorem dX10_letters_177 : decode cX10_letters 177 = .ok (.lreturn, 1) := by decide +kernel
theorem dX10_letters_178 : decode cX10_letters 178 = .ok (.bipush 109, 2) := by decide +kernel
theorem dX10_letters_180 : decode cX10_letters 180 = .ok (.bipush 117, 2) := by decide +kernel
theorem dX10_letters_182 : decode cX10_letters 182 = .ok (.bipush 99, 2) := by decide +kernel
theorem dX10_letters_184 : decode cX10_letters 184 = .ok (.bipush 104, 2) := by decide +kernel
theorem dX10_letters_186 : decode cX10_letters 186 = .ok (.iconst 0, 1) := by decide +kernel
theorem dX10_letters_187 : decode cX10_letters 187 = .ok (.iconst 0, 1) := by decide +kernel
theorem dX10_letters_188 : decode cX10_letters 188 = .ok (.iconst 0, 1) := by decide +kernel
theorem dX10_letters_189 : decode cX10_letters 189 = .ok (.invokestatic 159, 3) := by decide +kernel
theorem dX10_letters_192 : decode cX10_letters 192 = .ok (.lreturn, 1) := by decide +kernel
theorem dX10_letters_193 : decode cX10_letters 193 = .ok (.bipush 102, 2) := by decide +kernel
theorem dX10_letters_195 : decode cX10_letters 195 = .ok (.bipush 97, 2) := by decide +kernel
theorem dX10_letters_197 : decode cX10_letters 197 = .ok (.bipush 114, 2) := by decide +kernel
theorem dX10_letters_199 : decode cX10_letters 199 = .ok (.iconst 0, 1) := by decide +kernel
theorem dX10_letters_200 : decode cX10_letters 200 = .ok (.iconst 0, 1) := by decide +kernel
theorem dX10_letters_201 : decode cX10_letters 201 = .ok (.iconst 0, 1) := by decide +kernel
theorem dX10_letters_202 : decode cX10_letters 202 = .ok (.iconst 0, 1) := by decide +kernel
theorem dX10_letters_203 : decode cX10_letters 203 = .ok (.invokestatic 159, 3) := by decide +kernel
theorem dX10_letters_206 : decode cX10_letters 206 = .ok (.lreturn, 1) := by decide +kernel
theorem dX10_letters_207 : decode cX10_letters 207 = .ok (.bipush 119, 2) := by decide +kernel
theorem dX10_letters_209 : decode cX10_letters 209 = .ok (.bipush 101, 2) := by decide +kernel
theorem dX10_letters_211 : decode cX10_letters 211 = .ok (.bipush 116, 2) := by decide +kernel
theorem dX10_letters_213 : decode cX10_letters 213 = .ok (.iconst 0, 1) := by decide +kernel
theorem dX10_letters_214 : decode cX10_letters 214 = .ok (.iconst 0, 1) := by decide +kernel
theorem dX10_letters_215 : decode cX10_letters 215 = .ok (.iconst 0, 1) := by decide +kernel
theorem dX10_letters_216 : decode cX10_letters 216 = .ok (.iconst 0, 1) := by decide +kernel
theorem dX10_letters_217 : decode cX10_letters 217 = .ok (.invokestatic 159, 3) := by decide +kernel
theorem dX10_letters_220 : decode cX10_letters 220 = .ok (.lreturn, 1) := by decide +kernel
theorem dX10_letters_221 : decode cX10_letters 221 = .ok (.bipush 98, 2) := by decide +kernel
theorem dX10_letters_223 : decode cX10_letters 223 = .ok (.bipush 111, 2) := by decide +kernel
theorem dX10_letters_225 : decode cX10_letters 225 = .ok (.bipush 120, 2) := by decide +kernel
theorem dX10_letters_227 : decode cX10_letters 227 = .ok (.iconst 0, 1) := by decide +kernel
theorem dX10_letters_228 : decode cX10_letters 228 = .ok (.iconst 0, 1) := by decide +kernel
theorem dX10_letters_229 : decode cX10_letters 229 = .ok (.iconst 0, 1) := by decide +kernel
theorem dX10_letters_230 : decode cX10_letters 230 = .ok (.iconst 0, 1) := by decide +kernel
theorem dX10_letters_231 : decode cX10_letters 231 = .ok (.invokestatic 159, 3) := by decide +kernel
theorem dX10_letters_234 : decode cX10_letters 234 = .ok (.lreturn, 1) := by decide +kernel
theorem dX10_letters_235 : decode cX10_letters 235 = .ok (.bipush 112, 2) := by decide +kernel
theorem dX10_letters_237 : decode cX10_letters 237 = .ok (.bipush 101, 2) := by decide +kernel
theorem dX10_letters_239 : decode cX10_letters 239 = .ok (.bipush 114, 2) := by decide +kernel
theorem dX10_letters_241 : decode cX10_letters 241 = .ok (.bipush 115, 2) := by decide +kernel
theorem dX10_letters_243 : decode cX10_letters 243 = .ok (.bipush 111, 2) := by decide +kernel
theorem dX10_letters_245 : decode cX10_letters 245 = .ok (.bipush 110, 2) := by decide +kernel
theorem dX10_letters_247 : decode cX10_letters 247 = .ok (.iconst 0, 1) := by decide +kernel
theorem dX10_letters_248 : decode cX10_letters 248 = .ok (.invokestatic 159, 3) := by decide +kernel
theorem dX10_letters_251 : decode cX10_letters 251 = .ok (.lreturn, 1) := by decide +kernel
theorem dX10_letters_252 : decode cX10_letters 252 = .ok (.bipush 97, 2) := by decide +kernel
theorem dX10_letters_254 : decode cX10_letters 254 = .ok (.bipush 116, 2) := by decide +kernel
theorem dX10_letters_256 : decode cX10_letters 256 = .ok (.iconst 0, 1) := by decide +kernel
theorem dX10_letters_257 : decode cX10_letters 257 = .ok (.iconst 0, 1) := by decide +kernel
theorem dX10_letters_258 : decode cX10_letters 258 = .ok (.iconst 0, 1) := by decide +kernel
theorem dX10_letters_259 : decode cX10_letters 259 = .ok (.iconst 0, 1) := by decide +kernel
theorem dX10_letters_260 : decode cX10_letters 260 = .ok (.iconst 0, 1) := by decide +kernel
theorem dX10_letters_261 : decode cX10_letters 261 = .ok (.invokestatic 159, 3) := by decide +kernel
theorem dX10_letters_264 : decode cX10_letters 264 = .ok (.lreturn, 1) := by decide +kernel
theorem dX10_letters_265 : decode cX10_letters 265 = .ok (.bipush 114, 2) := by decide +kernel
theorem dX10_letters_267 : decode cX10_letters 267 = .ok (.bipush 111, 2) := by decide +kernel
theorem dX10_letters_269 : decode cX10_letters 269 = .ok (.bipush 117, 2) := by decide +kernel
theorem dX10_letters_271 : decode cX10_letters 271 = .ok (.bipush 110, 2) := by decide +kernel
theorem dX10_letters_273 : decode cX10_letters 273 = .ok (.bipush 100, 2) := by decide +kernel
theorem dX10_letters_275 : decode cX10_letters 275 = .ok (.iconst 0, 1) := by decide +kernel
theorem dX10_letters_276 : decode cX10_letters 276 = .ok (.iconst 0, 1) := by decide +kernel
theorem dX10_letters_277 : decode cX10_letters 277 = .ok (.invokestatic 159, 3) := by decide +kernel
theorem dX10_letters_280 : decode cX10_letters 280 = .ok (.lreturn, 1) := by decide +kernel
theorem dX10_letters_281 : decode cX10_letters 281 = .ok (.bipush 116, 2) := by decide +kernel
theorem dX10_letters_283 : decode cX10_letters 283 = .ok (.bipush 104, 2) := by decide +kernel
theorem dX10_letters_285 : decode cX10_letters 285 = .ok (.bipush 105, 2) := by decide +kernel
theorem dX10_letters_287 : decode cX10_letters 287 = .ok (.bipush 110, 2) := by decide +kernel
theorem dX10_letters_289 : decode cX10_letters 289 = .ok (.bipush 107, 2) := by decide +kernel
theorem dX10_letters_291 : decode cX10_letters 291 = .ok (.bipush 115, 2) := by decide +kernel
theorem dX10_letters_293 : decode cX10_letters 293 = .ok (.iconst 0, 1) := by decide +kernel
theorem dX10_letters_294 : decode cX10_letters 294 = .ok (.invokestatic 159, 3) := by decide +kernel
theorem dX10_letters_297 : decode cX10_letters 297 = .ok (.lreturn, 1) := by decide +kernel
theorem dX10_letters_298 : decode cX10_letters 298 = .ok (.bipush 115, 2) := by decide +kernel
theorem dX10_letters_300 : decode cX10_letters 300 = .ok (.bipush 111, 2) := by decide +kernel
theorem dX10_letters_302 : decode cX10_letters 302 = .ok (.bipush 117, 2) := by decide +kernel
theorem dX10_letters_304 : decode cX10_letters 304 = .ok (.bipush 110, 2) := by decide +kernel
theorem dX10_letters_306 : decode cX10_letters 306 = .ok (.bipush 100, 2) := by decide +kernel
theorem dX10_letters_308 : decode cX10_letters 308 = .ok (.bipush 115, 2) := by decide +kernel
theorem dX10_letters_310 : decode cX10_letters 310 = .ok (.iconst 0, 1) := by decide +kernel
theorem dX10_letters_311 : decode cX10_letters 311 = .ok (.invokestatic 159, 3) := by decide +kernel
theorem dX10_letters_314 : decode cX10_letters 314 = .ok (.lreturn, 1) := by decide +kernel
theorem dX10_letters_315 : decode cX10_letters 315 = .ok (.bipush 97, 2) := by decide +kernel
theorem dX10_letters_317 : decode cX10_letters 317 = .ok (.bipush 110, 2) := by decide +kernel
theorem dX10_letters_319 : decode cX10_letters 319 = .ok (.bipush 100, 2) := by decide +kernel
theorem dX10_letters_321 : decode cX10_letters 321 = .ok (.iconst 0, 1) := by decide +kernel
theorem dX10_letters_322 : decode cX10_letters 322 = .ok (.iconst 0, 1) := by decide +kernel
theorem dX10_letters_323 : decode cX10_letters 323 = .ok (.iconst 0, 1) := by decide +kernel
theorem dX10_letters_324 : decode cX10_letters 324 = .ok (.iconst 0, 1) := by decide +kernel
theorem dX10_letters_325 : decode cX10_letters 325 = .ok (.invokestatic 159, 3) := by decide +kernel
theorem dX10_letters_328 : decode cX10_letters 328 = .ok (.lreturn, 1) := by decide +kernel
theorem dX10_letters_329 : decode cX10_letters 329 = .ok (.bipush 111, 2) := by decide +kernel
theorem dX10_letters_331 : decode cX10_letters 331 = .ok (.bipush 114, 2) := by decide +kernel
theorem dX10_letters_333 : decode cX10_letters 333 = .ok (.iconst 0, 1) := by decide +kernel
theorem dX10_letters_334 : decode cX10_letters 334 = .ok (.iconst 0, 1) := by decide +kernel
theorem dX10_letters_335 : decode cX10_letters 335 = .ok (.iconst 0, 1) := by decide +kernel
theorem dX10_letters_336 : decode cX10_letters 336 = .ok (.iconst 0, 1) := by decide +kernel
theorem dX10_letters_337 : decode cX10_letters 337 = .ok (.iconst 0, 1) := by decide +kernel
theorem dX10_letters_338 : decode cX10_letters 338 = .ok (.invokestatic 159, 3) := by decide +kernel
theorem dX10_letters_341 : decode cX10_letters 341 = .ok (.lreturn, 1) := by decide +kernel
theorem dX10_letters_342 : decode cX10_letters 342 = .ok (.bipush 110, 2) := by decide +kernel
theorem dX10_letters_344 : decode cX10_letters 344 = .ok (.bipush 111, 2) := by decide +kernel
theorem dX10_letters_346 : decode cX10_letters 346 = .ok (.bipush 116, 2) := by decide +kernel
theorem dX10_letters_348 : decode cX10_letters 348 = .ok (.iconst 0, 1) := by decide +kernel
theorem dX10_letters_349 : decode cX10_letters 349 = .ok (.iconst 0, 1) := by decide +kernel
theorem dX10_letters_350 : decode cX10_letters 350 = .ok (.iconst 0, 1) := by decide +kernel
theorem dX10_letters_351 : decode cX10_letters 351 = .ok (.iconst 0, 1) := by decide +kernel
theorem dX10_letters_352 : decode cX10_letters 352 = .ok (.invokestatic 159, 3) := by decide +kernel
theorem dX10_letters_355 : decode cX10_letters 355 = .ok (.lreturn, 1) := by decide +kernel
theorem dX10_knownWord_0 : decode cX10_knownWord 0 = .ok (.aload_n 0, 1) := by decide +kernel
theorem dX10_knownWord_1 : decode cX10_knownWord 1 = .ok (.getfield 144, 3) := by decide +kernel
theorem dX10_knownWord_4 : decode cX10_knownWord 4 = .ok (.iconst 1, 1) := by decide +kernel
theorem dX10_knownWord_5 : decode cX10_knownWord 5 = .ok (.if_icmp .ne 12, 3) := by decide +kernel
theorem dX10_knownWord_8 : decode cX10_knownWord 8 = .ok (.aload_n 0, 1) := by decide +kernel
theorem dX10_knownWord_9 : decode cX10_knownWord 9 = .ok (.getfield 154, 3) := by decide +kernel
theorem dX10_knownWord_12 : decode cX10_knownWord 12 = .ok (.bipush 7, 2) := by decide +kernel
theorem dX10_knownWord_14 : decode cX10_knownWord 14 = .ok (.if_icmp .le 5, 3) := by decide +kernel
theorem dX10_knownWord_17 : decode cX10_knownWord 17 = .ok (.iconst (-1), 1) := by decide +kernel
theorem dX10_knownWord_18 : decode cX10_knownWord 18 = .ok (.ireturn, 1) := by decide +kernel
theorem dX10_knownWord_19 : decode cX10_knownWord 19 = .ok (.iconst 0, 1) := by decide +kernel
theorem dX10_knownWord_20 : decode cX10_knownWord 20 = .ok (.istore_n 1, 1) := by decide +kernel
theorem dX10_knownWord_21 : decode cX10_knownWord 21 = .ok (.iload_n 1, 1) := by decide +kernel
theorem dX10_knownWord_22 : decode cX10_knownWord 22 = .ok (.bipush 18, 2) := by decide +kernel
theorem dX10_knownWord_24 : decode cX10_knownWord 24 = .ok (.if_icmp .ge 23, 3) := by decide +kernel
theorem dX10_knownWord_27 : decode cX10_knownWord 27 = .ok (.iload_n 1, 1) := by decide +kernel
theorem dX10_knownWord_28 : decode cX10_knownWord 28 = .ok (.invokestatic 163, 3) := by decide +kernel
theorem dX10_knownWord_31 : decode cX10_knownWord 31 = .ok (.aload_n 0, 1) := by decide +kernel
theorem dX10_knownWord_32 : decode cX10_knownWord 32 = .ok (.getfield 134, 3) := by decide +kernel
theorem dX10_knownWord_35 : decode cX10_knownWord 35 = .ok (.lcmp, 1) := by decide +kernel
theorem dX10_knownWord_36 : decode cX10_knownWord 36 = .ok (.ifCond .ne 5, 3) := by decide +kernel
theorem dX10_knownWord_39 : decode cX10_knownWord 39 = .ok (.iload_n 1, 1) := by decide +kernel
theorem dX10_knownWord_40 : decode cX10_knownWord 40 = .ok (.ireturn, 1) := by decide +kernel
theorem dX10_knownWord_41 : decode cX10_knownWord 41 = .ok (.iinc 1 1, 3) := by decide +kernel
theorem dX10_knownWord_44 : decode cX10_knownWord 44 = .ok (.goto (-23), 3) := by decide +kernel
theorem dX10_knownWord_47 : decode cX10_knownWord 47 = .ok (.iconst (-1), 1) := by decide +kernel
theorem dX10_knownWord_48 : decode cX10_knownWord 48 = .ok (.ireturn, 1) := by decide +kernel
theorem dX10_wrong_0 : decode cX10_wrong 0 = .ok (.aload_n 0, 1) := by decide +kernel
theorem dX10_wrong_1 : decode cX10_wrong 1 = .ok (.getfield 167, 3) := by decide +kernel
theorem dX10_wrong_4 : decode cX10_wrong 4 = .ok (.ifCond .eq 4, 3) := by decide +kernel
theorem dX10_wrong_7 : decode cX10_wrong 7 = .ok (.return_, 1) := by decide +kernel
theorem dX10_wrong_8 : decode cX10_wrong 8 = .ok (.aload_n 0, 1) := by decide +kernel
theorem dX10_wrong_9 : decode cX10_wrong 9 = .ok (.iload_n 1, 1) := by decide +kernel
theorem dX10_wrong_10 : decode cX10_wrong 10 = .ok (.putfield 167, 3) := by decide +kernel
theorem dX10_wrong_13 : decode cX10_wrong 13 = .ok (.aload_n 0, 1) := by decide +kernel
theorem dX10_wrong_14 : decode cX10_wrong 14 = .ok (.aload_n 0, 1) := by decide +kernel
theorem dX10_wrong_15 : decode cX10_wrong 15 = .ok (.getfield 131, 3) := by decide +kernel
theorem dX10_wrong_18 : decode cX10_wrong 18 = .ok (.putfield 38, 3) := by decide +kernel
theorem dX10_wrong_21 : decode cX10_wrong 21 = .ok (.return_, 1) := by decide +kernel
theorem dX10_isGood_0 : decode cX10_isGood 0 = .ok (.aload_n 0, 1) := by decide +kernel
theorem dX10_isGood_1 : decode cX10_isGood 1 = .ok (.getfield 167, 3) := by decide +kernel
theorem dX10_isGood_4 : decode cX10_isGood 4 = .ok (.ifCond .ne 7, 3) := by decide +kernel
theorem dX10_isGood_7 : decode cX10_isGood 7 = .ok (.iconst 1, 1) := by decide +kernel
theorem dX10_isGood_8 : decode cX10_isGood 8 = .ok (.goto 4, 3) := by decide +kernel
theorem dX10_isGood_11 : decode cX10_isGood 11 = .ok (.iconst 0, 1) := by decide +kernel
theorem dX10_isGood_12 : decode cX10_isGood 12 = .ok (.ireturn, 1) := by decide +kernel
theorem dX10_isSign_0 : decode cX10_isSign 0 = .ok (.aload_n 0, 1) := by decide +kernel
theorem dX10_isSign_1 : decode cX10_isSign 1 = .ok (.getfield 144, 3) := by decide +kernel
theorem dX10_isSign_4 : decode cX10_isSign 4 = .ok (.iconst 3, 1) := by decide +kernel
theorem dX10_isSign_5 : decode cX10_isSign 5 = .ok (.if_icmp .ne 15, 3) := by decide +kernel
theorem dX10_isSign_8 : decode cX10_isSign 8 = .ok (.aload_n 0, 1) := by decide +kernel
theorem dX10_isSign_9 : decode cX10_isSign 9 = .ok (.getfield 141, 3) := by decide +kernel
theorem dX10_isSign_12 : decode cX10_isSign 12 = .ok (.iload_n 1, 1) := by decide +kernel
theorem dX10_isSign_13 : decode cX10_isSign 13 = .ok (.if_icmp .ne 7, 3) := by decide +kernel
theorem dX10_isSign_16 : decode cX10_isSign 16 = .ok (.iconst 1, 1) := by decide +kernel
theorem dX10_isSign_17 : decode cX10_isSign 17 = .ok (.goto 4, 3) := by decide +kernel
theorem dX10_isSign_20 : decode cX10_isSign 20 = .ok (.iconst 0, 1) := by decide +kernel
theorem dX10_isSign_21 : decode cX10_isSign 21 = .ok (.ireturn, 1) := by decide +kernel
theorem dX10_need_0 : decode cX10_need 0 = .ok (.aload_n 0, 1) := by decide +kernel
theorem dX10_need_1 : decode cX10_need 1 = .ok (.invokevirtual 170, 3) := by decide +kernel
theorem dX10_need_4 : decode cX10_need 4 = .ok (.ifCond .ne 4, 3) := by decide +kernel
theorem dX10_need_7 : decode cX10_need 7 = .ok (.return_, 1) := by decide +kernel
theorem dX10_need_8 : decode cX10_need 8 = .ok (.iload_n 1, 1) := by decide +kernel
theorem dX10_need_9 : decode cX10_need 9 = .ok (.ifCond .eq 10, 3) := by decide +kernel
theorem dX10_need_12 : decode cX10_need 12 = .ok (.aload_n 0, 1) := by decide +kernel
theorem dX10_need_13 : decode cX10_need 13 = .ok (.invokevirtual 174, 3) := by decide +kernel
theorem dX10_need_16 : decode cX10_need 16 = .ok (.goto 8, 3) := by decide +kernel
theorem dX10_need_19 : decode cX10_need 19 = .ok (.aload_n 0, 1) := by decide +kernel
theorem dX10_need_20 : decode cX10_need 20 = .ok (.iconst 1, 1) := by decide +kernel
theorem dX10_need_21 : decode cX10_need 21 = .ok (.invokevirtual 177, 3) := by decide +kernel
theorem dX10_need_24 : decode cX10_need 24 = .ok (.return_, 1) := by decide +kernel
theorem dX10_number_0 : decode cX10_number 0 = .ok (.aload_n 0, 1) := by decide +kernel
theorem dX10_number_1 : decode cX10_number 1 = .ok (.invokevirtual 170, 3) := by decide +kernel
theorem dX10_number_4 : decode cX10_number 4 = .ok (.ifCond .ne 5, 3) := by decide +kernel
theorem dX10_number_7 : decode cX10_number 7 = .ok (.iconst 0, 1) := by decide +kernel
theorem dX10_number_8 : decode cX10_number 8 = .ok (.ireturn, 1) := by decide +kernel
theorem dX10_number_9 : decode cX10_number 9 = .ok (.aload_n 0, 1) := by decide +kernel
theorem dX10_number_10 : decode cX10_number 10 = .ok (.getfield 144, 3) := by decide +kernel
theorem dX10_number_13 : decode cX10_number 13 = .ok (.iconst 2, 1) := by decide +kernel
theorem dX10_number_14 : decode cX10_number 14 = .ok (.if_icmp .eq 11, 3) := by decide +kernel
theorem dX10_number_17 : decode cX10_number 17 = .ok (.aload_n 0, 1) := by decide +kernel
theorem dX10_number_18 : decode cX10_number 18 = .ok (.iconst 1, 1) := by decide +kernel
theorem dX10_number_19 : decode cX10_number 19 = .ok (.invokevirtual 177, 3) := by decide +kernel
theorem dX10_number_22 : decode cX10_number 22 = .ok (.goto 32, 3) := by decide +kernel
theorem dX10_number_25 : decode cX10_number 25 = .ok (.aload_n 0, 1) := by decide +kernel
theorem dX10_number_26 : decode cX10_number 26 = .ok (.getfield 154, 3) := by decide +kernel
theorem dX10_number_29 : decode cX10_number 29 = .ok (.iconst 4, 1) := by decide +kernel
theorem dX10_number_30 : decode cX10_number 30 = .ok (.if_icmp .gt 19, 3) := by decide +kernel
theorem dX10_number_33 : decode cX10_number 33 = .ok (.aload_n 0, 1) := by decide +kernel
theorem dX10_number_34 : decode cX10_number 34 = .ok (.getfield 138, 3) := by decide +kernel
theorem dX10_number_37 : decode cX10_number 37 = .ok (.iload_n 1, 1) := by decide +kernel
theorem dX10_number_38 : decode cX10_number 38 = .ok (.if_icmp .lt 11, 3) := by decide +kernel
theorem dX10_number_41 : decode cX10_number 41 = .ok (.aload_n 0, 1) := by decide +kernel
theorem dX10_number_42 : decode cX10_number 42 = .ok (.getfield 138, 3) := by decide +kernel
theorem dX10_number_45 : decode cX10_number 45 = .ok (.iload_n 2, 1) := by decide +kernel
theorem dX10_number_46 : decode cX10_number 46 = .ok (.if_icmp .le 8, 3) := by decide +kernel
theorem dX10_number_49 : decode cX10_number 49 = .ok (.aload_n 0, 1) := by decide +kernel
theorem dX10_number_50 : decode cX10_number 50 = .ok (.iconst 2, 1) := by decide +kernel
theorem dX10_number_51 : decode cX10_number 51 = .ok (.invokevirtual 177, 3) := by decide +kernel
theorem dX10_number_54 : decode cX10_number 54 = .ok (.aload_n 0, 1) := by decide +kernel
theorem dX10_number_55 : decode cX10_number 55 = .ok (.getfield 138, 3) := by decide +kernel
theorem dX10_number_58 : decode cX10_number 58 = .ok (.istore_n 3, 1) := by decide +kernel
theorem dX10_number_59 : decode cX10_number 59 = .ok (.aload_n 0, 1) := by decide +kernel
theorem dX10_number_60 : decode cX10_number 60 = .ok (.invokevirtual 170, 3) := by decide +kernel
theorem dX10_number_63 : decode cX10_number 63 = .ok (.ifCond .eq 7, 3) := by decide +kernel
theorem dX10_number_66 : decode cX10_number 66 = .ok (.aload_n 0, 1) := by decide +kernel
theorem dX10_number_67 : decode cX10_number 67 = .ok (.invokevirtual 174, 3) := by decide +kernel
theorem dX10_number_70 : decode cX10_number 70 = .ok (.iload_n 3, 1) := by decide +kernel
theorem dX10_number_71 : decode cX10_number 71 = .ok (.ireturn, 1) := by decide +kernel
theorem dX10_puts_0 : decode cX10_puts 0 = .ok (.aload_n 0, 1) := by decide +kernel
theorem dX10_puts_1 : decode cX10_puts 1 = .ok (.getfield 62, 3) := by decide +kernel
theorem dX10_puts_4 : decode cX10_puts 4 = .ok (.aload_n 0, 1) := by decide +kernel
theorem dX10_puts_5 : decode cX10_puts 5 = .ok (.getfield 180, 3) := by decide +kernel
theorem dX10_puts_8 : decode cX10_puts 8 = .ok (.iload_n 1, 1) := by decide +kernel
theorem dX10_puts_9 : decode cX10_puts 9 = .ok (.iastore, 1) := by decide +kernel
theorem dX10_puts_10 : decode cX10_puts 10 = .ok (.aload_n 0, 1) := by decide +kernel
theorem dX10_puts_11 : decode cX10_puts 11 = .ok (.dup, 1) := by decide +kernel
theorem dX10_puts_12 : decode cX10_puts 12 = .ok (.getfield 180, 3) := by decide +kernel
theorem dX10_puts_15 : decode cX10_puts 15 = .ok (.iconst 1, 1) := by decide +kernel
theorem dX10_puts_16 : decode cX10_puts 16 = .ok (.iadd, 1) := by decide +kernel
theorem dX10_puts_17 : decode cX10_puts 17 = .ok (.putfield 180, 3) := by decide +kernel
theorem dX10_puts_20 : decode cX10_puts 20 = .ok (.return_, 1) := by decide +kernel
theorem dX10_isOpen_0 : decode cX10_isOpen 0 = .ok (.iload_n 0, 1) := by decide +kernel
theorem dX10_isOpen_1 : decode cX10_isOpen 1 = .ok (.bipush 14, 2) := by decide +kernel
theorem dX10_isOpen_3 : decode cX10_isOpen 3 = .ok (.if_icmp .lt 7, 3) := by decide +kernel
theorem dX10_isOpen_6 : decode cX10_isOpen 6 = .ok (.iconst 1, 1) := by decide +kernel
theorem dX10_isOpen_7 : decode cX10_isOpen 7 = .ok (.goto 4, 3) := by decide +kernel
theorem dX10_isOpen_10 : decode cX10_isOpen 10 = .ok (.iconst 0, 1) := by decide +kernel
theorem dX10_isOpen_11 : decode cX10_isOpen 11 = .ok (.ireturn, 1) := by decide +kernel
theorem dX10_strength_0 : decode cX10_strength 0 = .ok (.iload_n 0, 1) := by decide +kernel
theorem dX10_strength_1 : decode cX10_strength 1 = .ok (.iconst 5, 1) := by decide +kernel
theorem dX10_strength_2 : decode cX10_strength 2 = .ok (.if_icmp .ne 7, 3) := by decide +kernel
theorem dX10_strength_5 : decode cX10_strength 5 = .ok (.iconst 1, 1) := by decide +kernel
theorem dX10_strength_6 : decode cX10_strength 6 = .ok (.goto 55, 3) := by decide +kernel
theorem dX10_strength_9 : decode cX10_strength 9 = .ok (.iload_n 0, 1) := by decide +kernel
theorem dX10_strength_10 : decode cX10_strength 10 = .ok (.iconst 4, 1) := by decide +kernel
theorem dX10_strength_11 : decode cX10_strength 11 = .ok (.if_icmp .ne 7, 3) := by decide +kernel
theorem dX10_strength_14 : decode cX10_strength 14 = .ok (.iconst 2, 1) := by decide +kernel
theorem dX10_strength_15 : decode cX10_strength 15 = .ok (.goto 46, 3) := by decide +kernel
theorem dX10_strength_18 : decode cX10_strength 18 = .ok (.iload_n 0, 1) := by decide +kernel
theorem dX10_strength_19 : decode cX10_strength 19 = .ok (.iconst 3, 1) := by decide +kernel
theorem dX10_strength_20 : decode cX10_strength 20 = .ok (.if_icmp .ne 7, 3) := by decide +kernel
theorem dX10_strength_23 : decode cX10_strength 23 = .ok (.iconst 3, 1) := by decide +kernel
theorem dX10_strength_24 : decode cX10_strength 24 = .ok (.goto 37, 3) := by decide +kernel
theorem dX10_strength_27 : decode cX10_strength 27 = .ok (.iload_n 0, 1) := by decide +kernel
theorem dX10_strength_28 : decode cX10_strength 28 = .ok (.bipush 6, 2) := by decide +kernel
theorem dX10_strength_30 : decode cX10_strength 30 = .ok (.if_icmp .eq 9, 3) := by decide +kernel
theorem dX10_strength_33 : decode cX10_strength 33 = .ok (.iload_n 0, 1) := by decide +kernel
theorem dX10_strength_34 : decode cX10_strength 34 = .ok (.bipush 7, 2) := by decide +kernel
theorem dX10_strength_36 : decode cX10_strength 36 = .ok (.if_icmp .ne 7, 3) := by decide +kernel
theorem dX10_strength_39 : decode cX10_strength 39 = .ok (.iconst 4, 1) := by decide +kernel
theorem dX10_strength_40 : decode cX10_strength 40 = .ok (.goto 21, 3) := by decide +kernel
theorem dX10_strength_43 : decode cX10_strength 43 = .ok (.iload_n 0, 1) := by decide +kernel
theorem dX10_strength_44 : decode cX10_strength 44 = .ok (.bipush 8, 2) := by decide +kernel
theorem dX10_strength_46 : decode cX10_strength 46 = .ok (.if_icmp .eq 9, 3) := by decide +kernel
theorem dX10_strength_49 : decode cX10_strength 49 = .ok (.iload_n 0, 1) := by decide +kernel
theorem dX10_strength_50 : decode cX10_strength 50 = .ok (.bipush 9, 2) := by decide +kernel
theorem dX10_strength_52 : decode cX10_strength 52 = .ok (.if_icmp .ne 7, 3) := by decide +kernel
theorem dX10_strength_55 : decode cX10_strength 55 = .ok (.iconst 5, 1) := by decide +kernel
theorem dX10_strength_56 : decode cX10_strength 56 = .ok (.goto 5, 3) := by decide +kernel
theorem dX10_strength_59 : decode cX10_strength 59 = .ok (.bipush 6, 2) := by decide +kernel
theorem dX10_strength_61 : decode cX10_strength 61 = .ok (.ireturn, 1) := by decide +kernel
theorem dX10_drops_0 : decode cX10_drops 0 = .ok (.aload_n 0, 1) := by decide +kernel
theorem dX10_drops_1 : decode cX10_drops 1 = .ok (.getfield 183, 3) := by decide +kernel
theorem dX10_drops_4 : decode cX10_drops 4 = .ok (.ifCond .le 64, 3) := by decide +kernel
theorem dX10_drops_7 : decode cX10_drops 7 = .ok (.aload_n 0, 1) := by decide +kernel
theorem dX10_drops_8 : decode cX10_drops 8 = .ok (.getfield 65, 3) := by decide +kernel
theorem dX10_drops_11 : decode cX10_drops 11 = .ok (.aload_n 0, 1) := by decide +kernel
theorem dX10_drops_12 : decode cX10_drops 12 = .ok (.getfield 183, 3) := by decide +kernel
theorem dX10_drops_15 : decode cX10_drops 15 = .ok (.iconst 1, 1) := by decide +kernel
theorem dX10_drops_16 : decode cX10_drops 16 = .ok (.isub, 1) := by decide +kernel
theorem dX10_drops_17 : decode cX10_drops 17 = .ok (.iaload, 1) := by decide +kernel
theorem dX10_drops_18 : decode cX10_drops 18 = .ok (.invokestatic 186, 3) := by decide +kernel
theorem dX10_drops_21 : decode cX10_drops 21 = .ok (.ifCond .ne 47, 3) := by decide +kernel
theorem dX10_drops_24 : decode cX10_drops 24 = .ok (.aload_n 0, 1) := by decide +kernel
theorem dX10_drops_25 : decode cX10_drops 25 = .ok (.getfield 65, 3) := by decide +kernel
theorem dX10_drops_28 : decode cX10_drops 28 = .ok (.aload_n 0, 1) := by decide +kernel
theorem dX10_drops_29 : decode cX10_drops 29 = .ok (.getfield 183, 3) := by decide +kernel
theorem dX10_drops_32 : decode cX10_drops 32 = .ok (.iconst 1, 1) := by decide +kernel
theorem dX10_drops_33 : decode cX10_drops 33 = .ok (.isub, 1) := by decide +kernel
theorem dX10_drops_34 : decode cX10_drops 34 = .ok (.iaload, 1) := by decide +kernel
theorem dX10_drops_35 : decode cX10_drops 35 = .ok (.invokestatic 189, 3) := by decide +kernel
theorem dX10_drops_38 : decode cX10_drops 38 = .ok (.iload_n 1, 1) := by decide +kernel
theorem dX10_drops_39 : decode cX10_drops 39 = .ok (.if_icmp .lt 29, 3) := by decide +kernel
theorem dX10_drops_42 : decode cX10_drops 42 = .ok (.aload_n 0, 1) := by decide +kernel
theorem dX10_drops_43 : decode cX10_drops 43 = .ok (.dup, 1) := by decide +kernel
theorem dX10_drops_44 : decode cX10_drops 44 = .ok (.getfield 183, 3) := by decide +kernel
theorem dX10_drops_47 : decode cX10_drops 47 = .ok (.iconst 1, 1) := by decide +kernel
theorem dX10_drops_48 : decode cX10_drops 48 = .ok (.isub, 1) := by decide +kernel
theorem dX10_drops_49 : decode cX10_drops 49 = .ok (.putfield 183, 3) := by decide +kernel
theorem dX10_drops_52 : decode cX10_drops 52 = .ok (.aload_n 0, 1) := by decide +kernel
theorem dX10_drops_53 : decode cX10_drops 53 = .ok (.aload_n 0, 1) := by decide +kernel
theorem dX10_drops_54 : decode cX10_drops 54 = .ok (.getfield 65, 3) := by decide +kernel
theorem dX10_drops_57 : decode cX10_drops 57 = .ok (.aload_n 0, 1) := by decide +kernel
theorem dX10_drops_58 : decode cX10_drops 58 = .ok (.getfield 183, 3) := by decide +kernel
theorem dX10_drops_61 : decode cX10_drops 61 = .ok (.iaload, 1) := by decide +kernel
theorem dX10_drops_62 : decode cX10_drops 62 = .ok (.invokevirtual 192, 3) := by decide +kernel
theorem dX10_drops_65 : decode cX10_drops 65 = .ok (.goto (-65), 3) := by decide +kernel
theorem dX10_drops_68 : decode cX10_drops 68 = .ok (.return_, 1) := by decide +kernel
theorem dX10_waitsFor_0 : decode cX10_waitsFor 0 = .ok (.aload_n 0, 1) := by decide +kernel
theorem dX10_waitsFor_1 : decode cX10_waitsFor 1 = .ok (.getfield 65, 3) := by decide +kernel
theorem dX10_waitsFor_4 : decode cX10_waitsFor 4 = .ok (.aload_n 0, 1) := by decide +kernel
theorem dX10_waitsFor_5 : decode cX10_waitsFor 5 = .ok (.getfield 183, 3) := by decide +kernel
theorem dX10_waitsFor_8 : decode cX10_waitsFor 8 = .ok (.iload_n 1, 1) := by decide +kernel
theorem dX10_waitsFor_9 : decode cX10_waitsFor 9 = .ok (.iastore, 1) := by decide +kernel
theorem dX10_waitsFor_10 : decode cX10_waitsFor 10 = .ok (.aload_n 0, 1) := by decide +kernel
theorem dX10_waitsFor_11 : decode cX10_waitsFor 11 = .ok (.dup, 1) := by decide +kernel
theorem dX10_waitsFor_12 : decode cX10_waitsFor 12 = .ok (.getfield 183, 3) := by decide +kernel
theorem dX10_waitsFor_15 : decode cX10_waitsFor 15 = .ok (.iconst 1, 1) := by decide +kernel
theorem dX10_waitsFor_16 : decode cX10_waitsFor 16 = .ok (.iadd, 1) := by decide +kernel
theorem dX10_waitsFor_17 : decode cX10_waitsFor 17 = .ok (.putfield 183, 3) := by decide +kernel
theorem dX10_waitsFor_20 : decode cX10_waitsFor 20 = .ok (.return_, 1) := by decide +kernel
theorem dX10_part_0 : decode cX10_part 0 = .ok (.aload_n 0, 1) := by decide +kernel
theorem dX10_part_1 : decode cX10_part 1 = .ok (.invokevirtual 170, 3) := by decide +kernel
theorem dX10_part_4 : decode cX10_part 4 = .ok (.ifCond .ne 4, 3) := by decide +kernel
theorem dX10_part_7 : decode cX10_part 7 = .ok (.return_, 1) := by decide +kernel
theorem dX10_part_8 : decode cX10_part 8 = .ok (.aload_n 0, 1) := by decide +kernel
theorem dX10_part_9 : decode cX10_part 9 = .ok (.getfield 144, 3) := by decide +kernel
theorem dX10_part_12 : decode cX10_part 12 = .ok (.iconst 2, 1) := by decide +kernel
theorem dX10_part_13 : decode cX10_part 13 = .ok (.if_icmp .ne 32, 3) := by decide +kernel
theorem dX10_part_16 : decode cX10_part 16 = .ok (.aload_n 0, 1) := by decide +kernel
theorem dX10_part_17 : decode cX10_part 17 = .ok (.getfield 154, 3) := by decide +kernel
theorem dX10_part_20 : decode cX10_part 20 = .ok (.iconst 4, 1) := by decide +kernel
theorem dX10_part_21 : decode cX10_part 21 = .ok (.if_icmp .le 8, 3) := by decide +kernel
theorem dX10_part_24 : decode cX10_part 24 = .ok (.aload_n 0, 1) := by decide +kernel
theorem dX10_part_25 : decode cX10_part 25 = .ok (.iconst 2, 1) := by decide +kernel
theorem dX10_part_26 : decode cX10_part 26 = .ok (.invokevirtual 177, 3) := by decide +kernel
theorem dX10_part_29 : decode cX10_part 29 = .ok (.aload_n 0, 1) := by decide +kernel
theorem dX10_part_30 : decode cX10_part 30 = .ok (.iconst 1, 1) := by decide +kernel
theorem dX10_part_31 : decode cX10_part 31 = .ok (.invokevirtual 192, 3) := by decide +kernel
theorem dX10_part_34 : decode cX10_part 34 = .ok (.aload_n 0, 1) := by decide +kernel
theorem dX10_part_35 : decode cX10_part 35 = .ok (.aload_n 0, 1) := by decide +kernel
theorem dX10_part_36 : decode cX10_part 36 = .ok (.getfield 138, 3) := by decide +kernel
theorem dX10_part_39 : decode cX10_part 39 = .ok (.invokevirtual 192, 3) := by decide +kernel
theorem dX10_part_42 : decode cX10_part 42 = .ok (.goto 55, 3) := by decide +kernel
theorem dX10_part_45 : decode cX10_part 45 = .ok (.aload_n 0, 1) := by decide +kernel
theorem dX10_part_46 : decode cX10_part 46 = .ok (.getfield 144, 3) := by decide +kernel
theorem dX10_part_49 : decode cX10_part 49 = .ok (.iconst 1, 1) := by decide +kernel
theorem dX10_part_50 : decode cX10_part 50 = .ok (.if_icmp .ne 42, 3) := by decide +kernel
theorem dX10_part_53 : decode cX10_part 53 = .ok (.aload_n 0, 1) := by decide +kernel
theorem dX10_part_54 : decode cX10_part 54 = .ok (.invokevirtual 195, 3) := by decide +kernel
theorem dX10_part_57 : decode cX10_part 57 = .ok (.istore_n 1, 1) := by decide +kernel
theorem dX10_part_58 : decode cX10_part 58 = .ok (.iload_n 1, 1) := by decide +kernel
theorem dX10_part_59 : decode cX10_part 59 = .ok (.aload_n 0, 1) := by decide +kernel
theorem dX10_part_60 : decode cX10_part 60 = .ok (.getfield 199, 3) := by decide +kernel
theorem dX10_part_63 : decode cX10_part 63 = .ok (.if_icmp .lt 11, 3) := by decide +kernel
theorem dX10_part_66 : decode cX10_part 66 = .ok (.iload_n 1, 1) := by decide +kernel
theorem dX10_part_67 : decode cX10_part 67 = .ok (.aload_n 0, 1) := by decide +kernel
theorem dX10_part_68 : decode cX10_part 68 = .ok (.getfield 202, 3) := by decide +kernel
theorem dX10_part_71 : decode cX10_part 71 = .ok (.if_icmp .le 8, 3) := by decide +kernel
theorem dX10_part_74 : decode cX10_part 74 = .ok (.aload_n 0, 1) := by decide +kernel
theorem dX10_part_75 : decode cX10_part 75 = .ok (.iconst 3, 1) := by decide +kernel
theorem dX10_part_76 : decode cX10_part 76 = .ok (.invokevirtual 177, 3) := by decide +kernel
theorem dX10_part_79 : decode cX10_part 79 = .ok (.aload_n 0, 1) := by decide +kernel
theorem dX10_part_80 : decode cX10_part 80 = .ok (.iconst 2, 1) := by decide +kernel
theorem dX10_part_81 : decode cX10_part 81 = .ok (.invokevirtual 192, 3) := by decide +kernel
theorem dX10_part_84 : decode cX10_part 84 = .ok (.aload_n 0, 1) := by decide +kernel
theorem dX10_part_85 : decode cX10_part 85 = .ok (.iload_n 1, 1) := by decide +kernel
theorem dX10_part_86 : decode cX10_part 86 = .ok (.invokevirtual 192, 3) := by decide +kernel
theorem dX10_part_89 : decode cX10_part 89 = .ok (.goto 8, 3) := by decide +kernel
theorem dX10_part_92 : decode cX10_part 92 = .ok (.aload_n 0, 1) := by decide +kernel
theorem dX10_part_93 : decode cX10_part 93 = .ok (.iconst 1, 1) := by decide +kernel
theorem dX10_part_94 : decode cX10_part 94 = .ok (.invokevirtual 177, 3) := by decide +kernel
theorem dX10_part_97 : decode cX10_part 97 = .ok (.aload_n 0, 1) := by decide +kernel
theorem dX10_part_98 : decode cX10_part 98 = .ok (.invokevirtual 170, 3) := by decide +kernel
theorem dX10_part_101 : decode cX10_part 101 = .ok (.ifCond .eq 7, 3) := by decide +kernel
theorem dX10_part_104 : decode cX10_part 104 = .ok (.aload_n 0, 1) := by decide +kernel
theorem dX10_part_105 : decode cX10_part 105 = .ok (.invokevirtual 174, 3) := by decide +kernel
theorem dX10_part_108 : decode cX10_part 108 = .ok (.return_, 1) := by decide +kernel
theorem dX10_deeper_0 : decode cX10_deeper 0 = .ok (.aload_n 0, 1) := by decide +kernel
theorem dX10_deeper_1 : decode cX10_deeper 1 = .ok (.getfield 205, 3) := by decide +kernel
theorem dX10_deeper_4 : decode cX10_deeper 4 = .ok (.bipush 6, 2) := by decide +kernel
theorem dX10_deeper_6 : decode cX10_deeper 6 = .ok (.if_icmp .ge 24, 3) := by decide +kernel
theorem dX10_deeper_9 : decode cX10_deeper 9 = .ok (.aload_n 0, 1) := by decide +kernel
theorem dX10_deeper_10 : decode cX10_deeper 10 = .ok (.dup, 1) := by decide +kernel
theorem dX10_deeper_11 : decode cX10_deeper 11 = .ok (.getfield 205, 3) := by decide +kernel
theorem dX10_deeper_14 : decode cX10_deeper 14 = .ok (.iconst 1, 1) := by decide +kernel
theorem dX10_deeper_15 : decode cX10_deeper 15 = .ok (.iadd, 1) := by decide +kernel
theorem dX10_deeper_16 : decode cX10_deeper 16 = .ok (.putfield 205, 3) := by decide +kernel
theorem dX10_deeper_19 : decode cX10_deeper 19 = .ok (.aload_n 0, 1) := by decide +kernel
theorem dX10_deeper_20 : decode cX10_deeper 20 = .ok (.getfield 68, 3) := by decide +kernel
theorem dX10_deeper_23 : decode cX10_deeper 23 = .ok (.aload_n 0, 1) := by decide +kernel
theorem dX10_deeper_24 : decode cX10_deeper 24 = .ok (.getfield 205, 3) := by decide +kernel
theorem dX10_deeper_27 : decode cX10_deeper 27 = .ok (.iconst 0, 1) := by decide +kernel
theorem dX10_deeper_28 : decode cX10_deeper 28 = .ok (.bastore, 1) := by decide +kernel
theorem dX10_deeper_29 : decode cX10_deeper 29 = .ok (.return_, 1) := by decide +kernel
theorem dX10_deeper_30 : decode cX10_deeper 30 = .ok (.aload_n 0, 1) := by decide +kernel
theorem dX10_deeper_31 : decode cX10_deeper 31 = .ok (.aload_n 0, 1) := by decide +kernel
theorem dX10_deeper_32 : decode cX10_deeper 32 = .ok (.getfield 144, 3) := by decide +kernel
theorem dX10_deeper_35 : decode cX10_deeper 35 = .ok (.iconst 2, 1) := by decide +kernel
theorem dX10_deeper_36 : decode cX10_deeper 36 = .ok (.if_icmp .eq 20, 3) := by decide +kernel
theorem dX10_deeper_39 : decode cX10_deeper 39 = .ok (.aload_n 0, 1) := by decide +kernel
theorem dX10_deeper_40 : decode cX10_deeper 40 = .ok (.getfield 144, 3) := by decide +kernel
theorem dX10_deeper_43 : decode cX10_deeper 43 = .ok (.iconst 1, 1) := by decide +kernel
theorem dX10_deeper_44 : decode cX10_deeper 44 = .ok (.if_icmp .eq 12, 3) := by decide +kernel
theorem dX10_deeper_47 : decode cX10_deeper 47 = .ok (.aload_n 0, 1) := by decide +kernel
theorem dX10_deeper_48 : decode cX10_deeper 48 = .ok (.bipush 40, 2) := by decide +kernel
theorem dX10_deeper_50 : decode cX10_deeper 50 = .ok (.invokevirtual 208, 3) := by decide +kernel
theorem dX10_deeper_53 : decode cX10_deeper 53 = .ok (.ifCond .eq 7, 3) := by decide +kernel
theorem dX10_deeper_56 : decode cX10_deeper 56 = .ok (.iconst 2, 1) := by decide +kernel
theorem dX10_deeper_57 : decode cX10_deeper 57 = .ok (.goto 4, 3) := by decide +kernel
theorem dX10_deeper_60 : decode cX10_deeper 60 = .ok (.iconst 1, 1) := by decide +kernel
theorem dX10_deeper_61 : decode cX10_deeper 61 = .ok (.invokevirtual 177, 3) := by decide +kernel
theorem dX10_deeper_64 : decode cX10_deeper 64 = .ok (.return_, 1) := by decide +kernel
theorem dX10_operand_0 : decode cX10_operand 0 = .ok (.iload_n 1, 1) := by decide +kernel
theorem dX10_operand_1 : decode cX10_operand 1 = .ok (.istore_n 2, 1) := by decide +kernel
theorem dX10_operand_2 : decode cX10_operand 2 = .ok (.iconst 1, 1) := by decide +kernel
theorem dX10_operand_3 : decode cX10_operand 3 = .ok (.istore_n 3, 1) := by decide +kernel
theorem dX10_operand_4 : decode cX10_operand 4 = .ok (.iload_n 3, 1) := by decide +kernel
theorem dX10_operand_5 : decode cX10_operand 5 = .ok (.ifCond .eq 115, 3) := by decide +kernel
theorem dX10_operand_8 : decode cX10_operand 8 = .ok (.aload_n 0, 1) := by decide +kernel
theorem dX10_operand_9 : decode cX10_operand 9 = .ok (.invokevirtual 170, 3) := by decide +kernel
theorem dX10_operand_12 : decode cX10_operand 12 = .ok (.ifCond .eq 108, 3) := by decide +kernel
theorem dX10_operand_15 : decode cX10_operand 15 = .ok (.iconst 0, 1) := by decide +kernel
theorem dX10_operand_16 : decode cX10_operand 16 = .ok (.istore 4, 2) := by decide +kernel
theorem dX10_operand_18 : decode cX10_operand 18 = .ok (.aload_n 0, 1) := by decide +kernel
theorem dX10_operand_19 : decode cX10_operand 19 = .ok (.invokevirtual 170, 3) := by decide +kernel
theorem dX10_operand_22 : decode cX10_operand 22 = .ok (.ifCond .eq 53, 3) := by decide +kernel
theorem dX10_operand_25 : decode cX10_operand 25 = .ok (.iload_n 2, 1) := by decide +kernel
theorem dX10_operand_26 : decode cX10_operand 26 = .ok (.ifCond .eq 49, 3) := by decide +kernel
theorem dX10_operand_29 : decode cX10_operand 29 = .ok (.aload_n 0, 1) := by decide +kernel
theorem dX10_operand_30 : decode cX10_operand 30 = .ok (.invokevirtual 195, 3) := by decide +kernel
theorem dX10_operand_33 : decode cX10_operand 33 = .ok (.bipush 17, 2) := by decide +kernel
theorem dX10_operand_35 : decode cX10_operand 35 = .ok (.if_icmp .ne 40, 3) := by decide +kernel
theorem dX10_operand_38 : decode cX10_operand 38 = .ok (.iload 4, 2) := by decide +kernel
theorem dX10_operand_40 : decode cX10_operand 40 = .ok (.bipush 6, 2) := by decide +kernel
theorem dX10_operand_42 : decode cX10_operand 42 = .ok (.if_icmp .ne 8, 3) := by decide +kernel
theorem dX10_operand_45 : decode cX10_operand 45 = .ok (.aload_n 0, 1) := by decide +kernel
theorem dX10_operand_46 : decode cX10_operand 46 = .ok (.iconst 2, 1) := by decide +kernel
theorem dX10_operand_47 : decode cX10_operand 47 = .ok (.invokevirtual 177, 3) := by decide +kernel
theorem dX10_operand_50 : decode cX10_operand 50 = .ok (.iinc 4 1, 3) := by decide +kernel
theorem dX10_operand_53 : decode cX10_operand 53 = .ok (.aload_n 0, 1) := by decide +kernel
theorem dX10_operand_54 : decode cX10_operand 54 = .ok (.invokevirtual 170, 3) := by decide +kernel
theorem dX10_operand_57 : decode cX10_operand 57 = .ok (.ifCond .ne 6, 3) := by decide +kernel
theorem dX10_operand_60 : decode cX10_operand 60 = .ok (.goto (-42), 3) := by decide +kernel
theorem dX10_operand_63 : decode cX10_operand 63 = .ok (.aload_n 0, 1) := by decide +kernel
theorem dX10_operand_64 : decode cX10_operand 64 = .ok (.iconst 3, 1) := by decide +kernel
theorem dX10_operand_65 : decode cX10_operand 65 = .ok (.invokevirtual 211, 3) := by decide +kernel
theorem dX10_operand_68 : decode cX10_operand 68 = .ok (.aload_n 0, 1) := by decide +kernel
theorem dX10_operand_69 : decode cX10_operand 69 = .ok (.invokevirtual 174, 3) := by decide +kernel
theorem dX10_operand_72 : decode cX10_operand 72 = .ok (.goto (-54), 3) := by decide +kernel
theorem dX10_operand_75 : decode cX10_operand 75 = .ok (.aload_n 0, 1) := by decide +kernel
theorem dX10_operand_76 : decode cX10_operand 76 = .ok (.invokevirtual 170, 3) := by decide +kernel
theorem dX10_operand_79 : decode cX10_operand 79 = .ok (.ifCond .eq 16, 3) := by decide +kernel
theorem dX10_operand_82 : decode cX10_operand 82 = .ok (.aload_n 0, 1) := by decide +kernel
theorem dX10_operand_83 : decode cX10_operand 83 = .ok (.bipush 40, 2) := by decide +kernel
theorem dX10_operand_85 : decode cX10_operand 85 = .ok (.invokevirtual 208, 3) := by decide +kernel
theorem dX10_operand_88 : decode cX10_operand 88 = .ok (.ifCond .eq 7, 3) := by decide +kernel
theorem dX10_operand_91 : decode cX10_operand 91 = .ok (.iconst 1, 1) := by decide +kernel
theorem dX10_operand_92 : decode cX10_operand 92 = .ok (.goto 4, 3) := by decide +kernel
theorem dX10_operand_95 : decode cX10_operand 95 = .ok (.iconst 0, 1) := by decide +kernel
theorem dX10_operand_96 : decode cX10_operand 96 = .ok (.istore_n 3, 1) := by decide +kernel
theorem dX10_operand_97 : decode cX10_operand 97 = .ok (.iload_n 3, 1) := by decide +kernel
theorem dX10_operand_98 : decode cX10_operand 98 = .ok (.ifCond .eq 19, 3) := by decide +kernel
theorem dX10_operand_101 : decode cX10_operand 101 = .ok (.aload_n 0, 1) := by decide +kernel
theorem dX10_operand_102 : decode cX10_operand 102 = .ok (.bipush 14, 2) := by decide +kernel
theorem dX10_operand_104 : decode cX10_operand 104 = .ok (.invokevirtual 211, 3) := by decide +kernel
theorem dX10_operand_107 : decode cX10_operand 107 = .ok (.aload_n 0, 1) := by decide +kernel
theorem dX10_operand_108 : decode cX10_operand 108 = .ok (.invokevirtual 174, 3) := by decide +kernel
theorem dX10_operand_111 : decode cX10_operand 111 = .ok (.aload_n 0, 1) := by decide +kernel
theorem dX10_operand_112 : decode cX10_operand 112 = .ok (.invokevirtual 214, 3) := by decide +kernel
theorem dX10_operand_115 : decode cX10_operand 115 = .ok (.iconst 1, 1) := by decide +kernel
theorem dX10_operand_116 : decode cX10_operand 116 = .ok (.istore_n 2, 1) := by decide +kernel
theorem dX10_operand_117 : decode cX10_operand 117 = .ok (.goto (-113), 3) := by decide +kernel
theorem dX10_operand_120 : decode cX10_operand 120 = .ok (.aload_n 0, 1) := by decide +kernel
theorem dX10_operand_121 : decode cX10_operand 121 = .ok (.invokevirtual 217, 3) := by decide +kernel
theorem dX10_operand_124 : decode cX10_operand 124 = .ok (.return_, 1) := by decide +kernel
theorem dX10_isOpened_0 : decode cX10_isOpened 0 = .ok (.aload_n 0, 1) := by decide +kernel
theorem dX10_isOpened_1 : decode cX10_isOpened 1 = .ok (.getfield 183, 3) := by decide +kernel
theorem dX10_isOpened_4 : decode cX10_isOpened 4 = .ok (.iconst 1, 1) := by decide +kernel
theorem dX10_isOpened_5 : decode cX10_isOpened 5 = .ok (.isub, 1) := by decide +kernel
theorem dX10_isOpened_6 : decode cX10_isOpened 6 = .ok (.istore_n 1, 1) := by decide +kernel
theorem dX10_isOpened_7 : decode cX10_isOpened 7 = .ok (.iload_n 1, 1) := by decide +kernel
theorem dX10_isOpened_8 : decode cX10_isOpened 8 = .ok (.ifCond .lt 21, 3) := by decide +kernel
theorem dX10_isOpened_11 : decode cX10_isOpened 11 = .ok (.aload_n 0, 1) := by decide +kernel
theorem dX10_isOpened_12 : decode cX10_isOpened 12 = .ok (.getfield 65, 3) := by decide +kernel
theorem dX10_isOpened_15 : decode cX10_isOpened 15 = .ok (.iload_n 1, 1) := by decide +kernel
theorem dX10_isOpened_16 : decode cX10_isOpened 16 = .ok (.iaload, 1) := by decide +kernel
theorem dX10_isOpened_17 : decode cX10_isOpened 17 = .ok (.invokestatic 186, 3) := by decide +kernel
theorem dX10_isOpened_20 : decode cX10_isOpened 20 = .ok (.ifCond .ne 9, 3) := by decide +kernel
theorem dX10_isOpened_23 : decode cX10_isOpened 23 = .ok (.iinc 1 (-1), 3) := by decide +kernel
theorem dX10_isOpened_26 : decode cX10_isOpened 26 = .ok (.goto (-19), 3) := by decide +kernel
theorem dX10_isOpened_29 : decode cX10_isOpened 29 = .ok (.iload_n 1, 1) := by decide +kernel
theorem dX10_isOpened_30 : decode cX10_isOpened 30 = .ok (.ifCond .lt 7, 3) := by decide +kernel
theorem dX10_isOpened_33 : decode cX10_isOpened 33 = .ok (.iconst 1, 1) := by decide +kernel
theorem dX10_isOpened_34 : decode cX10_isOpened 34 = .ok (.goto 4, 3) := by decide +kernel
theorem dX10_isOpened_37 : decode cX10_isOpened 37 = .ok (.iconst 0, 1) := by decide +kernel
theorem dX10_isOpened_38 : decode cX10_isOpened 38 = .ok (.ireturn, 1) := by decide +kernel
theorem dX10_closes_0 : decode cX10_closes 0 = .ok (.aload_n 0, 1) := by decide +kernel
theorem dX10_closes_1 : decode cX10_closes 1 = .ok (.iconst 0, 1) := by decide +kernel
theorem dX10_closes_2 : decode cX10_closes 2 = .ok (.invokevirtual 220, 3) := by decide +kernel
theorem dX10_closes_5 : decode cX10_closes 5 = .ok (.aload_n 0, 1) := by decide +kernel
theorem dX10_closes_6 : decode cX10_closes 6 = .ok (.dup, 1) := by decide +kernel
theorem dX10_closes_7 : decode cX10_closes 7 = .ok (.getfield 183, 3) := by decide +kernel
theorem dX10_closes_10 : decode cX10_closes 10 = .ok (.iconst 1, 1) := by decide +kernel
theorem dX10_closes_11 : decode cX10_closes 11 = .ok (.isub, 1) := by decide +kernel
theorem dX10_closes_12 : decode cX10_closes 12 = .ok (.putfield 183, 3) := by decide +kernel
theorem dX10_closes_15 : decode cX10_closes 15 = .ok (.aload_n 0, 1) := by decide +kernel
theorem dX10_closes_16 : decode cX10_closes 16 = .ok (.dup, 1) := by decide +kernel
theorem dX10_closes_17 : decode cX10_closes 17 = .ok (.getfield 205, 3) := by decide +kernel
theorem dX10_closes_20 : decode cX10_closes 20 = .ok (.iconst 1, 1) := by decide +kernel
theorem dX10_closes_21 : decode cX10_closes 21 = .ok (.isub, 1) := by decide +kernel
theorem dX10_closes_22 : decode cX10_closes 22 = .ok (.putfield 205, 3) := by decide +kernel
theorem dX10_closes_25 : decode cX10_closes 25 = .ok (.aload_n 0, 1) := by decide +kernel
theorem dX10_closes_26 : decode cX10_closes 26 = .ok (.invokevirtual 174, 3) := by decide +kernel
theorem dX10_closes_29 : decode cX10_closes 29 = .ok (.return_, 1) := by decide +kernel
theorem dX10_expression_0 : decode cX10_expression 0 = .ok (.aload_n 0, 1) := by decide +kernel
theorem dX10_expression_1 : decode cX10_expression 1 = .ok (.invokevirtual 170, 3) := by decide +kernel
theorem dX10_expression_4 : decode cX10_expression 4 = .ok (.ifCond .ne 4, 3) := by decide +kernel
theorem dX10_expression_7 : decode cX10_expression 7 = .ok (.return_, 1) := by decide +kernel
theorem dX10_expression_8 : decode cX10_expression 8 = .ok (.aload_n 0, 1) := by decide +kernel
theorem dX10_expression_9 : decode cX10_expression 9 = .ok (.iload_n 1, 1) := by decide +kernel
theorem dX10_expression_10 : decode cX10_expression 10 = .ok (.putfield 199, 3) := by decide +kernel
theorem dX10_expression_13 : decode cX10_expression 13 = .ok (.aload_n 0, 1) := by decide +kernel
theorem dX10_expression_14 : decode cX10_expression 14 = .ok (.iload_n 2, 1) := by decide +kernel
theorem dX10_expression_15 : decode cX10_expression 15 = .ok (.putfield 202, 3) := by decide +kernel
theorem dX10_expression_18 : decode cX10_expression 18 = .ok (.aload_n 0, 1) := by decide +kernel
theorem dX10_expression_19 : decode cX10_expression 19 = .ok (.iconst 0, 1) := by decide +kernel
theorem dX10_expression_20 : decode cX10_expression 20 = .ok (.putfield 183, 3) := by decide +kernel
theorem dX10_expression_23 : decode cX10_expression 23 = .ok (.aload_n 0, 1) := by decide +kernel
theorem dX10_expression_24 : decode cX10_expression 24 = .ok (.iconst 0, 1) := by decide +kernel
theorem dX10_expression_25 : decode cX10_expression 25 = .ok (.putfield 205, 3) := by decide +kernel
theorem dX10_expression_28 : decode cX10_expression 28 = .ok (.aload_n 0, 1) := by decide +kernel
theorem dX10_expression_29 : decode cX10_expression 29 = .ok (.invokevirtual 214, 3) := by decide +kernel
theorem dX10_expression_32 : decode cX10_expression 32 = .ok (.aload_n 0, 1) := by decide +kernel
theorem dX10_expression_33 : decode cX10_expression 33 = .ok (.iconst 1, 1) := by decide +kernel
theorem dX10_expression_34 : decode cX10_expression 34 = .ok (.invokevirtual 223, 3) := by decide +kernel
theorem dX10_expression_37 : decode cX10_expression 37 = .ok (.iconst 1, 1) := by decide +kernel
theorem dX10_expression_38 : decode cX10_expression 38 = .ok (.istore_n 3, 1) := by decide +kernel
theorem dX10_expression_39 : decode cX10_expression 39 = .ok (.iload_n 3, 1) := by decide +kernel
theorem dX10_expression_40 : decode cX10_expression 40 = .ok (.ifCond .eq 300, 3) := by decide +kernel
theorem dX10_expression_43 : decode cX10_expression 43 = .ok (.aload_n 0, 1) := by decide +kernel
theorem dX10_expression_44 : decode cX10_expression 44 = .ok (.invokevirtual 170, 3) := by decide +kernel
theorem dX10_expression_47 : decode cX10_expression 47 = .ok (.ifCond .eq 293, 3) := by decide +kernel
theorem dX10_expression_50 : decode cX10_expression 50 = .ok (.aload_n 0, 1) := by decide +kernel
theorem dX10_expression_51 : decode cX10_expression 51 = .ok (.invokevirtual 195, 3) := by decide +kernel
theorem dX10_expression_54 : decode cX10_expression 54 = .ok (.istore 4, 2) := by decide +kernel
theorem dX10_expression_56 : decode cX10_expression 56 = .ok (.iload 4, 2) := by decide +kernel
theorem dX10_expression_58 : decode cX10_expression 58 = .ok (.bipush 15, 2) := by decide +kernel
theorem dX10_expression_60 : decode cX10_expression 60 = .ok (.if_icmp .eq 10, 3) := by decide +kernel
theorem dX10_expression_63 : decode cX10_expression 63 = .ok (.iload 4, 2) := by decide +kernel
theorem dX10_expression_65 : decode cX10_expression 65 = .ok (.bipush 16, 2) := by decide +kernel
theorem dX10_expression_67 : decode cX10_expression 67 = .ok (.if_icmp .ne 57, 3) := by decide +kernel
theorem dX10_expression_70 : decode cX10_expression 70 = .ok (.aload_n 0, 1) := by decide +kernel
theorem dX10_expression_71 : decode cX10_expression 71 = .ok (.iload 4, 2) := by decide +kernel
theorem dX10_expression_73 : decode cX10_expression 73 = .ok (.bipush 15, 2) := by decide +kernel
theorem dX10_expression_75 : decode cX10_expression 75 = .ok (.if_icmp .ne 7, 3) := by decide +kernel
theorem dX10_expression_78 : decode cX10_expression 78 = .ok (.iconst 2, 1) := by decide +kernel
theorem dX10_expression_79 : decode cX10_expression 79 = .ok (.goto 4, 3) := by decide +kernel
theorem dX10_expression_82 : decode cX10_expression 82 = .ok (.iconst 1, 1) := by decide +kernel
theorem dX10_expression_83 : decode cX10_expression 83 = .ok (.invokevirtual 220, 3) := by decide +kernel
theorem dX10_expression_86 : decode cX10_expression 86 = .ok (.aload_n 0, 1) := by decide +kernel
theorem dX10_expression_87 : decode cX10_expression 87 = .ok (.iload 4, 2) := by decide +kernel
theorem dX10_expression_89 : decode cX10_expression 89 = .ok (.bipush 15, 2) := by decide +kernel
theorem dX10_expression_91 : decode cX10_expression 91 = .ok (.if_icmp .ne 7, 3) := by decide +kernel
theorem dX10_expression_94 : decode cX10_expression 94 = .ok (.iconst 4, 1) := by decide +kernel
theorem dX10_expression_95 : decode cX10_expression 95 = .ok (.goto 4, 3) := by decide +kernel
theorem dX10_expression_98 : decode cX10_expression 98 = .ok (.iconst 5, 1) := by decide +kernel
theorem dX10_expression_99 : decode cX10_expression 99 = .ok (.invokevirtual 211, 3) := by decide +kernel
theorem dX10_expression_102 : decode cX10_expression 102 = .ok (.aload_n 0, 1) := by decide +kernel
theorem dX10_expression_103 : decode cX10_expression 103 = .ok (.getfield 68, 3) := by decide +kernel
theorem dX10_expression_106 : decode cX10_expression 106 = .ok (.aload_n 0, 1) := by decide +kernel
theorem dX10_expression_107 : decode cX10_expression 107 = .ok (.getfield 205, 3) := by decide +kernel
theorem dX10_expression_110 : decode cX10_expression 110 = .ok (.iconst 0, 1) := by decide +kernel
theorem dX10_expression_111 : decode cX10_expression 111 = .ok (.bastore, 1) := by decide +kernel
theorem dX10_expression_112 : decode cX10_expression 112 = .ok (.aload_n 0, 1) := by decide +kernel
theorem dX10_expression_113 : decode cX10_expression 113 = .ok (.invokevirtual 174, 3) := by decide +kernel
theorem dX10_expression_116 : decode cX10_expression 116 = .ok (.aload_n 0, 1) := by decide +kernel
theorem dX10_expression_117 : decode cX10_expression 117 = .ok (.iconst 1, 1) := by decide +kernel
theorem dX10_expression_118 : decode cX10_expression 118 = .ok (.invokevirtual 223, 3) := by decide +kernel
theorem dX10_expression_121 : decode cX10_expression 121 = .ok (.goto 216, 3) := by decide +kernel
theorem dX10_expression_124 : decode cX10_expression 124 = .ok (.aload_n 0, 1) := by decide +kernel
theorem dX10_expression_125 : decode cX10_expression 125 = .ok (.bipush 60, 2) := by decide +kernel
theorem dX10_expression_127 : decode cX10_expression 127 = .ok (.invokevirtual 208, 3) := by decide +kernel
theorem dX10_expression_130 : decode cX10_expression 130 = .ok (.ifCond .ne 12, 3) := by decide +kernel
theorem dX10_expression_133 : decode cX10_expression 133 = .ok (.aload_n 0, 1) := by decide +kernel
theorem dX10_expression_134 : decode cX10_expression 134 = .ok (.bipush 61, 2) := by decide +kernel
theorem dX10_expression_136 : decode cX10_expression 136 = .ok (.invokevirtual 208, 3) := by decide +kernel
theorem dX10_expression_139 : decode cX10_expression 139 = .ok (.ifCond .eq 62, 3) := by decide +kernel
theorem dX10_expression_142 : decode cX10_expression 142 = .ok (.aload_n 0, 1) := by decide +kernel
theorem dX10_expression_143 : decode cX10_expression 143 = .ok (.getfield 68, 3) := by decide +kernel
theorem dX10_expression_146 : decode cX10_expression 146 = .ok (.aload_n 0, 1) := by decide +kernel
theorem dX10_expression_147 : decode cX10_expression 147 = .ok (.getfield 205, 3) := by decide +kernel
theorem dX10_expression_150 : decode cX10_expression 150 = .ok (.baload, 1) := by decide +kernel
theorem dX10_expression_151 : decode cX10_expression 151 = .ok (.ifCond .ne 50, 3) := by decide +kernel
theorem dX10_expression_154 : decode cX10_expression 154 = .ok (.aload_n 0, 1) := by decide +kernel
theorem dX10_expression_155 : decode cX10_expression 155 = .ok (.iconst 4, 1) := by decide +kernel
theorem dX10_expression_156 : decode cX10_expression 156 = .ok (.invokevirtual 220, 3) := by decide +kernel
theorem dX10_expression_159 : decode cX10_expression 159 = .ok (.aload_n 0, 1) := by decide +kernel
theorem dX10_expression_160 : decode cX10_expression 160 = .ok (.aload_n 0, 1) := by decide +kernel
theorem dX10_expression_161 : decode cX10_expression 161 = .ok (.bipush 60, 2) := by decide +kernel
theorem dX10_expression_163 : decode cX10_expression 163 = .ok (.invokevirtual 208, 3) := by decide +kernel
theorem dX10_expression_166 : decode cX10_expression 166 = .ok (.ifCond .eq 8, 3) := by decide +kernel
theorem dX10_expression_169 : decode cX10_expression 169 = .ok (.bipush 6, 2) := by decide +kernel
theorem dX10_expression_171 : decode cX10_expression 171 = .ok (.goto 5, 3) := by decide +kernel
theorem dX10_expression_174 : decode cX10_expression 174 = .ok (.bipush 7, 2) := by decide +kernel
theorem dX10_expression_176 : decode cX10_expression 176 = .ok (.invokevirtual 211, 3) := by decide +kernel
theorem dX10_expression_179 : decode cX10_expression 179 = .ok (.aload_n 0, 1) := by decide +kernel
theorem dX10_expression_180 : decode cX10_expression 180 = .ok (.getfield 68, 3) := by decide +kernel
theorem dX10_expression_183 : decode cX10_expression 183 = .ok (.aload_n 0, 1) := by decide +kernel
theorem dX10_expression_184 : decode cX10_expression 184 = .ok (.getfield 205, 3) := by decide +kernel
theorem dX10_expression_187 : decode cX10_expression 187 = .ok (.iconst 1, 1) := by decide +kernel
theorem dX10_expression_188 : decode cX10_expression 188 = .ok (.bastore, 1) := by decide +kernel
theorem dX10_expression_189 : decode cX10_expression 189 = .ok (.aload_n 0, 1) := by decide +kernel
theorem dX10_expression_190 : decode cX10_expression 190 = .ok (.invokevirtual 174, 3) := by decide +kernel
theorem dX10_expression_193 : decode cX10_expression 193 = .ok (.aload_n 0, 1) := by decide +kernel
theorem dX10_expression_194 : decode cX10_expression 194 = .ok (.iconst 0, 1) := by decide +kernel
theorem dX10_expression_195 : decode cX10_expression 195 = .ok (.invokevirtual 223, 3) := by decide +kernel
theorem dX10_expression_198 : decode cX10_expression 198 = .ok (.goto 139, 3) := by decide +kernel
theorem dX10_expression_201 : decode cX10_expression 201 = .ok (.aload_n 0, 1) := by decide +kernel
theorem dX10_expression_202 : decode cX10_expression 202 = .ok (.bipush 43, 2) := by decide +kernel
theorem dX10_expression_204 : decode cX10_expression 204 = .ok (.invokevirtual 208, 3) := by decide +kernel
theorem dX10_expression_207 : decode cX10_expression 207 = .ok (.ifCond .ne 12, 3) := by decide +kernel
theorem dX10_expression_210 : decode cX10_expression 210 = .ok (.aload_n 0, 1) := by decide +kernel
theorem dX10_expression_211 : decode cX10_expression 211 = .ok (.bipush 45, 2) := by decide +kernel
theorem dX10_expression_213 : decode cX10_expression 213 = .ok (.invokevirtual 208, 3) := by decide +kernel
theorem dX10_expression_216 : decode cX10_expression 216 = .ok (.ifCond .eq 40, 3) := by decide +kernel
theorem dX10_expression_219 : decode cX10_expression 219 = .ok (.aload_n 0, 1) := by decide +kernel
theorem dX10_expression_220 : decode cX10_expression 220 = .ok (.iconst 5, 1) := by decide +kernel
theorem dX10_expression_221 : decode cX10_expression 221 = .ok (.invokevirtual 220, 3) := by decide +kernel
theorem dX10_expression_224 : decode cX10_expression 224 = .ok (.aload_n 0, 1) := by decide +kernel
theorem dX10_expression_225 : decode cX10_expression 225 = .ok (.aload_n 0, 1) := by decide +kernel
theorem dX10_expression_226 : decode cX10_expression 226 = .ok (.bipush 43, 2) := by decide +kernel
theorem dX10_expression_228 : decode cX10_expression 228 = .ok (.invokevirtual 208, 3) := by decide +kernel
theorem dX10_expression_231 : decode cX10_expression 231 = .ok (.ifCond .eq 8, 3) := by decide +kernel
theorem dX10_expression_234 : decode cX10_expression 234 = .ok (.bipush 8, 2) := by decide +kernel
theorem dX10_expression_236 : decode cX10_expression 236 = .ok (.goto 5, 3) := by decide +kernel
theorem dX10_expression_239 : decode cX10_expression 239 = .ok (.bipush 9, 2) := by decide +kernel
theorem dX10_expression_241 : decode cX10_expression 241 = .ok (.invokevirtual 211, 3) := by decide +kernel
theorem dX10_expression_244 : decode cX10_expression 244 = .ok (.aload_n 0, 1) := by decide +kernel
theorem dX10_expression_245 : decode cX10_expression 245 = .ok (.invokevirtual 174, 3) := by decide +kernel
theorem dX10_expression_248 : decode cX10_expression 248 = .ok (.aload_n 0, 1) := by decide +kernel
theorem dX10_expression_249 : decode cX10_expression 249 = .ok (.iconst 0, 1) := by decide +kernel
theorem dX10_expression_250 : decode cX10_expression 250 = .ok (.invokevirtual 223, 3) := by decide +kernel
theorem dX10_expression_253 : decode cX10_expression 253 = .ok (.goto 84, 3) := by decide +kernel
theorem dX10_expression_256 : decode cX10_expression 256 = .ok (.aload_n 0, 1) := by decide +kernel
theorem dX10_expression_257 : decode cX10_expression 257 = .ok (.bipush 42, 2) := by decide +kernel
theorem dX10_expression_259 : decode cX10_expression 259 = .ok (.invokevirtual 208, 3) := by decide +kernel
theorem dX10_expression_262 : decode cX10_expression 262 = .ok (.ifCond .ne 12, 3) := by decide +kernel
theorem dX10_expression_265 : decode cX10_expression 265 = .ok (.aload_n 0, 1) := by decide +kernel
theorem dX10_expression_266 : decode cX10_expression 266 = .ok (.bipush 47, 2) := by decide +kernel
theorem dX10_expression_268 : decode cX10_expression 268 = .ok (.invokevirtual 208, 3) := by decide +kernel
theorem dX10_expression_271 : decode cX10_expression 271 = .ok (.ifCond .eq 41, 3) := by decide +kernel
theorem dX10_expression_274 : decode cX10_expression 274 = .ok (.aload_n 0, 1) := by decide +kernel
theorem dX10_expression_275 : decode cX10_expression 275 = .ok (.bipush 6, 2) := by decide +kernel
theorem dX10_expression_277 : decode cX10_expression 277 = .ok (.invokevirtual 220, 3) := by decide +kernel
theorem dX10_expression_280 : decode cX10_expression 280 = .ok (.aload_n 0, 1) := by decide +kernel
theorem dX10_expression_281 : decode cX10_expression 281 = .ok (.aload_n 0, 1) := by decide +kernel
theorem dX10_expression_282 : decode cX10_expression 282 = .ok (.bipush 42, 2) := by decide +kernel
theorem dX10_expression_284 : decode cX10_expression 284 = .ok (.invokevirtual 208, 3) := by decide +kernel
theorem dX10_expression_287 : decode cX10_expression 287 = .ok (.ifCond .eq 8, 3) := by decide +kernel
theorem dX10_expression_290 : decode cX10_expression 290 = .ok (.bipush 10, 2) := by decide +kernel
theorem dX10_expression_292 : decode cX10_expression 292 = .ok (.goto 5, 3) := by decide +kernel
theorem dX10_expression_295 : decode cX10_expression 295 = .ok (.bipush 11, 2) := by decide +kernel
theorem dX10_expression_297 : decode cX10_expression 297 = .ok (.invokevirtual 211, 3) := by decide +kernel
theorem dX10_expression_300 : decode cX10_expression 300 = .ok (.aload_n 0, 1) := by decide +kernel
theorem dX10_expression_301 : decode cX10_expression 301 = .ok (.invokevirtual 174, 3) := by decide +kernel
theorem dX10_expression_304 : decode cX10_expression 304 = .ok (.aload_n 0, 1) := by decide +kernel
theorem dX10_expression_305 : decode cX10_expression 305 = .ok (.iconst 0, 1) := by decide +kernel
theorem dX10_expression_306 : decode cX10_expression 306 = .ok (.invokevirtual 223, 3) := by decide +kernel
theorem dX10_expression_309 : decode cX10_expression 309 = .ok (.goto 28, 3) := by decide +kernel
theorem dX10_expression_312 : decode cX10_expression 312 = .ok (.aload_n 0, 1) := by decide +kernel
theorem dX10_expression_313 : decode cX10_expression 313 = .ok (.bipush 41, 2) := by decide +kernel
theorem dX10_expression_315 : decode cX10_expression 315 = .ok (.invokevirtual 208, 3) := by decide +kernel
theorem dX10_expression_318 : decode cX10_expression 318 = .ok (.ifCond .eq 17, 3) := by decide +kernel
theorem dX10_expression_321 : decode cX10_expression 321 = .ok (.aload_n 0, 1) := by decide +kernel
theorem dX10_expression_322 : decode cX10_expression 322 = .ok (.invokevirtual 227, 3) := by decide +kernel
theorem dX10_expression_325 : decode cX10_expression 325 = .ok (.ifCond .eq 10, 3) := by decide +kernel
theorem dX10_expression_328 : decode cX10_expression 328 = .ok (.aload_n 0, 1) := by decide +kernel
theorem dX10_expression_329 : decode cX10_expression 329 = .ok (.invokevirtual 230, 3) := by decide +kernel
theorem dX10_expression_332 : decode cX10_expression 332 = .ok (.goto 5, 3) := by decide +kernel
theorem dX10_expression_335 : decode cX10_expression 335 = .ok (.iconst 0, 1) := by decide +kernel
theorem dX10_expression_336 : decode cX10_expression 336 = .ok (.istore_n 3, 1) := by decide +kernel
theorem dX10_expression_337 : decode cX10_expression 337 = .ok (.goto (-298), 3) := by decide +kernel
theorem dX10_expression_340 : decode cX10_expression 340 = .ok (.aload_n 0, 1) := by decide +kernel
theorem dX10_expression_341 : decode cX10_expression 341 = .ok (.invokevirtual 170, 3) := by decide +kernel
theorem dX10_expression_344 : decode cX10_expression 344 = .ok (.ifCond .eq 16, 3) := by decide +kernel
theorem dX10_expression_347 : decode cX10_expression 347 = .ok (.aload_n 0, 1) := by decide +kernel
theorem dX10_expression_348 : decode cX10_expression 348 = .ok (.getfield 205, 3) := by decide +kernel
theorem dX10_expression_351 : decode cX10_expression 351 = .ok (.iconst 1, 1) := by decide +kernel
theorem dX10_expression_352 : decode cX10_expression 352 = .ok (.if_icmp .le 8, 3) := by decide +kernel
theorem dX10_expression_355 : decode cX10_expression 355 = .ok (.aload_n 0, 1) := by decide +kernel
theorem dX10_expression_356 : decode cX10_expression 356 = .ok (.iconst 1, 1) := by decide +kernel
theorem dX10_expression_357 : decode cX10_expression 357 = .ok (.invokevirtual 177, 3) := by decide +kernel
theorem dX10_expression_360 : decode cX10_expression 360 = .ok (.aload_n 0, 1) := by decide +kernel
theorem dX10_expression_361 : decode cX10_expression 361 = .ok (.iconst 0, 1) := by decide +kernel
theorem dX10_expression_362 : decode cX10_expression 362 = .ok (.invokevirtual 220, 3) := by decide +kernel
theorem dX10_expression_365 : decode cX10_expression 365 = .ok (.aload_n 0, 1) := by decide +kernel
theorem dX10_expression_366 : decode cX10_expression 366 = .ok (.iconst 0, 1) := by decide +kernel
theorem dX10_expression_367 : decode cX10_expression 367 = .ok (.invokevirtual 192, 3) := by decide +kernel
theorem dX10_expression_370 : decode cX10_expression 370 = .ok (.return_, 1) := by decide +kernel
theorem dX10_begins_0 : decode cX10_begins 0 = .ok (.iload_n 1, 1) := by decide +kernel
theorem dX10_begins_1 : decode cX10_begins 1 = .ok (.ifCond .eq 8, 3) := by decide +kernel
theorem dX10_begins_4 : decode cX10_begins 4 = .ok (.aload_n 0, 1) := by decide +kernel
theorem dX10_begins_5 : decode cX10_begins 5 = .ok (.iconst 2, 1) := by decide +kernel
theorem dX10_begins_6 : decode cX10_begins 6 = .ok (.invokevirtual 177, 3) := by decide +kernel
theorem dX10_begins_9 : decode cX10_begins 9 = .ok (.iload_n 2, 1) := by decide +kernel
theorem dX10_begins_10 : decode cX10_begins 10 = .ok (.ifCond .eq 8, 3) := by decide +kernel
theorem dX10_begins_13 : decode cX10_begins 13 = .ok (.aload_n 0, 1) := by decide +kernel
theorem dX10_begins_14 : decode cX10_begins 14 = .ok (.iconst 5, 1) := by decide +kernel
theorem dX10_begins_15 : decode cX10_begins 15 = .ok (.invokevirtual 177, 3) := by decide +kernel
theorem dX10_begins_18 : decode cX10_begins 18 = .ok (.aload_n 0, 1) := by decide +kernel
theorem dX10_begins_19 : decode cX10_begins 19 = .ok (.invokevirtual 170, 3) := by decide +kernel
theorem dX10_begins_22 : decode cX10_begins 22 = .ok (.ifCond .ne 5, 3) := by decide +kernel
theorem dX10_begins_25 : decode cX10_begins 25 = .ok (.iconst 0, 1) := by decide +kernel
theorem dX10_begins_26 : decode cX10_begins 26 = .ok (.ireturn, 1) := by decide +kernel
theorem dX10_begins_27 : decode cX10_begins 27 = .ok (.aload_n 0, 1) := by decide +kernel
theorem dX10_begins_28 : decode cX10_begins 28 = .ok (.invokevirtual 174, 3) := by decide +kernel
theorem dX10_begins_31 : decode cX10_begins 31 = .ok (.iconst 1, 1) := by decide +kernel
theorem dX10_begins_32 : decode cX10_begins 32 = .ok (.ireturn, 1) := by decide +kernel
theorem dX10_readsBox_0 : decode cX10_readsBox 0 = .ok (.aload_n 0, 1) := by decide +kernel
theorem dX10_readsBox_1 : decode cX10_readsBox 1 = .ok (.getfield 44, 3) := by decide +kernel
theorem dX10_readsBox_4 : decode cX10_readsBox 4 = .ok (.aload_n 0, 1) := by decide +kernel
theorem dX10_readsBox_5 : decode cX10_readsBox 5 = .ok (.getfield 233, 3) := by decide +kernel
theorem dX10_readsBox_8 : decode cX10_readsBox 8 = .ok (.aload_n 0, 1) := by decide +kernel
theorem dX10_readsBox_9 : decode cX10_readsBox 9 = .ok (.iconst 0, 1) := by decide +kernel
theorem dX10_readsBox_10 : decode cX10_readsBox 10 = .ok (.bipush 30, 2) := by decide +kernel
theorem dX10_readsBox_12 : decode cX10_readsBox 12 = .ok (.invokevirtual 236, 3) := by decide +kernel
theorem dX10_readsBox_15 : decode cX10_readsBox 15 = .ok (.iastore, 1) := by decide +kernel
theorem dX10_readsBox_16 : decode cX10_readsBox 16 = .ok (.aload_n 0, 1) := by decide +kernel
theorem dX10_readsBox_17 : decode cX10_readsBox 17 = .ok (.getfield 59, 3) := by decide +kernel
theorem dX10_readsBox_20 : decode cX10_readsBox 20 = .ok (.iconst 2, 1) := by decide +kernel
theorem dX10_readsBox_21 : decode cX10_readsBox 21 = .ok (.aload_n 0, 1) := by decide +kernel
theorem dX10_readsBox_22 : decode cX10_readsBox 22 = .ok (.getfield 233, 3) := by decide +kernel
theorem dX10_readsBox_25 : decode cX10_readsBox 25 = .ok (.iadd, 1) := by decide +kernel
theorem dX10_readsBox_26 : decode cX10_readsBox 26 = .ok (.aload_n 0, 1) := by decide +kernel
theorem dX10_readsBox_27 : decode cX10_readsBox 27 = .ok (.iconst 0, 1) := by decide +kernel
theorem dX10_readsBox_28 : decode cX10_readsBox 28 = .ok (.bipush 99, 2) := by decide +kernel
theorem dX10_readsBox_30 : decode cX10_readsBox 30 = .ok (.invokevirtual 236, 3) := by decide +kernel
theorem dX10_readsBox_33 : decode cX10_readsBox 33 = .ok (.iastore, 1) := by decide +kernel
theorem dX10_readsBox_34 : decode cX10_readsBox 34 = .ok (.aload_n 0, 1) := by decide +kernel
theorem dX10_readsBox_35 : decode cX10_readsBox 35 = .ok (.invokevirtual 170, 3) := by decide +kernel
theorem dX10_readsBox_38 : decode cX10_readsBox 38 = .ok (.ifCond .eq 13, 3) := by decide +kernel
theorem dX10_readsBox_41 : decode cX10_readsBox 41 = .ok (.aload_n 0, 1) := by decide +kernel
theorem dX10_readsBox_42 : decode cX10_readsBox 42 = .ok (.dup, 1) := by decide +kernel
theorem dX10_readsBox_43 : decode cX10_readsBox 43 = .ok (.getfield 233, 3) := by decide +kernel
theorem dX10_readsBox_46 : decode cX10_readsBox 46 = .ok (.iconst 1, 1) := by decide +kernel
theorem dX10_readsBox_47 : decode cX10_readsBox 47 = .ok (.iadd, 1) := by decide +kernel
theorem dX10_readsBox_48 : decode cX10_readsBox 48 = .ok (.putfield 233, 3) := by decide +kernel
theorem dX10_readsBox_51 : decode cX10_readsBox 51 = .ok (.return_, 1) := by decide +kernel
theorem dX10_readsPerson_0 : decode cX10_readsPerson 0 = .ok (.aload_n 0, 1) := by decide +kernel
theorem dX10_readsPerson_1 : decode cX10_readsPerson 1 = .ok (.getfield 240, 3) := by decide +kernel
theorem dX10_readsPerson_4 : decode cX10_readsPerson 4 = .ok (.istore_n 1, 1) := by decide +kernel
theorem dX10_readsPerson_5 : decode cX10_readsPerson 5 = .ok (.aload_n 0, 1) := by decide +kernel
theorem dX10_readsPerson_6 : decode cX10_readsPerson 6 = .ok (.getfield 47, 3) := by decide +kernel
theorem dX10_readsPerson_9 : decode cX10_readsPerson 9 = .ok (.iload_n 1, 1) := by decide +kernel
theorem dX10_readsPerson_10 : decode cX10_readsPerson 10 = .ok (.aload_n 0, 1) := by decide +kernel
theorem dX10_readsPerson_11 : decode cX10_readsPerson 11 = .ok (.iconst 0, 1) := by decide +kernel
theorem dX10_readsPerson_12 : decode cX10_readsPerson 12 = .ok (.bipush 30, 2) := by decide +kernel
theorem dX10_readsPerson_14 : decode cX10_readsPerson 14 = .ok (.invokevirtual 236, 3) := by decide +kernel
theorem dX10_readsPerson_17 : decode cX10_readsPerson 17 = .ok (.iastore, 1) := by decide +kernel
theorem dX10_readsPerson_18 : decode cX10_readsPerson 18 = .ok (.aload_n 0, 1) := by decide +kernel
theorem dX10_readsPerson_19 : decode cX10_readsPerson 19 = .ok (.getfield 50, 3) := by decide +kernel
theorem dX10_readsPerson_22 : decode cX10_readsPerson 22 = .ok (.iload_n 1, 1) := by decide +kernel
theorem dX10_readsPerson_23 : decode cX10_readsPerson 23 = .ok (.aload_n 0, 1) := by decide +kernel
theorem dX10_readsPerson_24 : decode cX10_readsPerson 24 = .ok (.iconst 0, 1) := by decide +kernel
theorem dX10_readsPerson_25 : decode cX10_readsPerson 25 = .ok (.bipush 9, 2) := by decide +kernel
theorem dX10_readsPerson_27 : decode cX10_readsPerson 27 = .ok (.invokevirtual 236, 3) := by decide +kernel
theorem dX10_readsPerson_30 : decode cX10_readsPerson 30 = .ok (.iastore, 1) := by decide +kernel
theorem dX10_readsPerson_31 : decode cX10_readsPerson 31 = .ok (.aload_n 0, 1) := by decide +kernel
theorem dX10_readsPerson_32 : decode cX10_readsPerson 32 = .ok (.getfield 59, 3) := by decide +kernel
theorem dX10_readsPerson_35 : decode cX10_readsPerson 35 = .ok (.bipush 72, 2) := by decide +kernel
theorem dX10_readsPerson_37 : decode cX10_readsPerson 37 = .ok (.iload_n 1, 1) := by decide +kernel
theorem dX10_readsPerson_38 : decode cX10_readsPerson 38 = .ok (.iadd, 1) := by decide +kernel
theorem dX10_readsPerson_39 : decode cX10_readsPerson 39 = .ok (.iconst (-1), 1) := by decide +kernel
theorem dX10_readsPerson_40 : decode cX10_readsPerson 40 = .ok (.iastore, 1) := by decide +kernel
theorem dX10_readsPerson_41 : decode cX10_readsPerson 41 = .ok (.aload_n 0, 1) := by decide +kernel
theorem dX10_readsPerson_42 : decode cX10_readsPerson 42 = .ok (.invokevirtual 170, 3) := by decide +kernel
theorem dX10_readsPerson_45 : decode cX10_readsPerson 45 = .ok (.ifCond .eq 61, 3) := by decide +kernel
theorem dX10_readsPerson_48 : decode cX10_readsPerson 48 = .ok (.aload_n 0, 1) := by decide +kernel
theorem dX10_readsPerson_49 : decode cX10_readsPerson 49 = .ok (.invokevirtual 195, 3) := by decide +kernel
theorem dX10_readsPerson_52 : decode cX10_readsPerson 52 = .ok (.bipush 11, 2) := by decide +kernel
theorem dX10_readsPerson_54 : decode cX10_readsPerson 54 = .ok (.if_icmp .ne 52, 3) := by decide +kernel
theorem dX10_readsPerson_57 : decode cX10_readsPerson 57 = .ok (.aload_n 0, 1) := by decide +kernel
theorem dX10_readsPerson_58 : decode cX10_readsPerson 58 = .ok (.invokevirtual 174, 3) := by decide +kernel
theorem dX10_readsPerson_61 : decode cX10_readsPerson 61 = .ok (.aload_n 0, 1) := by decide +kernel
theorem dX10_readsPerson_62 : decode cX10_readsPerson 62 = .ok (.getfield 144, 3) := by decide +kernel
theorem dX10_readsPerson_65 : decode cX10_readsPerson 65 = .ok (.iconst 2, 1) := by decide +kernel
theorem dX10_readsPerson_66 : decode cX10_readsPerson 66 = .ok (.if_icmp .ne 24, 3) := by decide +kernel
theorem dX10_readsPerson_69 : decode cX10_readsPerson 69 = .ok (.aload_n 0, 1) := by decide +kernel
theorem dX10_readsPerson_70 : decode cX10_readsPerson 70 = .ok (.getfield 154, 3) := by decide +kernel
theorem dX10_readsPerson_73 : decode cX10_readsPerson 73 = .ok (.iconst 4, 1) := by decide +kernel
theorem dX10_readsPerson_74 : decode cX10_readsPerson 74 = .ok (.if_icmp .gt 16, 3) := by decide +kernel
theorem dX10_readsPerson_77 : decode cX10_readsPerson 77 = .ok (.aload_n 0, 1) := by decide +kernel
theorem dX10_readsPerson_78 : decode cX10_readsPerson 78 = .ok (.getfield 138, 3) := by decide +kernel
theorem dX10_readsPerson_81 : decode cX10_readsPerson 81 = .ok (.iload_n 1, 1) := by decide +kernel
theorem dX10_readsPerson_82 : decode cX10_readsPerson 82 = .ok (.if_icmp .ne 8, 3) := by decide +kernel
theorem dX10_readsPerson_85 : decode cX10_readsPerson 85 = .ok (.aload_n 0, 1) := by decide +kernel
theorem dX10_readsPerson_86 : decode cX10_readsPerson 86 = .ok (.iconst 4, 1) := by decide +kernel
theorem dX10_readsPerson_87 : decode cX10_readsPerson 87 = .ok (.invokevirtual 177, 3) := by decide +kernel
theorem dX10_readsPerson_90 : decode cX10_readsPerson 90 = .ok (.aload_n 0, 1) := by decide +kernel
theorem dX10_readsPerson_91 : decode cX10_readsPerson 91 = .ok (.getfield 59, 3) := by decide +kernel
theorem dX10_readsPerson_94 : decode cX10_readsPerson 94 = .ok (.bipush 72, 2) := by decide +kernel
theorem dX10_readsPerson_96 : decode cX10_readsPerson 96 = .ok (.iload_n 1, 1) := by decide +kernel
theorem dX10_readsPerson_97 : decode cX10_readsPerson 97 = .ok (.iadd, 1) := by decide +kernel
theorem dX10_readsPerson_98 : decode cX10_readsPerson 98 = .ok (.aload_n 0, 1) := by decide +kernel
theorem dX10_readsPerson_99 : decode cX10_readsPerson 99 = .ok (.iconst 0, 1) := by decide +kernel
theorem dX10_readsPerson_100 : decode cX10_readsPerson 100 = .ok (.bipush 7, 2) := by decide +kernel
theorem dX10_readsPerson_102 : decode cX10_readsPerson 102 = .ok (.invokevirtual 236, 3) := by decide +kernel
theorem dX10_readsPerson_105 : decode cX10_readsPerson 105 = .ok (.iastore, 1) := by decide +kernel
theorem dX10_readsPerson_106 : decode cX10_readsPerson 106 = .ok (.aload_n 0, 1) := by decide +kernel
theorem dX10_readsPerson_107 : decode cX10_readsPerson 107 = .ok (.invokevirtual 170, 3) := by decide +kernel
theorem dX10_readsPerson_110 : decode cX10_readsPerson 110 = .ok (.ifCond .eq 13, 3) := by decide +kernel
theorem dX10_readsPerson_113 : decode cX10_readsPerson 113 = .ok (.aload_n 0, 1) := by decide +kernel
theorem dX10_readsPerson_114 : decode cX10_readsPerson 114 = .ok (.dup, 1) := by decide +kernel
theorem dX10_readsPerson_115 : decode cX10_readsPerson 115 = .ok (.getfield 240, 3) := by decide +kernel
theorem dX10_readsPerson_118 : decode cX10_readsPerson 118 = .ok (.iconst 1, 1) := by decide +kernel
theorem dX10_readsPerson_119 : decode cX10_readsPerson 119 = .ok (.iadd, 1) := by decide +kernel
theorem dX10_readsPerson_120 : decode cX10_readsPerson 120 = .ok (.putfield 240, 3) := by decide +kernel
theorem dX10_readsPerson_123 : decode cX10_readsPerson 123 = .ok (.return_, 1) := by decide +kernel
theorem dX10_readsRound_0 : decode cX10_readsRound 0 = .ok (.iconst 1, 1) := by decide +kernel
theorem dX10_readsRound_1 : decode cX10_readsRound 1 = .ok (.istore_n 1, 1) := by decide +kernel
theorem dX10_readsRound_2 : decode cX10_readsRound 2 = .ok (.iload_n 1, 1) := by decide +kernel
theorem dX10_readsRound_3 : decode cX10_readsRound 3 = .ok (.ifCond .eq 119, 3) := by decide +kernel
theorem dX10_readsRound_6 : decode cX10_readsRound 6 = .ok (.aload_n 0, 1) := by decide +kernel
theorem dX10_readsRound_7 : decode cX10_readsRound 7 = .ok (.invokevirtual 170, 3) := by decide +kernel
theorem dX10_readsRound_10 : decode cX10_readsRound 10 = .ok (.ifCond .eq 112, 3) := by decide +kernel
theorem dX10_readsRound_13 : decode cX10_readsRound 13 = .ok (.aload_n 0, 1) := by decide +kernel
theorem dX10_readsRound_14 : decode cX10_readsRound 14 = .ok (.getfield 144, 3) := by decide +kernel
theorem dX10_readsRound_17 : decode cX10_readsRound 17 = .ok (.iconst 2, 1) := by decide +kernel
theorem dX10_readsRound_18 : decode cX10_readsRound 18 = .ok (.if_icmp .eq 11, 3) := by decide +kernel
theorem dX10_readsRound_21 : decode cX10_readsRound 21 = .ok (.aload_n 0, 1) := by decide +kernel
theorem dX10_readsRound_22 : decode cX10_readsRound 22 = .ok (.iconst 1, 1) := by decide +kernel
theorem dX10_readsRound_23 : decode cX10_readsRound 23 = .ok (.invokevirtual 177, 3) := by decide +kernel
theorem dX10_readsRound_26 : decode cX10_readsRound 26 = .ok (.goto 44, 3) := by decide +kernel
theorem dX10_readsRound_29 : decode cX10_readsRound 29 = .ok (.aload_n 0, 1) := by decide +kernel
theorem dX10_readsRound_30 : decode cX10_readsRound 30 = .ok (.getfield 243, 3) := by decide +kernel
theorem dX10_readsRound_33 : decode cX10_readsRound 33 = .ok (.bipush 8, 2) := by decide +kernel
theorem dX10_readsRound_35 : decode cX10_readsRound 35 = .ok (.if_icmp .eq 11, 3) := by decide +kernel
theorem dX10_readsRound_38 : decode cX10_readsRound 38 = .ok (.aload_n 0, 1) := by decide +kernel
theorem dX10_readsRound_39 : decode cX10_readsRound 39 = .ok (.getfield 154, 3) := by decide +kernel
theorem dX10_readsRound_42 : decode cX10_readsRound 42 = .ok (.iconst 4, 1) := by decide +kernel
theorem dX10_readsRound_43 : decode cX10_readsRound 43 = .ok (.if_icmp .le 11, 3) := by decide +kernel
theorem dX10_readsRound_46 : decode cX10_readsRound 46 = .ok (.aload_n 0, 1) := by decide +kernel
theorem dX10_readsRound_47 : decode cX10_readsRound 47 = .ok (.iconst 2, 1) := by decide +kernel
theorem dX10_readsRound_48 : decode cX10_readsRound 48 = .ok (.invokevirtual 177, 3) := by decide +kernel
theorem dX10_readsRound_51 : decode cX10_readsRound 51 = .ok (.goto 19, 3) := by decide +kernel
theorem dX10_readsRound_54 : decode cX10_readsRound 54 = .ok (.aload_n 0, 1) := by decide +kernel
theorem dX10_readsRound_55 : decode cX10_readsRound 55 = .ok (.getfield 138, 3) := by decide +kernel
theorem dX10_readsRound_58 : decode cX10_readsRound 58 = .ok (.aload_n 0, 1) := by decide +kernel
theorem dX10_readsRound_59 : decode cX10_readsRound 59 = .ok (.getfield 233, 3) := by decide +kernel
theorem dX10_readsRound_62 : decode cX10_readsRound 62 = .ok (.if_icmp .lt 8, 3) := by decide +kernel
theorem dX10_readsRound_65 : decode cX10_readsRound 65 = .ok (.aload_n 0, 1) := by decide +kernel
theorem dX10_readsRound_66 : decode cX10_readsRound 66 = .ok (.iconst 3, 1) := by decide +kernel
theorem dX10_readsRound_67 : decode cX10_readsRound 67 = .ok (.invokevirtual 177, 3) := by decide +kernel
theorem dX10_readsRound_70 : decode cX10_readsRound 70 = .ok (.aload_n 0, 1) := by decide +kernel
theorem dX10_readsRound_71 : decode cX10_readsRound 71 = .ok (.invokevirtual 170, 3) := by decide +kernel
theorem dX10_readsRound_74 : decode cX10_readsRound 74 = .ok (.ifCond .ne 4, 3) := by decide +kernel
theorem dX10_readsRound_77 : decode cX10_readsRound 77 = .ok (.return_, 1) := by decide +kernel
theorem dX10_readsRound_78 : decode cX10_readsRound 78 = .ok (.aload_n 0, 1) := by decide +kernel
theorem dX10_readsRound_79 : decode cX10_readsRound 79 = .ok (.getfield 53, 3) := by decide +kernel
theorem dX10_readsRound_82 : decode cX10_readsRound 82 = .ok (.aload_n 0, 1) := by decide +kernel
theorem dX10_readsRound_83 : decode cX10_readsRound 83 = .ok (.getfield 243, 3) := by decide +kernel
theorem dX10_readsRound_86 : decode cX10_readsRound 86 = .ok (.aload_n 0, 1) := by decide +kernel
theorem dX10_readsRound_87 : decode cX10_readsRound 87 = .ok (.getfield 138, 3) := by decide +kernel
theorem dX10_readsRound_90 : decode cX10_readsRound 90 = .ok (.iastore, 1) := by decide +kernel
theorem dX10_readsRound_91 : decode cX10_readsRound 91 = .ok (.aload_n 0, 1) := by decide +kernel
theorem dX10_readsRound_92 : decode cX10_readsRound 92 = .ok (.dup, 1) := by decide +kernel
theorem dX10_readsRound_93 : decode cX10_readsRound 93 = .ok (.getfield 243, 3) := by decide +kernel
theorem dX10_readsRound_96 : decode cX10_readsRound 96 = .ok (.iconst 1, 1) := by decide +kernel
theorem dX10_readsRound_97 : decode cX10_readsRound 97 = .ok (.iadd, 1) := by decide +kernel
theorem dX10_readsRound_98 : decode cX10_readsRound 98 = .ok (.putfield 243, 3) := by decide +kernel
theorem dX10_readsRound_101 : decode cX10_readsRound 101 = .ok (.aload_n 0, 1) := by decide +kernel
theorem dX10_readsRound_102 : decode cX10_readsRound 102 = .ok (.invokevirtual 174, 3) := by decide +kernel
theorem dX10_readsRound_105 : decode cX10_readsRound 105 = .ok (.aload_n 0, 1) := by decide +kernel
theorem dX10_readsRound_106 : decode cX10_readsRound 106 = .ok (.getfield 144, 3) := by decide +kernel
theorem dX10_readsRound_109 : decode cX10_readsRound 109 = .ok (.iconst 2, 1) := by decide +kernel
theorem dX10_readsRound_110 : decode cX10_readsRound 110 = .ok (.if_icmp .ne 7, 3) := by decide +kernel
theorem dX10_readsRound_113 : decode cX10_readsRound 113 = .ok (.iconst 1, 1) := by decide +kernel
theorem dX10_readsRound_114 : decode cX10_readsRound 114 = .ok (.goto 4, 3) := by decide +kernel
theorem dX10_readsRound_117 : decode cX10_readsRound 117 = .ok (.iconst 0, 1) := by decide +kernel
theorem dX10_readsRound_118 : decode cX10_readsRound 118 = .ok (.istore_n 1, 1) := by decide +kernel
theorem dX10_readsRound_119 : decode cX10_readsRound 119 = .ok (.goto (-117), 3) := by decide +kernel
theorem dX10_readsRound_122 : decode cX10_readsRound 122 = .ok (.return_, 1) := by decide +kernel
theorem dX10_readsWet_0 : decode cX10_readsWet 0 = .ok (.iconst 1, 1) := by decide +kernel
theorem dX10_readsWet_1 : decode cX10_readsWet 1 = .ok (.istore_n 1, 1) := by decide +kernel
theorem dX10_readsWet_2 : decode cX10_readsWet 2 = .ok (.iload_n 1, 1) := by decide +kernel
theorem dX10_readsWet_3 : decode cX10_readsWet 3 = .ok (.ifCond .eq 85, 3) := by decide +kernel
theorem dX10_readsWet_6 : decode cX10_readsWet 6 = .ok (.aload_n 0, 1) := by decide +kernel
theorem dX10_readsWet_7 : decode cX10_readsWet 7 = .ok (.invokevirtual 170, 3) := by decide +kernel
theorem dX10_readsWet_10 : decode cX10_readsWet 10 = .ok (.ifCond .eq 78, 3) := by decide +kernel
theorem dX10_readsWet_13 : decode cX10_readsWet 13 = .ok (.aload_n 0, 1) := by decide +kernel
theorem dX10_readsWet_14 : decode cX10_readsWet 14 = .ok (.getfield 246, 3) := by decide +kernel
theorem dX10_readsWet_17 : decode cX10_readsWet 17 = .ok (.bipush 8, 2) := by decide +kernel
theorem dX10_readsWet_19 : decode cX10_readsWet 19 = .ok (.if_icmp .ne 16, 3) := by decide +kernel
theorem dX10_readsWet_22 : decode cX10_readsWet 22 = .ok (.aload_n 0, 1) := by decide +kernel
theorem dX10_readsWet_23 : decode cX10_readsWet 23 = .ok (.getfield 144, 3) := by decide +kernel
theorem dX10_readsWet_26 : decode cX10_readsWet 26 = .ok (.iconst 2, 1) := by decide +kernel
theorem dX10_readsWet_27 : decode cX10_readsWet 27 = .ok (.if_icmp .ne 8, 3) := by decide +kernel
theorem dX10_readsWet_30 : decode cX10_readsWet 30 = .ok (.aload_n 0, 1) := by decide +kernel
theorem dX10_readsWet_31 : decode cX10_readsWet 31 = .ok (.iconst 2, 1) := by decide +kernel
theorem dX10_readsWet_32 : decode cX10_readsWet 32 = .ok (.invokevirtual 177, 3) := by decide +kernel
theorem dX10_readsWet_35 : decode cX10_readsWet 35 = .ok (.aload_n 0, 1) := by decide +kernel
theorem dX10_readsWet_36 : decode cX10_readsWet 36 = .ok (.iconst 0, 1) := by decide +kernel
theorem dX10_readsWet_37 : decode cX10_readsWet 37 = .ok (.bipush 9, 2) := by decide +kernel
theorem dX10_readsWet_39 : decode cX10_readsWet 39 = .ok (.invokevirtual 236, 3) := by decide +kernel
theorem dX10_readsWet_42 : decode cX10_readsWet 42 = .ok (.istore_n 2, 1) := by decide +kernel
theorem dX10_readsWet_43 : decode cX10_readsWet 43 = .ok (.aload_n 0, 1) := by decide +kernel
theorem dX10_readsWet_44 : decode cX10_readsWet 44 = .ok (.invokevirtual 170, 3) := by decide +kernel
theorem dX10_readsWet_47 : decode cX10_readsWet 47 = .ok (.ifCond .ne 4, 3) := by decide +kernel
theorem dX10_readsWet_50 : decode cX10_readsWet 50 = .ok (.return_, 1) := by decide +kernel
theorem dX10_readsWet_51 : decode cX10_readsWet 51 = .ok (.aload_n 0, 1) := by decide +kernel
theorem dX10_readsWet_52 : decode cX10_readsWet 52 = .ok (.getfield 56, 3) := by decide +kernel
theorem dX10_readsWet_55 : decode cX10_readsWet 55 = .ok (.aload_n 0, 1) := by decide +kernel
theorem dX10_readsWet_56 : decode cX10_readsWet 56 = .ok (.getfield 246, 3) := by decide +kernel
theorem dX10_readsWet_59 : decode cX10_readsWet 59 = .ok (.iload_n 2, 1) := by decide +kernel
theorem dX10_readsWet_60 : decode cX10_readsWet 60 = .ok (.iastore, 1) := by decide +kernel
theorem dX10_readsWet_61 : decode cX10_readsWet 61 = .ok (.aload_n 0, 1) := by decide +kernel
theorem dX10_readsWet_62 : decode cX10_readsWet 62 = .ok (.dup, 1) := by decide +kernel
theorem dX10_readsWet_63 : decode cX10_readsWet 63 = .ok (.getfield 246, 3) := by decide +kernel
theorem dX10_readsWet_66 : decode cX10_readsWet 66 = .ok (.iconst 1, 1) := by decide +kernel
theorem dX10_readsWet_67 : decode cX10_readsWet 67 = .ok (.iadd, 1) := by decide +kernel
theorem dX10_readsWet_68 : decode cX10_readsWet 68 = .ok (.putfield 246, 3) := by decide +kernel
theorem dX10_readsWet_71 : decode cX10_readsWet 71 = .ok (.aload_n 0, 1) := by decide +kernel
theorem dX10_readsWet_72 : decode cX10_readsWet 72 = .ok (.getfield 144, 3) := by decide +kernel
theorem dX10_readsWet_75 : decode cX10_readsWet 75 = .ok (.iconst 2, 1) := by decide +kernel
theorem dX10_readsWet_76 : decode cX10_readsWet 76 = .ok (.if_icmp .ne 7, 3) := by decide +kernel
theorem dX10_readsWet_79 : decode cX10_readsWet 79 = .ok (.iconst 1, 1) := by decide +kernel
theorem dX10_readsWet_80 : decode cX10_readsWet 80 = .ok (.goto 4, 3) := by decide +kernel
theorem dX10_readsWet_83 : decode cX10_readsWet 83 = .ok (.iconst 0, 1) := by decide +kernel
theorem dX10_readsWet_84 : decode cX10_readsWet 84 = .ok (.istore_n 1, 1) := by decide +kernel
theorem dX10_readsWet_85 : decode cX10_readsWet 85 = .ok (.goto (-83), 3) := by decide +kernel
theorem dX10_readsWet_88 : decode cX10_readsWet 88 = .ok (.return_, 1) := by decide +kernel
theorem dX10_line_0 : decode cX10_line 0 = .ok (.aload_n 0, 1) := by decide +kernel
theorem dX10_line_1 : decode cX10_line 1 = .ok (.invokevirtual 195, 3) := by decide +kernel
theorem dX10_line_4 : decode cX10_line 4 = .ok (.istore_n 1, 1) := by decide +kernel
theorem dX10_line_5 : decode cX10_line 5 = .ok (.iload_n 1, 1) := by decide +kernel
theorem dX10_line_6 : decode cX10_line 6 = .ok (.bipush 9, 2) := by decide +kernel
theorem dX10_line_8 : decode cX10_line 8 = .ok (.if_icmp .ne 32, 3) := by decide +kernel
theorem dX10_line_11 : decode cX10_line 11 = .ok (.aload_n 0, 1) := by decide +kernel
theorem dX10_line_12 : decode cX10_line 12 = .ok (.aload_n 0, 1) := by decide +kernel
theorem dX10_line_13 : decode cX10_line 13 = .ok (.getfield 233, 3) := by decide +kernel
theorem dX10_line_16 : decode cX10_line 16 = .ok (.bipush 6, 2) := by decide +kernel
theorem dX10_line_18 : decode cX10_line 18 = .ok (.if_icmp .ne 7, 3) := by decide +kernel
theorem dX10_line_21 : decode cX10_line 21 = .ok (.iconst 1, 1) := by decide +kernel
theorem dX10_line_22 : decode cX10_line 22 = .ok (.goto 4, 3) := by decide +kernel
theorem dX10_line_25 : decode cX10_line 25 = .ok (.iconst 0, 1) := by decide +kernel
theorem dX10_line_26 : decode cX10_line 26 = .ok (.iconst 0, 1) := by decide +kernel
theorem dX10_line_27 : decode cX10_line 27 = .ok (.invokevirtual 249, 3) := by decide +kernel
theorem dX10_line_30 : decode cX10_line 30 = .ok (.ifCond .eq 205, 3) := by decide +kernel
theorem dX10_line_33 : decode cX10_line 33 = .ok (.aload_n 0, 1) := by decide +kernel
theorem dX10_line_34 : decode cX10_line 34 = .ok (.invokevirtual 253, 3) := by decide +kernel
theorem dX10_line_37 : decode cX10_line 37 = .ok (.goto 198, 3) := by decide +kernel
theorem dX10_line_40 : decode cX10_line 40 = .ok (.iload_n 1, 1) := by decide +kernel
theorem dX10_line_41 : decode cX10_line 41 = .ok (.bipush 10, 2) := by decide +kernel
theorem dX10_line_43 : decode cX10_line 43 = .ok (.if_icmp .ne 32, 3) := by decide +kernel
theorem dX10_line_46 : decode cX10_line 46 = .ok (.aload_n 0, 1) := by decide +kernel
theorem dX10_line_47 : decode cX10_line 47 = .ok (.aload_n 0, 1) := by decide +kernel
theorem dX10_line_48 : decode cX10_line 48 = .ok (.getfield 240, 3) := by decide +kernel
theorem dX10_line_51 : decode cX10_line 51 = .ok (.bipush 8, 2) := by decide +kernel
theorem dX10_line_53 : decode cX10_line 53 = .ok (.if_icmp .ne 7, 3) := by decide +kernel
theorem dX10_line_56 : decode cX10_line 56 = .ok (.iconst 1, 1) := by decide +kernel
theorem dX10_line_57 : decode cX10_line 57 = .ok (.goto 4, 3) := by decide +kernel
theorem dX10_line_60 : decode cX10_line 60 = .ok (.iconst 0, 1) := by decide +kernel
theorem dX10_line_61 : decode cX10_line 61 = .ok (.iconst 0, 1) := by decide +kernel
theorem dX10_line_62 : decode cX10_line 62 = .ok (.invokevirtual 249, 3) := by decide +kernel
theorem dX10_line_65 : decode cX10_line 65 = .ok (.ifCond .eq 170, 3) := by decide +kernel
theorem dX10_line_68 : decode cX10_line 68 = .ok (.aload_n 0, 1) := by decide +kernel
theorem dX10_line_69 : decode cX10_line 69 = .ok (.invokevirtual 256, 3) := by decide +kernel
theorem dX10_line_72 : decode cX10_line 72 = .ok (.goto 163, 3) := by decide +kernel
theorem dX10_line_75 : decode cX10_line 75 = .ok (.iload_n 1, 1) := by decide +kernel
theorem dX10_line_76 : decode cX10_line 76 = .ok (.bipush 12, 2) := by decide +kernel
theorem dX10_line_78 : decode cX10_line 78 = .ok (.if_icmp .ne 30, 3) := by decide +kernel
theorem dX10_line_81 : decode cX10_line 81 = .ok (.aload_n 0, 1) := by decide +kernel
theorem dX10_line_82 : decode cX10_line 82 = .ok (.iconst 0, 1) := by decide +kernel
theorem dX10_line_83 : decode cX10_line 83 = .ok (.aload_n 0, 1) := by decide +kernel
theorem dX10_line_84 : decode cX10_line 84 = .ok (.getfield 243, 3) := by decide +kernel
theorem dX10_line_87 : decode cX10_line 87 = .ok (.ifCond .le 7, 3) := by decide +kernel
theorem dX10_line_90 : decode cX10_line 90 = .ok (.iconst 1, 1) := by decide +kernel
theorem dX10_line_91 : decode cX10_line 91 = .ok (.goto 4, 3) := by decide +kernel
theorem dX10_line_94 : decode cX10_line 94 = .ok (.iconst 0, 1) := by decide +kernel
theorem dX10_line_95 : decode cX10_line 95 = .ok (.invokevirtual 249, 3) := by decide +kernel
theorem dX10_line_98 : decode cX10_line 98 = .ok (.ifCond .eq 137, 3) := by decide +kernel
theorem dX10_line_101 : decode cX10_line 101 = .ok (.aload_n 0, 1) := by decide +kernel
theorem dX10_line_102 : decode cX10_line 102 = .ok (.invokevirtual 259, 3) := by decide +kernel
theorem dX10_line_105 : decode cX10_line 105 = .ok (.goto 130, 3) := by decide +kernel
theorem dX10_line_108 : decode cX10_line 108 = .ok (.iload_n 1, 1) := by decide +kernel
theorem dX10_line_109 : decode cX10_line 109 = .ok (.bipush 8, 2) := by decide +kernel
theorem dX10_line_111 : decode cX10_line 111 = .ok (.if_icmp .ne 30, 3) := by decide +kernel
theorem dX10_line_114 : decode cX10_line 114 = .ok (.aload_n 0, 1) := by decide +kernel
theorem dX10_line_115 : decode cX10_line 115 = .ok (.iconst 0, 1) := by decide +kernel
theorem dX10_line_116 : decode cX10_line 116 = .ok (.aload_n 0, 1) := by decide +kernel
theorem dX10_line_117 : decode cX10_line 117 = .ok (.getfield 246, 3) := by decide +kernel
theorem dX10_line_120 : decode cX10_line 120 = .ok (.ifCond .le 7, 3) := by decide +kernel
theorem dX10_line_123 : decode cX10_line 123 = .ok (.iconst 1, 1) := by decide +kernel
theorem dX10_line_124 : decode cX10_line 124 = .ok (.goto 4, 3) := by decide +kernel
theorem dX10_line_127 : decode cX10_line 127 = .ok (.iconst 0, 1) := by decide +kernel
theorem dX10_line_128 : decode cX10_line 128 = .ok (.invokevirtual 249, 3) := by decide +kernel
theorem dX10_line_131 : decode cX10_line 131 = .ok (.ifCond .eq 104, 3) := by decide +kernel
theorem dX10_line_134 : decode cX10_line 134 = .ok (.aload_n 0, 1) := by decide +kernel
theorem dX10_line_135 : decode cX10_line 135 = .ok (.invokevirtual 262, 3) := by decide +kernel
theorem dX10_line_138 : decode cX10_line 138 = .ok (.goto 97, 3) := by decide +kernel
theorem dX10_line_141 : decode cX10_line 141 = .ok (.iload_n 1, 1) := by decide +kernel
theorem dX10_line_142 : decode cX10_line 142 = .ok (.bipush 13, 2) := by decide +kernel
theorem dX10_line_144 : decode cX10_line 144 = .ok (.if_icmp .ne 41, 3) := by decide +kernel
theorem dX10_line_147 : decode cX10_line 147 = .ok (.aload_n 0, 1) := by decide +kernel
theorem dX10_line_148 : decode cX10_line 148 = .ok (.iconst 0, 1) := by decide +kernel
theorem dX10_line_149 : decode cX10_line 149 = .ok (.aload_n 0, 1) := by decide +kernel
theorem dX10_line_150 : decode cX10_line 150 = .ok (.getfield 265, 3) := by decide +kernel
theorem dX10_line_153 : decode cX10_line 153 = .ok (.iconst (-1), 1) := by decide +kernel
theorem dX10_line_154 : decode cX10_line 154 = .ok (.if_icmp .eq 7, 3) := by decide +kernel
theorem dX10_line_157 : decode cX10_line 157 = .ok (.iconst 1, 1) := by decide +kernel
theorem dX10_line_158 : decode cX10_line 158 = .ok (.goto 4, 3) := by decide +kernel
theorem dX10_line_161 : decode cX10_line 161 = .ok (.iconst 0, 1) := by decide +kernel
theorem dX10_line_162 : decode cX10_line 162 = .ok (.invokevirtual 249, 3) := by decide +kernel
theorem dX10_line_165 : decode cX10_line 165 = .ok (.ifCond .eq 70, 3) := by decide +kernel
theorem dX10_line_168 : decode cX10_line 168 = .ok (.aload_n 0, 1) := by decide +kernel
theorem dX10_line_169 : decode cX10_line 169 = .ok (.aload_n 0, 1) := by decide +kernel
theorem dX10_line_170 : decode cX10_line 170 = .ok (.getfield 180, 3) := by decide +kernel
theorem dX10_line_173 : decode cX10_line 173 = .ok (.putfield 265, 3) := by decide +kernel
theorem dX10_line_176 : decode cX10_line 176 = .ok (.aload_n 0, 1) := by decide +kernel
theorem dX10_line_177 : decode cX10_line 177 = .ok (.iconst 0, 1) := by decide +kernel
theorem dX10_line_178 : decode cX10_line 178 = .ok (.iconst 5, 1) := by decide +kernel
theorem dX10_line_179 : decode cX10_line 179 = .ok (.invokevirtual 268, 3) := by decide +kernel
theorem dX10_line_182 : decode cX10_line 182 = .ok (.goto 53, 3) := by decide +kernel
theorem dX10_line_185 : decode cX10_line 185 = .ok (.iload_n 1, 1) := by decide +kernel
theorem dX10_line_186 : decode cX10_line 186 = .ok (.bipush 14, 2) := by decide +kernel
theorem dX10_line_188 : decode cX10_line 188 = .ok (.if_icmp .ne 42, 3) := by decide +kernel
theorem dX10_line_191 : decode cX10_line 191 = .ok (.aload_n 0, 1) := by decide +kernel
theorem dX10_line_192 : decode cX10_line 192 = .ok (.iconst 0, 1) := by decide +kernel
theorem dX10_line_193 : decode cX10_line 193 = .ok (.aload_n 0, 1) := by decide +kernel
theorem dX10_line_194 : decode cX10_line 194 = .ok (.getfield 272, 3) := by decide +kernel
theorem dX10_line_197 : decode cX10_line 197 = .ok (.iconst (-1), 1) := by decide +kernel
theorem dX10_line_198 : decode cX10_line 198 = .ok (.if_icmp .eq 7, 3) := by decide +kernel
theorem dX10_line_201 : decode cX10_line 201 = .ok (.iconst 1, 1) := by decide +kernel
theorem dX10_line_202 : decode cX10_line 202 = .ok (.goto 4, 3) := by decide +kernel
theorem dX10_line_205 : decode cX10_line 205 = .ok (.iconst 0, 1) := by decide +kernel
theorem dX10_line_206 : decode cX10_line 206 = .ok (.invokevirtual 249, 3) := by decide +kernel
theorem dX10_line_209 : decode cX10_line 209 = .ok (.ifCond .eq 26, 3) := by decide +kernel
theorem dX10_line_212 : decode cX10_line 212 = .ok (.aload_n 0, 1) := by decide +kernel
theorem dX10_line_213 : decode cX10_line 213 = .ok (.aload_n 0, 1) := by decide +kernel
theorem dX10_line_214 : decode cX10_line 214 = .ok (.getfield 180, 3) := by decide +kernel
theorem dX10_line_217 : decode cX10_line 217 = .ok (.putfield 272, 3) := by decide +kernel
theorem dX10_line_220 : decode cX10_line 220 = .ok (.aload_n 0, 1) := by decide +kernel
theorem dX10_line_221 : decode cX10_line 221 = .ok (.iconst 4, 1) := by decide +kernel
theorem dX10_line_222 : decode cX10_line 222 = .ok (.bipush 8, 2) := by decide +kernel
theorem dX10_line_224 : decode cX10_line 224 = .ok (.invokevirtual 268, 3) := by decide +kernel
theorem dX10_line_227 : decode cX10_line 227 = .ok (.goto 8, 3) := by decide +kernel
theorem dX10_line_230 : decode cX10_line 230 = .ok (.aload_n 0, 1) := by decide +kernel
theorem dX10_line_231 : decode cX10_line 231 = .ok (.iconst 1, 1) := by decide +kernel
theorem dX10_line_232 : decode cX10_line 232 = .ok (.invokevirtual 177, 3) := by decide +kernel
theorem dX10_line_235 : decode cX10_line 235 = .ok (.aload_n 0, 1) := by decide +kernel
theorem dX10_line_236 : decode cX10_line 236 = .ok (.aload_n 0, 1) := by decide +kernel
theorem dX10_line_237 : decode cX10_line 237 = .ok (.bipush 59, 2) := by decide +kernel
theorem dX10_line_239 : decode cX10_line 239 = .ok (.invokevirtual 208, 3) := by decide +kernel
theorem dX10_line_242 : decode cX10_line 242 = .ok (.invokevirtual 275, 3) := by decide +kernel
theorem dX10_line_245 : decode cX10_line 245 = .ok (.return_, 1) := by decide +kernel
theorem dX10_city_0 : decode cX10_city 0 = .ok (.aload_n 0, 1) := by decide +kernel
theorem dX10_city_1 : decode cX10_city 1 = .ok (.iconst 0, 1) := by decide +kernel
theorem dX10_city_2 : decode cX10_city 2 = .ok (.putfield 111, 3) := by decide +kernel
theorem dX10_city_5 : decode cX10_city 5 = .ok (.aload_n 0, 1) := by decide +kernel
theorem dX10_city_6 : decode cX10_city 6 = .ok (.iload_n 1, 1) := by decide +kernel
theorem dX10_city_7 : decode cX10_city 7 = .ok (.ifCond .lt 15, 3) := by decide +kernel
theorem dX10_city_10 : decode cX10_city 10 = .ok (.iload_n 1, 1) := by decide +kernel
theorem dX10_city_11 : decode cX10_city 11 = .ok (.aload_n 0, 1) := by decide +kernel
theorem dX10_city_12 : decode cX10_city 12 = .ok (.getfield 114, 3) := by decide +kernel
theorem dX10_city_15 : decode cX10_city 15 = .ok (.if_icmp .gt 7, 3) := by decide +kernel
theorem dX10_city_18 : decode cX10_city 18 = .ok (.iconst 1, 1) := by decide +kernel
theorem dX10_city_19 : decode cX10_city 19 = .ok (.goto 4, 3) := by decide +kernel
theorem dX10_city_22 : decode cX10_city 22 = .ok (.iconst 0, 1) := by decide +kernel
theorem dX10_city_23 : decode cX10_city 23 = .ok (.iconst 1, 1) := by decide +kernel
theorem dX10_city_24 : decode cX10_city 24 = .ok (.invokevirtual 278, 3) := by decide +kernel
theorem dX10_city_27 : decode cX10_city 27 = .ok (.ifCond .ne 5, 3) := by decide +kernel
theorem dX10_city_30 : decode cX10_city 30 = .ok (.iconst 0, 1) := by decide +kernel
theorem dX10_city_31 : decode cX10_city 31 = .ok (.ireturn, 1) := by decide +kernel
theorem dX10_city_32 : decode cX10_city 32 = .ok (.aload_n 0, 1) := by decide +kernel
theorem dX10_city_33 : decode cX10_city 33 = .ok (.iconst 0, 1) := by decide +kernel
theorem dX10_city_34 : decode cX10_city 34 = .ok (.putfield 114, 3) := by decide +kernel
theorem dX10_city_37 : decode cX10_city 37 = .ok (.aload_n 0, 1) := by decide +kernel
theorem dX10_city_38 : decode cX10_city 38 = .ok (.iconst (-1), 1) := by decide +kernel
theorem dX10_city_39 : decode cX10_city 39 = .ok (.putfield 38, 3) := by decide +kernel
theorem dX10_city_42 : decode cX10_city 42 = .ok (.aload_n 0, 1) := by decide +kernel
theorem dX10_city_43 : decode cX10_city 43 = .ok (.iconst 0, 1) := by decide +kernel
theorem dX10_city_44 : decode cX10_city 44 = .ok (.putfield 167, 3) := by decide +kernel
theorem dX10_city_47 : decode cX10_city 47 = .ok (.aload_n 0, 1) := by decide +kernel
theorem dX10_city_48 : decode cX10_city 48 = .ok (.iload_n 1, 1) := by decide +kernel
theorem dX10_city_49 : decode cX10_city 49 = .ok (.putfield 121, 3) := by decide +kernel
theorem dX10_city_52 : decode cX10_city 52 = .ok (.aload_n 0, 1) := by decide +kernel
theorem dX10_city_53 : decode cX10_city 53 = .ok (.iconst 0, 1) := by decide +kernel
theorem dX10_city_54 : decode cX10_city 54 = .ok (.putfield 124, 3) := by decide +kernel
theorem dX10_city_57 : decode cX10_city 57 = .ok (.aload_n 0, 1) := by decide +kernel
theorem dX10_city_58 : decode cX10_city 58 = .ok (.iconst 0, 1) := by decide +kernel
theorem dX10_city_59 : decode cX10_city 59 = .ok (.putfield 233, 3) := by decide +kernel
theorem dX10_city_62 : decode cX10_city 62 = .ok (.aload_n 0, 1) := by decide +kernel
theorem dX10_city_63 : decode cX10_city 63 = .ok (.iconst 0, 1) := by decide +kernel
theorem dX10_city_64 : decode cX10_city 64 = .ok (.putfield 240, 3) := by decide +kernel
theorem dX10_city_67 : decode cX10_city 67 = .ok (.aload_n 0, 1) := by decide +kernel
theorem dX10_city_68 : decode cX10_city 68 = .ok (.iconst 0, 1) := by decide +kernel
theorem dX10_city_69 : decode cX10_city 69 = .ok (.putfield 243, 3) := by decide +kernel
theorem dX10_city_72 : decode cX10_city 72 = .ok (.aload_n 0, 1) := by decide +kernel
theorem dX10_city_73 : decode cX10_city 73 = .ok (.iconst 0, 1) := by decide +kernel
theorem dX10_city_74 : decode cX10_city 74 = .ok (.putfield 246, 3) := by decide +kernel
theorem dX10_city_77 : decode cX10_city 77 = .ok (.aload_n 0, 1) := by decide +kernel
theorem dX10_city_78 : decode cX10_city 78 = .ok (.iconst (-1), 1) := by decide +kernel
theorem dX10_city_79 : decode cX10_city 79 = .ok (.putfield 265, 3) := by decide +kernel
theorem dX10_city_82 : decode cX10_city 82 = .ok (.aload_n 0, 1) := by decide +kernel
theorem dX10_city_83 : decode cX10_city 83 = .ok (.iconst (-1), 1) := by decide +kernel
theorem dX10_city_84 : decode cX10_city 84 = .ok (.putfield 272, 3) := by decide +kernel
theorem dX10_city_87 : decode cX10_city 87 = .ok (.iconst 0, 1) := by decide +kernel
theorem dX10_city_88 : decode cX10_city 88 = .ok (.istore_n 2, 1) := by decide +kernel
theorem dX10_city_89 : decode cX10_city 89 = .ok (.iload_n 2, 1) := by decide +kernel
theorem dX10_city_90 : decode cX10_city 90 = .ok (.bipush 80, 2) := by decide +kernel
theorem dX10_city_92 : decode cX10_city 92 = .ok (.if_icmp .ge 16, 3) := by decide +kernel
theorem dX10_city_95 : decode cX10_city 95 = .ok (.aload_n 0, 1) := by decide +kernel
theorem dX10_city_96 : decode cX10_city 96 = .ok (.getfield 59, 3) := by decide +kernel
theorem dX10_city_99 : decode cX10_city 99 = .ok (.iload_n 2, 1) := by decide +kernel
theorem dX10_city_100 : decode cX10_city 100 = .ok (.iconst 0, 1) := by decide +kernel
theorem dX10_city_101 : decode cX10_city 101 = .ok (.iastore, 1) := by decide +kernel
theorem dX10_city_102 : decode cX10_city 102 = .ok (.iinc 2 1, 3) := by decide +kernel
theorem dX10_city_105 : decode cX10_city 105 = .ok (.goto (-16), 3) := by decide +kernel
theorem dX10_city_108 : decode cX10_city 108 = .ok (.aload_n 0, 1) := by decide +kernel
theorem dX10_city_109 : decode cX10_city 109 = .ok (.iconst 0, 1) := by decide +kernel
theorem dX10_city_110 : decode cX10_city 110 = .ok (.putfield 180, 3) := by decide +kernel
theorem dX10_city_113 : decode cX10_city 113 = .ok (.aload_n 0, 1) := by decide +kernel
theorem dX10_city_114 : decode cX10_city 114 = .ok (.invokevirtual 174, 3) := by decide +kernel
theorem dX10_city_117 : decode cX10_city 117 = .ok (.aload_n 0, 1) := by decide +kernel
theorem dX10_city_118 : decode cX10_city 118 = .ok (.invokevirtual 170, 3) := by decide +kernel
theorem dX10_city_121 : decode cX10_city 121 = .ok (.ifCond .eq 17, 3) := by decide +kernel
theorem dX10_city_124 : decode cX10_city 124 = .ok (.aload_n 0, 1) := by decide +kernel
theorem dX10_city_125 : decode cX10_city 125 = .ok (.getfield 144, 3) := by decide +kernel
theorem dX10_city_128 : decode cX10_city 128 = .ok (.ifCond .eq 10, 3) := by decide +kernel
theorem dX10_city_131 : decode cX10_city 131 = .ok (.aload_n 0, 1) := by decide +kernel
theorem dX10_city_132 : decode cX10_city 132 = .ok (.invokevirtual 282, 3) := by decide +kernel
theorem dX10_city_135 : decode cX10_city 135 = .ok (.goto (-18), 3) := by decide +kernel
theorem dX10_city_138 : decode cX10_city 138 = .ok (.aload_n 0, 1) := by decide +kernel
theorem dX10_city_139 : decode cX10_city 139 = .ok (.invokevirtual 170, 3) := by decide +kernel
theorem dX10_city_142 : decode cX10_city 142 = .ok (.ifCond .ne 18, 3) := by decide +kernel
theorem dX10_city_145 : decode cX10_city 145 = .ok (.aload_n 0, 1) := by decide +kernel
theorem dX10_city_146 : decode cX10_city 146 = .ok (.getfield 41, 3) := by decide +kernel
theorem dX10_city_149 : decode cX10_city 149 = .ok (.iconst 0, 1) := by decide +kernel
theorem dX10_city_150 : decode cX10_city 150 = .ok (.dup2, 1) := by decide +kernel
theorem dX10_city_151 : decode cX10_city 151 = .ok (.iaload, 1) := by decide +kernel
theorem dX10_city_152 : decode cX10_city 152 = .ok (.iconst 1, 1) := by decide +kernel
theorem dX10_city_153 : decode cX10_city 153 = .ok (.iadd, 1) := by decide +kernel
theorem dX10_city_154 : decode cX10_city 154 = .ok (.iastore, 1) := by decide +kernel
theorem dX10_city_155 : decode cX10_city 155 = .ok (.aload_n 0, 1) := by decide +kernel
theorem dX10_city_156 : decode cX10_city 156 = .ok (.getfield 167, 3) := by decide +kernel
theorem dX10_city_159 : decode cX10_city 159 = .ok (.ireturn, 1) := by decide +kernel
theorem dX10_city_160 : decode cX10_city 160 = .ok (.aload_n 0, 1) := by decide +kernel
theorem dX10_city_161 : decode cX10_city 161 = .ok (.aload_n 0, 1) := by decide +kernel
theorem dX10_city_162 : decode cX10_city 162 = .ok (.getfield 233, 3) := by decide +kernel
theorem dX10_city_165 : decode cX10_city 165 = .ok (.putfield 285, 3) := by decide +kernel
theorem dX10_city_168 : decode cX10_city 168 = .ok (.aload_n 0, 1) := by decide +kernel
theorem dX10_city_169 : decode cX10_city 169 = .ok (.aload_n 0, 1) := by decide +kernel
theorem dX10_city_170 : decode cX10_city 170 = .ok (.getfield 240, 3) := by decide +kernel
theorem dX10_city_173 : decode cX10_city 173 = .ok (.putfield 288, 3) := by decide +kernel
theorem dX10_city_176 : decode cX10_city 176 = .ok (.aload_n 0, 1) := by decide +kernel
theorem dX10_city_177 : decode cX10_city 177 = .ok (.aload_n 0, 1) := by decide +kernel
theorem dX10_city_178 : decode cX10_city 178 = .ok (.getfield 243, 3) := by decide +kernel
theorem dX10_city_181 : decode cX10_city 181 = .ok (.putfield 291, 3) := by decide +kernel
theorem dX10_city_184 : decode cX10_city 184 = .ok (.aload_n 0, 1) := by decide +kernel
theorem dX10_city_185 : decode cX10_city 185 = .ok (.aload_n 0, 1) := by decide +kernel
theorem dX10_city_186 : decode cX10_city 186 = .ok (.getfield 246, 3) := by decide +kernel
theorem dX10_city_189 : decode cX10_city 189 = .ok (.putfield 294, 3) := by decide +kernel
theorem dX10_city_192 : decode cX10_city 192 = .ok (.aload_n 0, 1) := by decide +kernel
theorem dX10_city_193 : decode cX10_city 193 = .ok (.aload_n 0, 1) := by decide +kernel
theorem dX10_city_194 : decode cX10_city 194 = .ok (.getfield 265, 3) := by decide +kernel
theorem dX10_city_197 : decode cX10_city 197 = .ok (.putfield 9, 3) := by decide +kernel
theorem dX10_city_200 : decode cX10_city 200 = .ok (.aload_n 0, 1) := by decide +kernel
theorem dX10_city_201 : decode cX10_city 201 = .ok (.aload_n 0, 1) := by decide +kernel
theorem dX10_city_202 : decode cX10_city 202 = .ok (.getfield 272, 3) := by decide +kernel
theorem dX10_city_205 : decode cX10_city 205 = .ok (.putfield 13, 3) := by decide +kernel
theorem dX10_city_208 : decode cX10_city 208 = .ok (.aload_n 0, 1) := by decide +kernel
theorem dX10_city_209 : decode cX10_city 209 = .ok (.aload_n 0, 1) := by decide +kernel
theorem dX10_city_210 : decode cX10_city 210 = .ok (.getfield 44, 3) := by decide +kernel
theorem dX10_city_213 : decode cX10_city 213 = .ok (.aload_n 0, 1) := by decide +kernel
theorem dX10_city_214 : decode cX10_city 214 = .ok (.getfield 16, 3) := by decide +kernel
theorem dX10_city_217 : decode cX10_city 217 = .ok (.invokevirtual 297, 3) := by decide +kernel
theorem dX10_city_220 : decode cX10_city 220 = .ok (.aload_n 0, 1) := by decide +kernel
theorem dX10_city_221 : decode cX10_city 221 = .ok (.aload_n 0, 1) := by decide +kernel
theorem dX10_city_222 : decode cX10_city 222 = .ok (.getfield 47, 3) := by decide +kernel
theorem dX10_city_225 : decode cX10_city 225 = .ok (.aload_n 0, 1) := by decide +kernel
theorem dX10_city_226 : decode cX10_city 226 = .ok (.getfield 20, 3) := by decide +kernel
theorem dX10_city_229 : decode cX10_city 229 = .ok (.invokevirtual 297, 3) := by decide +kernel
theorem dX10_city_232 : decode cX10_city 232 = .ok (.aload_n 0, 1) := by decide +kernel
theorem dX10_city_233 : decode cX10_city 233 = .ok (.aload_n 0, 1) := by decide +kernel
theorem dX10_city_234 : decode cX10_city 234 = .ok (.getfield 50, 3) := by decide +kernel
theorem dX10_city_237 : decode cX10_city 237 = .ok (.aload_n 0, 1) := by decide +kernel
theorem dX10_city_238 : decode cX10_city 238 = .ok (.getfield 23, 3) := by decide +kernel
theorem dX10_city_241 : decode cX10_city 241 = .ok (.invokevirtual 297, 3) := by decide +kernel
theorem dX10_city_244 : decode cX10_city 244 = .ok (.aload_n 0, 1) := by decide +kernel
theorem dX10_city_245 : decode cX10_city 245 = .ok (.aload_n 0, 1) := by decide +kernel
theorem dX10_city_246 : decode cX10_city 246 = .ok (.getfield 53, 3) := by decide +kernel
theorem dX10_city_249 : decode cX10_city 249 = .ok (.aload_n 0, 1) := by decide +kernel
theorem dX10_city_250 : decode cX10_city 250 = .ok (.getfield 26, 3) := by decide +kernel
theorem dX10_city_253 : decode cX10_city 253 = .ok (.invokevirtual 297, 3) := by decide +kernel
theorem dX10_city_256 : decode cX10_city 256 = .ok (.aload_n 0, 1) := by decide +kernel
theorem dX10_city_257 : decode cX10_city 257 = .ok (.aload_n 0, 1) := by decide +kernel
theorem dX10_city_258 : decode cX10_city 258 = .ok (.getfield 56, 3) := by decide +kernel
theorem dX10_city_261 : decode cX10_city 261 = .ok (.aload_n 0, 1) := by decide +kernel
theorem dX10_city_262 : decode cX10_city 262 = .ok (.getfield 29, 3) := by decide +kernel
theorem dX10_city_265 : decode cX10_city 265 = .ok (.invokevirtual 297, 3) := by decide +kernel
theorem dX10_city_268 : decode cX10_city 268 = .ok (.aload_n 0, 1) := by decide +kernel
theorem dX10_city_269 : decode cX10_city 269 = .ok (.aload_n 0, 1) := by decide +kernel
theorem dX10_city_270 : decode cX10_city 270 = .ok (.getfield 62, 3) := by decide +kernel
theorem dX10_city_273 : decode cX10_city 273 = .ok (.aload_n 0, 1) := by decide +kernel
theorem dX10_city_274 : decode cX10_city 274 = .ok (.getfield 32, 3) := by decide +kernel
theorem dX10_city_277 : decode cX10_city 277 = .ok (.invokevirtual 297, 3) := by decide +kernel
theorem dX10_city_280 : decode cX10_city 280 = .ok (.iconst 0, 1) := by decide +kernel
theorem dX10_city_281 : decode cX10_city 281 = .ok (.istore_n 2, 1) := by decide +kernel
theorem dX10_city_282 : decode cX10_city 282 = .ok (.iload_n 2, 1) := by decide +kernel
theorem dX10_city_283 : decode cX10_city 283 = .ok (.bipush 80, 2) := by decide +kernel
theorem dX10_city_285 : decode cX10_city 285 = .ok (.if_icmp .ge 21, 3) := by decide +kernel
theorem dX10_city_288 : decode cX10_city 288 = .ok (.aload_n 0, 1) := by decide +kernel
theorem dX10_city_289 : decode cX10_city 289 = .ok (.getfield 72, 3) := by decide +kernel
theorem dX10_city_292 : decode cX10_city 292 = .ok (.iload_n 2, 1) := by decide +kernel
theorem dX10_city_293 : decode cX10_city 293 = .ok (.aload_n 0, 1) := by decide +kernel
theorem dX10_city_294 : decode cX10_city 294 = .ok (.getfield 59, 3) := by decide +kernel
theorem dX10_city_297 : decode cX10_city 297 = .ok (.iload_n 2, 1) := by decide +kernel
theorem dX10_city_298 : decode cX10_city 298 = .ok (.iaload, 1) := by decide +kernel
theorem dX10_city_299 : decode cX10_city 299 = .ok (.iastore, 1) := by decide +kernel
theorem dX10_city_300 : decode cX10_city 300 = .ok (.iinc 2 1, 3) := by decide +kernel
theorem dX10_city_303 : decode cX10_city 303 = .ok (.goto (-21), 3) := by decide +kernel
theorem dX10_city_306 : decode cX10_city 306 = .ok (.iconst 0, 1) := by decide +kernel
theorem dX10_city_307 : decode cX10_city 307 = .ok (.istore_n 2, 1) := by decide +kernel
theorem dX10_city_308 : decode cX10_city 308 = .ok (.iload_n 2, 1) := by decide +kernel
theorem dX10_city_309 : decode cX10_city 309 = .ok (.aload_n 0, 1) := by decide +kernel
theorem dX10_city_310 : decode cX10_city 310 = .ok (.getfield 288, 3) := by decide +kernel
theorem dX10_city_313 : decode cX10_city 313 = .ok (.if_icmp .ge 35, 3) := by decide +kernel
theorem dX10_city_316 : decode cX10_city 316 = .ok (.aload_n 0, 1) := by decide +kernel
theorem dX10_city_317 : decode cX10_city 317 = .ok (.getfield 72, 3) := by decide +kernel
theorem dX10_city_320 : decode cX10_city 320 = .ok (.bipush 72, 2) := by decide +kernel
theorem dX10_city_322 : decode cX10_city 322 = .ok (.iload_n 2, 1) := by decide +kernel
theorem dX10_city_323 : decode cX10_city 323 = .ok (.iadd, 1) := by decide +kernel
theorem dX10_city_324 : decode cX10_city 324 = .ok (.iaload, 1) := by decide +kernel
theorem dX10_city_325 : decode cX10_city 325 = .ok (.aload_n 0, 1) := by decide +kernel
theorem dX10_city_326 : decode cX10_city 326 = .ok (.getfield 288, 3) := by decide +kernel
theorem dX10_city_329 : decode cX10_city 329 = .ok (.if_icmp .lt 13, 3) := by decide +kernel
theorem dX10_city_332 : decode cX10_city 332 = .ok (.aload_n 0, 1) := by decide +kernel
theorem dX10_city_333 : decode cX10_city 333 = .ok (.getfield 72, 3) := by decide +kernel
theorem dX10_city_336 : decode cX10_city 336 = .ok (.bipush 72, 2) := by decide +kernel
theorem dX10_city_338 : decode cX10_city 338 = .ok (.iload_n 2, 1) := by decide +kernel
theorem dX10_city_339 : decode cX10_city 339 = .ok (.iadd, 1) := by decide +kernel
theorem dX10_city_340 : decode cX10_city 340 = .ok (.iconst (-1), 1) := by decide +kernel
theorem dX10_city_341 : decode cX10_city 341 = .ok (.iastore, 1) := by decide +kernel
theorem dX10_city_342 : decode cX10_city 342 = .ok (.iinc 2 1, 3) := by decide +kernel
theorem dX10_city_345 : decode cX10_city 345 = .ok (.goto (-37), 3) := by decide +kernel
theorem dX10_city_348 : decode cX10_city 348 = .ok (.aload_n 0, 1) := by decide +kernel
theorem dX10_city_349 : decode cX10_city 349 = .ok (.iconst 0, 1) := by decide +kernel
theorem dX10_city_350 : decode cX10_city 350 = .ok (.putfield 301, 3) := by decide +kernel
theorem dX10_city_353 : decode cX10_city 353 = .ok (.aload_n 0, 1) := by decide +kernel
theorem dX10_city_354 : decode cX10_city 354 = .ok (.iconst 0, 1) := by decide +kernel
theorem dX10_city_355 : decode cX10_city 355 = .ok (.putfield 304, 3) := by decide +kernel
theorem dX10_city_358 : decode cX10_city 358 = .ok (.aload_n 0, 1) := by decide +kernel
theorem dX10_city_359 : decode cX10_city 359 = .ok (.iconst 0, 1) := by decide +kernel
theorem dX10_city_360 : decode cX10_city 360 = .ok (.putfield 307, 3) := by decide +kernel
theorem dX10_city_363 : decode cX10_city 363 = .ok (.iconst 0, 1) := by decide +kernel
theorem dX10_city_364 : decode cX10_city 364 = .ok (.ireturn, 1) := by decide +kernel
theorem dX10_fault_0 : decode cX10_fault 0 = .ok (.aload_n 0, 1) := by decide +kernel
theorem dX10_fault_1 : decode cX10_fault 1 = .ok (.iconst 0, 1) := by decide +kernel
theorem dX10_fault_2 : decode cX10_fault 2 = .ok (.putfield 111, 3) := by decide +kernel
theorem dX10_fault_5 : decode cX10_fault 5 = .ok (.aload_n 0, 1) := by decide +kernel
theorem dX10_fault_6 : decode cX10_fault 6 = .ok (.getfield 38, 3) := by decide +kernel
theorem dX10_fault_9 : decode cX10_fault 9 = .ok (.ireturn, 1) := by decide +kernel
theorem dX10_keeps_0 : decode cX10_keeps 0 = .ok (.aload_n 0, 1) := by decide +kernel
theorem dX10_keeps_1 : decode cX10_keeps 1 = .ok (.getfield 301, 3) := by decide +kernel
theorem dX10_keeps_4 : decode cX10_keeps 4 = .ok (.bipush 40, 2) := by decide +kernel
theorem dX10_keeps_6 : decode cX10_keeps 6 = .ok (.if_icmp .ne 44, 3) := by decide +kernel
theorem dX10_keeps_9 : decode cX10_keeps 9 = .ok (.bipush 80, 2) := by decide +kernel
theorem dX10_keeps_11 : decode cX10_keeps 11 = .ok (.istore_n 1, 1) := by decide +kernel
theorem dX10_keeps_12 : decode cX10_keeps 12 = .ok (.iload_n 1, 1) := by decide +kernel
theorem dX10_keeps_13 : decode cX10_keeps 13 = .ok (.sipush 3200, 3) := by decide +kernel
theorem dX10_keeps_16 : decode cX10_keeps 16 = .ok (.if_icmp .ge 24, 3) := by decide +kernel
theorem dX10_keeps_19 : decode cX10_keeps 19 = .ok (.aload_n 0, 1) := by decide +kernel
theorem dX10_keeps_20 : decode cX10_keeps 20 = .ok (.getfield 75, 3) := by decide +kernel
theorem dX10_keeps_23 : decode cX10_keeps 23 = .ok (.iload_n 1, 1) := by decide +kernel
theorem dX10_keeps_24 : decode cX10_keeps 24 = .ok (.bipush 80, 2) := by decide +kernel
theorem dX10_keeps_26 : decode cX10_keeps 26 = .ok (.isub, 1) := by decide +kernel
theorem dX10_keeps_27 : decode cX10_keeps 27 = .ok (.aload_n 0, 1) := by decide +kernel
theorem dX10_keeps_28 : decode cX10_keeps 28 = .ok (.getfield 75, 3) := by decide +kernel
theorem dX10_keeps_31 : decode cX10_keeps 31 = .ok (.iload_n 1, 1) := by decide +kernel
theorem dX10_keeps_32 : decode cX10_keeps 32 = .ok (.iaload, 1) := by decide +kernel
theorem dX10_keeps_33 : decode cX10_keeps 33 = .ok (.iastore, 1) := by decide +kernel
theorem dX10_keeps_34 : decode cX10_keeps 34 = .ok (.iinc 1 1, 3) := by decide +kernel
theorem dX10_keeps_37 : decode cX10_keeps 37 = .ok (.goto (-25), 3) := by decide +kernel
theorem dX10_keeps_40 : decode cX10_keeps 40 = .ok (.aload_n 0, 1) := by decide +kernel
theorem dX10_keeps_41 : decode cX10_keeps 41 = .ok (.dup, 1) := by decide +kernel
theorem dX10_keeps_42 : decode cX10_keeps 42 = .ok (.getfield 301, 3) := by decide +kernel
theorem dX10_keeps_45 : decode cX10_keeps 45 = .ok (.iconst 1, 1) := by decide +kernel
theorem dX10_keeps_46 : decode cX10_keeps 46 = .ok (.isub, 1) := by decide +kernel
theorem dX10_keeps_47 : decode cX10_keeps 47 = .ok (.putfield 301, 3) := by decide +kernel
theorem dX10_keeps_50 : decode cX10_keeps 50 = .ok (.iconst 0, 1) := by decide +kernel
theorem dX10_keeps_51 : decode cX10_keeps 51 = .ok (.istore_n 1, 1) := by decide +kernel
theorem dX10_keeps_52 : decode cX10_keeps 52 = .ok (.iload_n 1, 1) := by decide +kernel
theorem dX10_keeps_53 : decode cX10_keeps 53 = .ok (.bipush 80, 2) := by decide +kernel
theorem dX10_keeps_55 : decode cX10_keeps 55 = .ok (.if_icmp .ge 29, 3) := by decide +kernel
theorem dX10_keeps_58 : decode cX10_keeps 58 = .ok (.aload_n 0, 1) := by decide +kernel
theorem dX10_keeps_59 : decode cX10_keeps 59 = .ok (.getfield 75, 3) := by decide +kernel
theorem dX10_keeps_62 : decode cX10_keeps 62 = .ok (.bipush 80, 2) := by decide +kernel
theorem dX10_keeps_64 : decode cX10_keeps 64 = .ok (.aload_n 0, 1) := by decide +kernel
theorem dX10_keeps_65 : decode cX10_keeps 65 = .ok (.getfield 301, 3) := by decide +kernel
theorem dX10_keeps_68 : decode cX10_keeps 68 = .ok (.imul, 1) := by decide +kernel
theorem dX10_keeps_69 : decode cX10_keeps 69 = .ok (.iload_n 1, 1) := by decide +kernel
theorem dX10_keeps_70 : decode cX10_keeps 70 = .ok (.iadd, 1) := by decide +kernel
theorem dX10_keeps_71 : decode cX10_keeps 71 = .ok (.aload_n 0, 1) := by decide +kernel
theorem dX10_keeps_72 : decode cX10_keeps 72 = .ok (.getfield 72, 3) := by decide +kernel
theorem dX10_keeps_75 : decode cX10_keeps 75 = .ok (.iload_n 1, 1) := by decide +kernel
theorem dX10_keeps_76 : decode cX10_keeps 76 = .ok (.iaload, 1) := by decide +kernel
theorem dX10_keeps_77 : decode cX10_keeps 77 = .ok (.iastore, 1) := by decide +kernel
theorem dX10_keeps_78 : decode cX10_keeps 78 = .ok (.iinc 1 1, 3) := by decide +kernel
theorem dX10_keeps_81 : decode cX10_keeps 81 = .ok (.goto (-29), 3) := by decide +kernel
theorem dX10_keeps_84 : decode cX10_keeps 84 = .ok (.aload_n 0, 1) := by decide +kernel
theorem dX10_keeps_85 : decode cX10_keeps 85 = .ok (.dup, 1) := by decide +kernel
theorem dX10_keeps_86 : decode cX10_keeps 86 = .ok (.getfield 301, 3) := by decide +kernel
theorem dX10_keeps_89 : decode cX10_keeps 89 = .ok (.iconst 1, 1) := by decide +kernel
theorem dX10_keeps_90 : decode cX10_keeps 90 = .ok (.iadd, 1) := by decide +kernel
theorem dX10_keeps_91 : decode cX10_keeps 91 = .ok (.putfield 301, 3) := by decide +kernel
theorem dX10_keeps_94 : decode cX10_keeps 94 = .ok (.return_, 1) := by decide +kernel
theorem dX10_refuses_0 : decode cX10_refuses 0 = .ok (.aload_n 0, 1) := by decide +kernel
theorem dX10_refuses_1 : decode cX10_refuses 1 = .ok (.getfield 41, 3) := by decide +kernel
theorem dX10_refuses_4 : decode cX10_refuses 4 = .ok (.iload_n 1, 1) := by decide +kernel
theorem dX10_refuses_5 : decode cX10_refuses 5 = .ok (.dup2, 1) := by decide +kernel
theorem dX10_refuses_6 : decode cX10_refuses 6 = .ok (.iaload, 1) := by decide +kernel
theorem dX10_refuses_7 : decode cX10_refuses 7 = .ok (.iconst 1, 1) := by decide +kernel
theorem dX10_refuses_8 : decode cX10_refuses 8 = .ok (.iadd, 1) := by decide +kernel
theorem dX10_refuses_9 : decode cX10_refuses 9 = .ok (.iastore, 1) := by decide +kernel
theorem dX10_refuses_10 : decode cX10_refuses 10 = .ok (.iconst (-1), 1) := by decide +kernel
theorem dX10_refuses_11 : decode cX10_refuses 11 = .ok (.ireturn, 1) := by decide +kernel
theorem dX10_undo_0 : decode cX10_undo 0 = .ok (.aload_n 0, 1) := by decide +kernel
theorem dX10_undo_1 : decode cX10_undo 1 = .ok (.iconst 0, 1) := by decide +kernel
theorem dX10_undo_2 : decode cX10_undo 2 = .ok (.putfield 111, 3) := by decide +kernel
theorem dX10_undo_5 : decode cX10_undo 5 = .ok (.aload_n 0, 1) := by decide +kernel
theorem dX10_undo_6 : decode cX10_undo 6 = .ok (.getfield 301, 3) := by decide +kernel
theorem dX10_undo_9 : decode cX10_undo 9 = .ok (.ifCond .ne 5, 3) := by decide +kernel
theorem dX10_undo_12 : decode cX10_undo 12 = .ok (.iconst (-1), 1) := by decide +kernel
theorem dX10_undo_13 : decode cX10_undo 13 = .ok (.ireturn, 1) := by decide +kernel
theorem dX10_undo_14 : decode cX10_undo 14 = .ok (.aload_n 0, 1) := by decide +kernel
theorem dX10_undo_15 : decode cX10_undo 15 = .ok (.dup, 1) := by decide +kernel
theorem dX10_undo_16 : decode cX10_undo 16 = .ok (.getfield 301, 3) := by decide +kernel
theorem dX10_undo_19 : decode cX10_undo 19 = .ok (.iconst 1, 1) := by decide +kernel
theorem dX10_undo_20 : decode cX10_undo 20 = .ok (.isub, 1) := by decide +kernel
theorem dX10_undo_21 : decode cX10_undo 21 = .ok (.putfield 301, 3) := by decide +kernel
theorem dX10_undo_24 : decode cX10_undo 24 = .ok (.iconst 0, 1) := by decide +kernel
theorem dX10_undo_25 : decode cX10_undo 25 = .ok (.istore_n 1, 1) := by decide +kernel
theorem dX10_undo_26 : decode cX10_undo 26 = .ok (.iload_n 1, 1) := by decide +kernel
theorem dX10_undo_27 : decode cX10_undo 27 = .ok (.bipush 80, 2) := by decide +kernel
theorem dX10_undo_29 : decode cX10_undo 29 = .ok (.if_icmp .ge 29, 3) := by decide +kernel
theorem dX10_undo_32 : decode cX10_undo 32 = .ok (.aload_n 0, 1) := by decide +kernel
theorem dX10_undo_33 : decode cX10_undo 33 = .ok (.getfield 72, 3) := by decide +kernel
theorem dX10_undo_36 : decode cX10_undo 36 = .ok (.iload_n 1, 1) := by decide +kernel
theorem dX10_undo_37 : decode cX10_undo 37 = .ok (.aload_n 0, 1) := by decide +kernel
theorem dX10_undo_38 : decode cX10_undo 38 = .ok (.getfield 75, 3) := by decide +kernel
theorem dX10_undo_41 : decode cX10_undo 41 = .ok (.bipush 80, 2) := by decide +kernel
theorem dX10_undo_43 : decode cX10_undo 43 = .ok (.aload_n 0, 1) := by decide +kernel
theorem dX10_undo_44 : decode cX10_undo 44 = .ok (.getfield 301, 3) := by decide +kernel
theorem dX10_undo_47 : decode cX10_undo 47 = .ok (.imul, 1) := by decide +kernel
theorem dX10_undo_48 : decode cX10_undo 48 = .ok (.iload_n 1, 1) := by decide +kernel
theorem dX10_undo_49 : decode cX10_undo 49 = .ok (.iadd, 1) := by decide +kernel
theorem dX10_undo_50 : decode cX10_undo 50 = .ok (.iaload, 1) := by decide +kernel
theorem dX10_undo_51 : decode cX10_undo 51 = .ok (.iastore, 1) := by decide +kernel
theorem dX10_undo_52 : decode cX10_undo 52 = .ok (.iinc 1 1, 3) := by decide +kernel
theorem dX10_undo_55 : decode cX10_undo 55 = .ok (.goto (-29), 3) := by decide +kernel
theorem dX10_undo_58 : decode cX10_undo 58 = .ok (.aload_n 0, 1) := by decide +kernel
theorem dX10_undo_59 : decode cX10_undo 59 = .ok (.getfield 301, 3) := by decide +kernel
theorem dX10_undo_62 : decode cX10_undo 62 = .ok (.ireturn, 1) := by decide +kernel
theorem dX10_tries_0 : decode cX10_tries 0 = .ok (.iconst 0, 1) := by decide +kernel
theorem dX10_tries_1 : decode cX10_tries 1 = .ok (.istore_n 1, 1) := by decide +kernel
theorem dX10_tries_2 : decode cX10_tries 2 = .ok (.iload_n 1, 1) := by decide +kernel
theorem dX10_tries_3 : decode cX10_tries 3 = .ok (.bipush 80, 2) := by decide +kernel
theorem dX10_tries_5 : decode cX10_tries 5 = .ok (.if_icmp .ge 24, 3) := by decide +kernel
theorem dX10_tries_8 : decode cX10_tries 8 = .ok (.aload_n 0, 1) := by decide +kernel
theorem dX10_tries_9 : decode cX10_tries 9 = .ok (.getfield 72, 3) := by decide +kernel
theorem dX10_tries_12 : decode cX10_tries 12 = .ok (.bipush 80, 2) := by decide +kernel
theorem dX10_tries_14 : decode cX10_tries 14 = .ok (.iload_n 1, 1) := by decide +kernel
theorem dX10_tries_15 : decode cX10_tries 15 = .ok (.iadd, 1) := by decide +kernel
theorem dX10_tries_16 : decode cX10_tries 16 = .ok (.aload_n 0, 1) := by decide +kernel
theorem dX10_tries_17 : decode cX10_tries 17 = .ok (.getfield 72, 3) := by decide +kernel
theorem dX10_tries_20 : decode cX10_tries 20 = .ok (.iload_n 1, 1) := by decide +kernel
theorem dX10_tries_21 : decode cX10_tries 21 = .ok (.iaload, 1) := by decide +kernel
theorem dX10_tries_22 : decode cX10_tries 22 = .ok (.iastore, 1) := by decide +kernel
theorem dX10_tries_23 : decode cX10_tries 23 = .ok (.iinc 1 1, 3) := by decide +kernel
theorem dX10_tries_26 : decode cX10_tries 26 = .ok (.goto (-24), 3) := by decide +kernel
theorem dX10_tries_29 : decode cX10_tries 29 = .ok (.return_, 1) := by decide +kernel
theorem dX10_works_0 : decode cX10_works 0 = .ok (.iload_n 0, 1) := by decide +kernel
theorem dX10_works_1 : decode cX10_works 1 = .ok (.tableswitch 105 4 10 #[43, 57, 71, 82, 93, 97, 101], 43) := by decide +kernel
theorem dX10_works_44 : decode cX10_works 44 = .ok (.iload_n 1, 1) := by decide +kernel
theorem dX10_works_45 : decode cX10_works 45 = .ok (.ifCond .eq 11, 3) := by decide +kernel
theorem dX10_works_48 : decode cX10_works 48 = .ok (.iload_n 2, 1) := by decide +kernel
theorem dX10_works_49 : decode cX10_works 49 = .ok (.ifCond .eq 7, 3) := by decide +kernel
theorem dX10_works_52 : decode cX10_works 52 = .ok (.iconst 1, 1) := by decide +kernel
theorem dX10_works_53 : decode cX10_works 53 = .ok (.goto 4, 3) := by decide +kernel
theorem dX10_works_56 : decode cX10_works 56 = .ok (.iconst 0, 1) := by decide +kernel
theorem dX10_works_57 : decode cX10_works 57 = .ok (.ireturn, 1) := by decide +kernel
theorem dX10_works_58 : decode cX10_works 58 = .ok (.iload_n 1, 1) := by decide +kernel
theorem dX10_works_59 : decode cX10_works 59 = .ok (.ifCond .ne 7, 3) := by decide +kernel
theorem dX10_works_62 : decode cX10_works 62 = .ok (.iload_n 2, 1) := by decide +kernel
theorem dX10_works_63 : decode cX10_works 63 = .ok (.ifCond .eq 7, 3) := by decide +kernel
theorem dX10_works_66 : decode cX10_works 66 = .ok (.iconst 1, 1) := by decide +kernel
theorem dX10_works_67 : decode cX10_works 67 = .ok (.goto 4, 3) := by decide +kernel
theorem dX10_works_70 : decode cX10_works 70 = .ok (.iconst 0, 1) := by decide +kernel
theorem dX10_works_71 : decode cX10_works 71 = .ok (.ireturn, 1) := by decide +kernel
theorem dX10_works_72 : decode cX10_works 72 = .ok (.iload_n 1, 1) := by decide +kernel
theorem dX10_works_73 : decode cX10_works 73 = .ok (.iload_n 2, 1) := by decide +kernel
theorem dX10_works_74 : decode cX10_works 74 = .ok (.if_icmp .ge 7, 3) := by decide +kernel
theorem dX10_works_77 : decode cX10_works 77 = .ok (.iconst 1, 1) := by decide +kernel
theorem dX10_works_78 : decode cX10_works 78 = .ok (.goto 4, 3) := by decide +kernel
theorem dX10_works_81 : decode cX10_works 81 = .ok (.iconst 0, 1) := by decide +kernel
theorem dX10_works_82 : decode cX10_works 82 = .ok (.ireturn, 1) := by decide +kernel
theorem dX10_works_83 : decode cX10_works 83 = .ok (.iload_n 1, 1) := by decide +kernel
theorem dX10_works_84 : decode cX10_works 84 = .ok (.iload_n 2, 1) := by decide +kernel
theorem dX10_works_85 : decode cX10_works 85 = .ok (.if_icmp .ne 7, 3) := by decide +kernel
theorem dX10_works_88 : decode cX10_works 88 = .ok (.iconst 1, 1) := by decide +kernel
theorem dX10_works_89 : decode cX10_works 89 = .ok (.goto 4, 3) := by decide +kernel
theorem dX10_works_92 : decode cX10_works 92 = .ok (.iconst 0, 1) := by decide +kernel
theorem dX10_works_93 : decode cX10_works 93 = .ok (.ireturn, 1) := by decide +kernel
theorem dX10_works_94 : decode cX10_works 94 = .ok (.iload_n 1, 1) := by decide +kernel
theorem dX10_works_95 : decode cX10_works 95 = .ok (.iload_n 2, 1) := by decide +kernel
theorem dX10_works_96 : decode cX10_works 96 = .ok (.iadd, 1) := by decide +kernel
theorem dX10_works_97 : decode cX10_works 97 = .ok (.ireturn, 1) := by decide +kernel
theorem dX10_works_98 : decode cX10_works 98 = .ok (.iload_n 1, 1) := by decide +kernel
theorem dX10_works_99 : decode cX10_works 99 = .ok (.iload_n 2, 1) := by decide +kernel
theorem dX10_works_100 : decode cX10_works 100 = .ok (.isub, 1) := by decide +kernel
theorem dX10_works_101 : decode cX10_works 101 = .ok (.ireturn, 1) := by decide +kernel
theorem dX10_works_102 : decode cX10_works 102 = .ok (.iload_n 1, 1) := by decide +kernel
theorem dX10_works_103 : decode cX10_works 103 = .ok (.iload_n 2, 1) := by decide +kernel
theorem dX10_works_104 : decode cX10_works 104 = .ok (.imul, 1) := by decide +kernel
theorem dX10_works_105 : decode cX10_works 105 = .ok (.ireturn, 1) := by decide +kernel
theorem dX10_works_106 : decode cX10_works 106 = .ok (.iload_n 2, 1) := by decide +kernel
theorem dX10_works_107 : decode cX10_works 107 = .ok (.ifCond .ne 7, 3) := by decide +kernel
theorem dX10_works_110 : decode cX10_works 110 = .ok (.iconst 0, 1) := by decide +kernel
theorem dX10_works_111 : decode cX10_works 111 = .ok (.goto 6, 3) := by decide +kernel
theorem dX10_works_114 : decode cX10_works 114 = .ok (.iload_n 1, 1) := by decide +kernel
theorem dX10_works_115 : decode cX10_works 115 = .ok (.iload_n 2, 1) := by decide +kernel
theorem dX10_works_116 : decode cX10_works 116 = .ok (.idiv, 1) := by decide +kernel
theorem dX10_works_117 : decode cX10_works 117 = .ok (.ireturn, 1) := by decide +kernel
theorem dX10_reckons_0 : decode cX10_reckons 0 = .ok (.iconst 0, 1) := by decide +kernel
theorem dX10_reckons_1 : decode cX10_reckons 1 = .ok (.istore_n 2, 1) := by decide +kernel
theorem dX10_reckons_2 : decode cX10_reckons 2 = .ok (.iload_n 1, 1) := by decide +kernel
theorem dX10_reckons_3 : decode cX10_reckons 3 = .ok (.istore_n 3, 1) := by decide +kernel
theorem dX10_reckons_4 : decode cX10_reckons 4 = .ok (.aload_n 0, 1) := by decide +kernel
theorem dX10_reckons_5 : decode cX10_reckons 5 = .ok (.getfield 32, 3) := by decide +kernel
theorem dX10_reckons_8 : decode cX10_reckons 8 = .ok (.iload_n 3, 1) := by decide +kernel
theorem dX10_reckons_9 : decode cX10_reckons 9 = .ok (.iaload, 1) := by decide +kernel
theorem dX10_reckons_10 : decode cX10_reckons 10 = .ok (.ifCond .eq 133, 3) := by decide +kernel
theorem dX10_reckons_13 : decode cX10_reckons 13 = .ok (.aload_n 0, 1) := by decide +kernel
theorem dX10_reckons_14 : decode cX10_reckons 14 = .ok (.getfield 32, 3) := by decide +kernel
theorem dX10_reckons_17 : decode cX10_reckons 17 = .ok (.iload_n 3, 1) := by decide +kernel
theorem dX10_reckons_18 : decode cX10_reckons 18 = .ok (.iaload, 1) := by decide +kernel
theorem dX10_reckons_19 : decode cX10_reckons 19 = .ok (.istore 4, 2) := by decide +kernel
theorem dX10_reckons_21 : decode cX10_reckons 21 = .ok (.iinc 3 1, 3) := by decide +kernel
theorem dX10_reckons_24 : decode cX10_reckons 24 = .ok (.iload 4, 2) := by decide +kernel
theorem dX10_reckons_26 : decode cX10_reckons 26 = .ok (.iconst 1, 1) := by decide +kernel
theorem dX10_reckons_27 : decode cX10_reckons 27 = .ok (.if_icmp .eq 9, 3) := by decide +kernel
theorem dX10_reckons_30 : decode cX10_reckons 30 = .ok (.iload 4, 2) := by decide +kernel
theorem dX10_reckons_32 : decode cX10_reckons 32 = .ok (.iconst 2, 1) := by decide +kernel
theorem dX10_reckons_33 : decode cX10_reckons 33 = .ok (.if_icmp .ne 44, 3) := by decide +kernel
theorem dX10_reckons_36 : decode cX10_reckons 36 = .ok (.aload_n 0, 1) := by decide +kernel
theorem dX10_reckons_37 : decode cX10_reckons 37 = .ok (.getfield 81, 3) := by decide +kernel
theorem dX10_reckons_40 : decode cX10_reckons 40 = .ok (.iload_n 2, 1) := by decide +kernel
theorem dX10_reckons_41 : decode cX10_reckons 41 = .ok (.iload 4, 2) := by decide +kernel
theorem dX10_reckons_43 : decode cX10_reckons 43 = .ok (.iconst 1, 1) := by decide +kernel
theorem dX10_reckons_44 : decode cX10_reckons 44 = .ok (.if_icmp .ne 12, 3) := by decide +kernel
theorem dX10_reckons_47 : decode cX10_reckons 47 = .ok (.aload_n 0, 1) := by decide +kernel
theorem dX10_reckons_48 : decode cX10_reckons 48 = .ok (.getfield 32, 3) := by decide +kernel
theorem dX10_reckons_51 : decode cX10_reckons 51 = .ok (.iload_n 3, 1) := by decide +kernel
theorem dX10_reckons_52 : decode cX10_reckons 52 = .ok (.iaload, 1) := by decide +kernel
theorem dX10_reckons_53 : decode cX10_reckons 53 = .ok (.goto 14, 3) := by decide +kernel
theorem dX10_reckons_56 : decode cX10_reckons 56 = .ok (.aload_n 0, 1) := by decide +kernel
theorem dX10_reckons_57 : decode cX10_reckons 57 = .ok (.getfield 78, 3) := by decide +kernel
theorem dX10_reckons_60 : decode cX10_reckons 60 = .ok (.aload_n 0, 1) := by decide +kernel
theorem dX10_reckons_61 : decode cX10_reckons 61 = .ok (.getfield 32, 3) := by decide +kernel
theorem dX10_reckons_64 : decode cX10_reckons 64 = .ok (.iload_n 3, 1) := by decide +kernel
theorem dX10_reckons_65 : decode cX10_reckons 65 = .ok (.iaload, 1) := by decide +kernel
theorem dX10_reckons_66 : decode cX10_reckons 66 = .ok (.iaload, 1) := by decide +kernel
theorem dX10_reckons_67 : decode cX10_reckons 67 = .ok (.iastore, 1) := by decide +kernel
theorem dX10_reckons_68 : decode cX10_reckons 68 = .ok (.iinc 3 1, 3) := by decide +kernel
theorem dX10_reckons_71 : decode cX10_reckons 71 = .ok (.iinc 2 1, 3) := by decide +kernel
theorem dX10_reckons_74 : decode cX10_reckons 74 = .ok (.goto 66, 3) := by decide +kernel
theorem dX10_reckons_77 : decode cX10_reckons 77 = .ok (.iload 4, 2) := by decide +kernel
theorem dX10_reckons_79 : decode cX10_reckons 79 = .ok (.iconst 3, 1) := by decide +kernel
theorem dX10_reckons_80 : decode cX10_reckons 80 = .ok (.if_icmp .ne 30, 3) := by decide +kernel
theorem dX10_reckons_83 : decode cX10_reckons 83 = .ok (.aload_n 0, 1) := by decide +kernel
theorem dX10_reckons_84 : decode cX10_reckons 84 = .ok (.getfield 81, 3) := by decide +kernel
theorem dX10_reckons_87 : decode cX10_reckons 87 = .ok (.iload_n 2, 1) := by decide +kernel
theorem dX10_reckons_88 : decode cX10_reckons 88 = .ok (.iconst 1, 1) := by decide +kernel
theorem dX10_reckons_89 : decode cX10_reckons 89 = .ok (.isub, 1) := by decide +kernel
theorem dX10_reckons_90 : decode cX10_reckons 90 = .ok (.aload_n 0, 1) := by decide +kernel
theorem dX10_reckons_91 : decode cX10_reckons 91 = .ok (.getfield 81, 3) := by decide +kernel
theorem dX10_reckons_94 : decode cX10_reckons 94 = .ok (.iload_n 2, 1) := by decide +kernel
theorem dX10_reckons_95 : decode cX10_reckons 95 = .ok (.iconst 1, 1) := by decide +kernel
theorem dX10_reckons_96 : decode cX10_reckons 96 = .ok (.isub, 1) := by decide +kernel
theorem dX10_reckons_97 : decode cX10_reckons 97 = .ok (.iaload, 1) := by decide +kernel
theorem dX10_reckons_98 : decode cX10_reckons 98 = .ok (.ifCond .ne 7, 3) := by decide +kernel
theorem dX10_reckons_101 : decode cX10_reckons 101 = .ok (.iconst 1, 1) := by decide +kernel
theorem dX10_reckons_102 : decode cX10_reckons 102 = .ok (.goto 4, 3) := by decide +kernel
theorem dX10_reckons_105 : decode cX10_reckons 105 = .ok (.iconst 0, 1) := by decide +kernel
theorem dX10_reckons_106 : decode cX10_reckons 106 = .ok (.iastore, 1) := by decide +kernel
theorem dX10_reckons_107 : decode cX10_reckons 107 = .ok (.goto 33, 3) := by decide +kernel
theorem dX10_reckons_110 : decode cX10_reckons 110 = .ok (.iinc 2 (-1), 3) := by decide +kernel
theorem dX10_reckons_113 : decode cX10_reckons 113 = .ok (.aload_n 0, 1) := by decide +kernel
theorem dX10_reckons_114 : decode cX10_reckons 114 = .ok (.getfield 81, 3) := by decide +kernel
theorem dX10_reckons_117 : decode cX10_reckons 117 = .ok (.iload_n 2, 1) := by decide +kernel
theorem dX10_reckons_118 : decode cX10_reckons 118 = .ok (.iconst 1, 1) := by decide +kernel
theorem dX10_reckons_119 : decode cX10_reckons 119 = .ok (.isub, 1) := by decide +kernel
theorem dX10_reckons_120 : decode cX10_reckons 120 = .ok (.iload 4, 2) := by decide +kernel
theorem dX10_reckons_122 : decode cX10_reckons 122 = .ok (.aload_n 0, 1) := by decide +kernel
theorem dX10_reckons_123 : decode cX10_reckons 123 = .ok (.getfield 81, 3) := by decide +kernel
theorem dX10_reckons_126 : decode cX10_reckons 126 = .ok (.iload_n 2, 1) := by decide +kernel
theorem dX10_reckons_127 : decode cX10_reckons 127 = .ok (.iconst 1, 1) := by decide +kernel
theorem dX10_reckons_128 : decode cX10_reckons 128 = .ok (.isub, 1) := by decide +kernel
theorem dX10_reckons_129 : decode cX10_reckons 129 = .ok (.iaload, 1) := by decide +kernel
theorem dX10_reckons_130 : decode cX10_reckons 130 = .ok (.aload_n 0, 1) := by decide +kernel
theorem dX10_reckons_131 : decode cX10_reckons 131 = .ok (.getfield 81, 3) := by decide +kernel
theorem dX10_reckons_134 : decode cX10_reckons 134 = .ok (.iload_n 2, 1) := by decide +kernel
theorem dX10_reckons_135 : decode cX10_reckons 135 = .ok (.iaload, 1) := by decide +kernel
theorem dX10_reckons_136 : decode cX10_reckons 136 = .ok (.invokestatic 311, 3) := by decide +kernel
theorem dX10_reckons_139 : decode cX10_reckons 139 = .ok (.iastore, 1) := by decide +kernel
theorem dX10_reckons_140 : decode cX10_reckons 140 = .ok (.goto (-136), 3) := by decide +kernel
theorem dX10_reckons_143 : decode cX10_reckons 143 = .ok (.aload_n 0, 1) := by decide +kernel
theorem dX10_reckons_144 : decode cX10_reckons 144 = .ok (.getfield 81, 3) := by decide +kernel
theorem dX10_reckons_147 : decode cX10_reckons 147 = .ok (.iconst 0, 1) := by decide +kernel
theorem dX10_reckons_148 : decode cX10_reckons 148 = .ok (.iaload, 1) := by decide +kernel
theorem dX10_reckons_149 : decode cX10_reckons 149 = .ok (.ireturn, 1) := by decide +kernel
theorem dX10_wetIn_0 : decode cX10_wetIn 0 = .ok (.aload_n 0, 1) := by decide +kernel
theorem dX10_wetIn_1 : decode cX10_wetIn 1 = .ok (.getfield 84, 3) := by decide +kernel
theorem dX10_wetIn_4 : decode cX10_wetIn 4 = .ok (.iconst (-1), 1) := by decide +kernel
theorem dX10_wetIn_5 : decode cX10_wetIn 5 = .ok (.if_icmp .eq 10, 3) := by decide +kernel
theorem dX10_wetIn_8 : decode cX10_wetIn 8 = .ok (.aload_n 0, 1) := by decide +kernel
theorem dX10_wetIn_9 : decode cX10_wetIn 9 = .ok (.getfield 84, 3) := by decide +kernel
theorem dX10_wetIn_12 : decode cX10_wetIn 12 = .ok (.goto 32, 3) := by decide +kernel
theorem dX10_wetIn_15 : decode cX10_wetIn 15 = .ok (.aload_n 0, 1) := by decide +kernel
theorem dX10_wetIn_16 : decode cX10_wetIn 16 = .ok (.getfield 294, 3) := by decide +kernel
theorem dX10_wetIn_19 : decode cX10_wetIn 19 = .ok (.ifCond .ne 7, 3) := by decide +kernel
theorem dX10_wetIn_22 : decode cX10_wetIn 22 = .ok (.iconst 2, 1) := by decide +kernel
theorem dX10_wetIn_23 : decode cX10_wetIn 23 = .ok (.goto 21, 3) := by decide +kernel
theorem dX10_wetIn_26 : decode cX10_wetIn 26 = .ok (.aload_n 0, 1) := by decide +kernel
theorem dX10_wetIn_27 : decode cX10_wetIn 27 = .ok (.getfield 29, 3) := by decide +kernel
theorem dX10_wetIn_30 : decode cX10_wetIn 30 = .ok (.aload_n 0, 1) := by decide +kernel
theorem dX10_wetIn_31 : decode cX10_wetIn 31 = .ok (.getfield 72, 3) := by decide +kernel
theorem dX10_wetIn_34 : decode cX10_wetIn 34 = .ok (.iload_n 1, 1) := by decide +kernel
theorem dX10_wetIn_35 : decode cX10_wetIn 35 = .ok (.iconst 0, 1) := by decide +kernel
theorem dX10_wetIn_36 : decode cX10_wetIn 36 = .ok (.iadd, 1) := by decide +kernel
theorem dX10_wetIn_37 : decode cX10_wetIn 37 = .ok (.iaload, 1) := by decide +kernel
theorem dX10_wetIn_38 : decode cX10_wetIn 38 = .ok (.aload_n 0, 1) := by decide +kernel
theorem dX10_wetIn_39 : decode cX10_wetIn 39 = .ok (.getfield 294, 3) := by decide +kernel
theorem dX10_wetIn_42 : decode cX10_wetIn 42 = .ok (.irem, 1) := by decide +kernel
theorem dX10_wetIn_43 : decode cX10_wetIn 43 = .ok (.iaload, 1) := by decide +kernel
theorem dX10_wetIn_44 : decode cX10_wetIn 44 = .ok (.ireturn, 1) := by decide +kernel
theorem dX10_comesOn_0 : decode cX10_comesOn 0 = .ok (.aload_n 0, 1) := by decide +kernel
theorem dX10_comesOn_1 : decode cX10_comesOn 1 = .ok (.getfield 285, 3) := by decide +kernel
theorem dX10_comesOn_4 : decode cX10_comesOn 4 = .ok (.ifCond .ne 5, 3) := by decide +kernel
theorem dX10_comesOn_7 : decode cX10_comesOn 7 = .ok (.iconst (-1), 1) := by decide +kernel
theorem dX10_comesOn_8 : decode cX10_comesOn 8 = .ok (.ireturn, 1) := by decide +kernel
theorem dX10_comesOn_9 : decode cX10_comesOn 9 = .ok (.aload_n 0, 1) := by decide +kernel
theorem dX10_comesOn_10 : decode cX10_comesOn 10 = .ok (.getfield 315, 3) := by decide +kernel
theorem dX10_comesOn_13 : decode cX10_comesOn 13 = .ok (.ifCond .eq 22, 3) := by decide +kernel
theorem dX10_comesOn_16 : decode cX10_comesOn 16 = .ok (.aload_n 0, 1) := by decide +kernel
theorem dX10_comesOn_17 : decode cX10_comesOn 17 = .ok (.getfield 87, 3) := by decide +kernel
theorem dX10_comesOn_20 : decode cX10_comesOn 20 = .ok (.iload_n 1, 1) := by decide +kernel
theorem dX10_comesOn_21 : decode cX10_comesOn 21 = .ok (.aload_n 0, 1) := by decide +kernel
theorem dX10_comesOn_22 : decode cX10_comesOn 22 = .ok (.getfield 72, 3) := by decide +kernel
theorem dX10_comesOn_25 : decode cX10_comesOn 25 = .ok (.iconst 0, 1) := by decide +kernel
theorem dX10_comesOn_26 : decode cX10_comesOn 26 = .ok (.iaload, 1) := by decide +kernel
theorem dX10_comesOn_27 : decode cX10_comesOn 27 = .ok (.isub, 1) := by decide +kernel
theorem dX10_comesOn_28 : decode cX10_comesOn 28 = .ok (.aload_n 0, 1) := by decide +kernel
theorem dX10_comesOn_29 : decode cX10_comesOn 29 = .ok (.getfield 285, 3) := by decide +kernel
theorem dX10_comesOn_32 : decode cX10_comesOn 32 = .ok (.irem, 1) := by decide +kernel
theorem dX10_comesOn_33 : decode cX10_comesOn 33 = .ok (.iaload, 1) := by decide +kernel
theorem dX10_comesOn_34 : decode cX10_comesOn 34 = .ok (.ireturn, 1) := by decide +kernel
theorem dX10_comesOn_35 : decode cX10_comesOn 35 = .ok (.aload_n 0, 1) := by decide +kernel
theorem dX10_comesOn_36 : decode cX10_comesOn 36 = .ok (.getfield 291, 3) := by decide +kernel
theorem dX10_comesOn_39 : decode cX10_comesOn 39 = .ok (.ifCond .ne 12, 3) := by decide +kernel
theorem dX10_comesOn_42 : decode cX10_comesOn 42 = .ok (.iload_n 1, 1) := by decide +kernel
theorem dX10_comesOn_43 : decode cX10_comesOn 43 = .ok (.aload_n 0, 1) := by decide +kernel
theorem dX10_comesOn_44 : decode cX10_comesOn 44 = .ok (.getfield 285, 3) := by decide +kernel
theorem dX10_comesOn_47 : decode cX10_comesOn 47 = .ok (.irem, 1) := by decide +kernel
theorem dX10_comesOn_48 : decode cX10_comesOn 48 = .ok (.goto 14, 3) := by decide +kernel
theorem dX10_comesOn_51 : decode cX10_comesOn 51 = .ok (.aload_n 0, 1) := by decide +kernel
theorem dX10_comesOn_52 : decode cX10_comesOn 52 = .ok (.getfield 26, 3) := by decide +kernel
theorem dX10_comesOn_55 : decode cX10_comesOn 55 = .ok (.iload_n 1, 1) := by decide +kernel
theorem dX10_comesOn_56 : decode cX10_comesOn 56 = .ok (.aload_n 0, 1) := by decide +kernel
theorem dX10_comesOn_57 : decode cX10_comesOn 57 = .ok (.getfield 291, 3) := by decide +kernel
theorem dX10_comesOn_60 : decode cX10_comesOn 60 = .ok (.irem, 1) := by decide +kernel
theorem dX10_comesOn_61 : decode cX10_comesOn 61 = .ok (.iaload, 1) := by decide +kernel
theorem dX10_comesOn_62 : decode cX10_comesOn 62 = .ok (.ireturn, 1) := by decide +kernel
theorem dX10_boxOf_0 : decode cX10_boxOf 0 = .ok (.iconst (-1), 1) := by decide +kernel
theorem dX10_boxOf_1 : decode cX10_boxOf 1 = .ok (.istore_n 2, 1) := by decide +kernel
theorem dX10_boxOf_2 : decode cX10_boxOf 2 = .ok (.iconst 0, 1) := by decide +kernel
theorem dX10_boxOf_3 : decode cX10_boxOf 3 = .ok (.istore_n 3, 1) := by decide +kernel
theorem dX10_boxOf_4 : decode cX10_boxOf 4 = .ok (.iload_n 3, 1) := by decide +kernel
theorem dX10_boxOf_5 : decode cX10_boxOf 5 = .ok (.aload_n 0, 1) := by decide +kernel
theorem dX10_boxOf_6 : decode cX10_boxOf 6 = .ok (.getfield 285, 3) := by decide +kernel
theorem dX10_boxOf_9 : decode cX10_boxOf 9 = .ok (.if_icmp .ge 49, 3) := by decide +kernel
theorem dX10_boxOf_12 : decode cX10_boxOf 12 = .ok (.iload_n 2, 1) := by decide +kernel
theorem dX10_boxOf_13 : decode cX10_boxOf 13 = .ok (.iconst (-1), 1) := by decide +kernel
theorem dX10_boxOf_14 : decode cX10_boxOf 14 = .ok (.if_icmp .eq 36, 3) := by decide +kernel
theorem dX10_boxOf_17 : decode cX10_boxOf 17 = .ok (.aload_n 0, 1) := by decide +kernel
theorem dX10_boxOf_18 : decode cX10_boxOf 18 = .ok (.getfield 16, 3) := by decide +kernel
theorem dX10_boxOf_21 : decode cX10_boxOf 21 = .ok (.iload_n 3, 1) := by decide +kernel
theorem dX10_boxOf_22 : decode cX10_boxOf 22 = .ok (.iaload, 1) := by decide +kernel
theorem dX10_boxOf_23 : decode cX10_boxOf 23 = .ok (.aload_n 0, 1) := by decide +kernel
theorem dX10_boxOf_24 : decode cX10_boxOf 24 = .ok (.getfield 20, 3) := by decide +kernel
theorem dX10_boxOf_27 : decode cX10_boxOf 27 = .ok (.iload_n 1, 1) := by decide +kernel
theorem dX10_boxOf_28 : decode cX10_boxOf 28 = .ok (.iaload, 1) := by decide +kernel
theorem dX10_boxOf_29 : decode cX10_boxOf 29 = .ok (.invokestatic 318, 3) := by decide +kernel
theorem dX10_boxOf_32 : decode cX10_boxOf 32 = .ok (.aload_n 0, 1) := by decide +kernel
theorem dX10_boxOf_33 : decode cX10_boxOf 33 = .ok (.getfield 16, 3) := by decide +kernel
theorem dX10_boxOf_36 : decode cX10_boxOf 36 = .ok (.iload_n 2, 1) := by decide +kernel
theorem dX10_boxOf_37 : decode cX10_boxOf 37 = .ok (.iaload, 1) := by decide +kernel
theorem dX10_boxOf_38 : decode cX10_boxOf 38 = .ok (.aload_n 0, 1) := by decide +kernel
theorem dX10_boxOf_39 : decode cX10_boxOf 39 = .ok (.getfield 20, 3) := by decide +kernel
theorem dX10_boxOf_42 : decode cX10_boxOf 42 = .ok (.iload_n 1, 1) := by decide +kernel
theorem dX10_boxOf_43 : decode cX10_boxOf 43 = .ok (.iaload, 1) := by decide +kernel
theorem dX10_boxOf_44 : decode cX10_boxOf 44 = .ok (.invokestatic 318, 3) := by decide +kernel
theorem dX10_boxOf_47 : decode cX10_boxOf 47 = .ok (.if_icmp .ge 5, 3) := by decide +kernel
theorem dX10_boxOf_50 : decode cX10_boxOf 50 = .ok (.iload_n 3, 1) := by decide +kernel
theorem dX10_boxOf_51 : decode cX10_boxOf 51 = .ok (.istore_n 2, 1) := by decide +kernel
theorem dX10_boxOf_52 : decode cX10_boxOf 52 = .ok (.iinc 3 1, 3) := by decide +kernel
theorem dX10_boxOf_55 : decode cX10_boxOf 55 = .ok (.goto (-51), 3) := by decide +kernel
theorem dX10_boxOf_58 : decode cX10_boxOf 58 = .ok (.iload_n 2, 1) := by decide +kernel
theorem dX10_boxOf_59 : decode cX10_boxOf 59 = .ok (.ireturn, 1) := by decide +kernel
theorem dX10_heldIn_0 : decode cX10_heldIn 0 = .ok (.iconst 0, 1) := by decide +kernel
theorem dX10_heldIn_1 : decode cX10_heldIn 1 = .ok (.istore_n 3, 1) := by decide +kernel
theorem dX10_heldIn_2 : decode cX10_heldIn 2 = .ok (.iconst 0, 1) := by decide +kernel
theorem dX10_heldIn_3 : decode cX10_heldIn 3 = .ok (.istore 4, 2) := by decide +kernel
theorem dX10_heldIn_5 : decode cX10_heldIn 5 = .ok (.iload 4, 2) := by decide +kernel
theorem dX10_heldIn_7 : decode cX10_heldIn 7 = .ok (.aload_n 0, 1) := by decide +kernel
theorem dX10_heldIn_8 : decode cX10_heldIn 8 = .ok (.getfield 288, 3) := by decide +kernel
theorem dX10_heldIn_11 : decode cX10_heldIn 11 = .ok (.if_icmp .ge 29, 3) := by decide +kernel
theorem dX10_heldIn_14 : decode cX10_heldIn 14 = .ok (.iload_n 3, 1) := by decide +kernel
theorem dX10_heldIn_15 : decode cX10_heldIn 15 = .ok (.aload_n 0, 1) := by decide +kernel
theorem dX10_heldIn_16 : decode cX10_heldIn 16 = .ok (.getfield 72, 3) := by decide +kernel
theorem dX10_heldIn_19 : decode cX10_heldIn 19 = .ok (.iload_n 1, 1) := by decide +kernel
theorem dX10_heldIn_20 : decode cX10_heldIn 20 = .ok (.bipush 8, 2) := by decide +kernel
theorem dX10_heldIn_22 : decode cX10_heldIn 22 = .ok (.iadd, 1) := by decide +kernel
theorem dX10_heldIn_23 : decode cX10_heldIn 23 = .ok (.bipush 8, 2) := by decide +kernel
theorem dX10_heldIn_25 : decode cX10_heldIn 25 = .ok (.iload_n 2, 1) := by decide +kernel
theorem dX10_heldIn_26 : decode cX10_heldIn 26 = .ok (.imul, 1) := by decide +kernel
theorem dX10_heldIn_27 : decode cX10_heldIn 27 = .ok (.iadd, 1) := by decide +kernel
theorem dX10_heldIn_28 : decode cX10_heldIn 28 = .ok (.iload 4, 2) := by decide +kernel
theorem dX10_heldIn_30 : decode cX10_heldIn 30 = .ok (.iadd, 1) := by decide +kernel
theorem dX10_heldIn_31 : decode cX10_heldIn 31 = .ok (.iaload, 1) := by decide +kernel
theorem dX10_heldIn_32 : decode cX10_heldIn 32 = .ok (.iadd, 1) := by decide +kernel
theorem dX10_heldIn_33 : decode cX10_heldIn 33 = .ok (.istore_n 3, 1) := by decide +kernel
theorem dX10_heldIn_34 : decode cX10_heldIn 34 = .ok (.iinc 4 1, 3) := by decide +kernel
theorem dX10_heldIn_37 : decode cX10_heldIn 37 = .ok (.goto (-32), 3) := by decide +kernel
theorem dX10_heldIn_40 : decode cX10_heldIn 40 = .ok (.iload_n 3, 1) := by decide +kernel
theorem dX10_heldIn_41 : decode cX10_heldIn 41 = .ok (.ireturn, 1) := by decide +kernel
theorem dX10_heldOf_0 : decode cX10_heldOf 0 = .ok (.iconst 0, 1) := by decide +kernel
theorem dX10_heldOf_1 : decode cX10_heldOf 1 = .ok (.istore_n 3, 1) := by decide +kernel
theorem dX10_heldOf_2 : decode cX10_heldOf 2 = .ok (.iconst 0, 1) := by decide +kernel
theorem dX10_heldOf_3 : decode cX10_heldOf 3 = .ok (.istore 4, 2) := by decide +kernel
theorem dX10_heldOf_5 : decode cX10_heldOf 5 = .ok (.iload 4, 2) := by decide +kernel
theorem dX10_heldOf_7 : decode cX10_heldOf 7 = .ok (.aload_n 0, 1) := by decide +kernel
theorem dX10_heldOf_8 : decode cX10_heldOf 8 = .ok (.getfield 285, 3) := by decide +kernel
theorem dX10_heldOf_11 : decode cX10_heldOf 11 = .ok (.if_icmp .ge 29, 3) := by decide +kernel
theorem dX10_heldOf_14 : decode cX10_heldOf 14 = .ok (.iload_n 3, 1) := by decide +kernel
theorem dX10_heldOf_15 : decode cX10_heldOf 15 = .ok (.aload_n 0, 1) := by decide +kernel
theorem dX10_heldOf_16 : decode cX10_heldOf 16 = .ok (.getfield 72, 3) := by decide +kernel
theorem dX10_heldOf_19 : decode cX10_heldOf 19 = .ok (.iload_n 1, 1) := by decide +kernel
theorem dX10_heldOf_20 : decode cX10_heldOf 20 = .ok (.bipush 8, 2) := by decide +kernel
theorem dX10_heldOf_22 : decode cX10_heldOf 22 = .ok (.iadd, 1) := by decide +kernel
theorem dX10_heldOf_23 : decode cX10_heldOf 23 = .ok (.bipush 8, 2) := by decide +kernel
theorem dX10_heldOf_25 : decode cX10_heldOf 25 = .ok (.iload 4, 2) := by decide +kernel
theorem dX10_heldOf_27 : decode cX10_heldOf 27 = .ok (.imul, 1) := by decide +kernel
theorem dX10_heldOf_28 : decode cX10_heldOf 28 = .ok (.iadd, 1) := by decide +kernel
theorem dX10_heldOf_29 : decode cX10_heldOf 29 = .ok (.iload_n 2, 1) := by decide +kernel
theorem dX10_heldOf_30 : decode cX10_heldOf 30 = .ok (.iadd, 1) := by decide +kernel
theorem dX10_heldOf_31 : decode cX10_heldOf 31 = .ok (.iaload, 1) := by decide +kernel
theorem dX10_heldOf_32 : decode cX10_heldOf 32 = .ok (.iadd, 1) := by decide +kernel
theorem dX10_heldOf_33 : decode cX10_heldOf 33 = .ok (.istore_n 3, 1) := by decide +kernel
theorem dX10_heldOf_34 : decode cX10_heldOf 34 = .ok (.iinc 4 1, 3) := by decide +kernel
theorem dX10_heldOf_37 : decode cX10_heldOf 37 = .ok (.goto (-32), 3) := by decide +kernel
theorem dX10_heldOf_40 : decode cX10_heldOf 40 = .ok (.iload_n 3, 1) := by decide +kernel
theorem dX10_heldOf_41 : decode cX10_heldOf 41 = .ok (.ireturn, 1) := by decide +kernel
theorem dX10_sumOf_0 : decode cX10_sumOf 0 = .ok (.iconst 0, 1) := by decide +kernel
theorem dX10_sumOf_1 : decode cX10_sumOf 1 = .ok (.istore_n 3, 1) := by decide +kernel
theorem dX10_sumOf_2 : decode cX10_sumOf 2 = .ok (.iconst 0, 1) := by decide +kernel
theorem dX10_sumOf_3 : decode cX10_sumOf 3 = .ok (.istore 4, 2) := by decide +kernel
theorem dX10_sumOf_5 : decode cX10_sumOf 5 = .ok (.iload 4, 2) := by decide +kernel
theorem dX10_sumOf_7 : decode cX10_sumOf 7 = .ok (.aload_n 0, 1) := by decide +kernel
theorem dX10_sumOf_8 : decode cX10_sumOf 8 = .ok (.getfield 288, 3) := by decide +kernel
theorem dX10_sumOf_11 : decode cX10_sumOf 11 = .ok (.if_icmp .ge 23, 3) := by decide +kernel
theorem dX10_sumOf_14 : decode cX10_sumOf 14 = .ok (.iload_n 3, 1) := by decide +kernel
theorem dX10_sumOf_15 : decode cX10_sumOf 15 = .ok (.aload_n 0, 1) := by decide +kernel
theorem dX10_sumOf_16 : decode cX10_sumOf 16 = .ok (.getfield 72, 3) := by decide +kernel
theorem dX10_sumOf_19 : decode cX10_sumOf 19 = .ok (.iload_n 1, 1) := by decide +kernel
theorem dX10_sumOf_20 : decode cX10_sumOf 20 = .ok (.iload_n 2, 1) := by decide +kernel
theorem dX10_sumOf_21 : decode cX10_sumOf 21 = .ok (.iadd, 1) := by decide +kernel
theorem dX10_sumOf_22 : decode cX10_sumOf 22 = .ok (.iload 4, 2) := by decide +kernel
theorem dX10_sumOf_24 : decode cX10_sumOf 24 = .ok (.iadd, 1) := by decide +kernel
theorem dX10_sumOf_25 : decode cX10_sumOf 25 = .ok (.iaload, 1) := by decide +kernel
theorem dX10_sumOf_26 : decode cX10_sumOf 26 = .ok (.iadd, 1) := by decide +kernel
theorem dX10_sumOf_27 : decode cX10_sumOf 27 = .ok (.istore_n 3, 1) := by decide +kernel
theorem dX10_sumOf_28 : decode cX10_sumOf 28 = .ok (.iinc 4 1, 3) := by decide +kernel
theorem dX10_sumOf_31 : decode cX10_sumOf 31 = .ok (.goto (-26), 3) := by decide +kernel
theorem dX10_sumOf_34 : decode cX10_sumOf 34 = .ok (.iload_n 3, 1) := by decide +kernel
theorem dX10_sumOf_35 : decode cX10_sumOf 35 = .ok (.ireturn, 1) := by decide +kernel
theorem dX10_heldAll_0 : decode cX10_heldAll 0 = .ok (.iconst 0, 1) := by decide +kernel
theorem dX10_heldAll_1 : decode cX10_heldAll 1 = .ok (.istore_n 2, 1) := by decide +kernel
theorem dX10_heldAll_2 : decode cX10_heldAll 2 = .ok (.iconst 0, 1) := by decide +kernel
theorem dX10_heldAll_3 : decode cX10_heldAll 3 = .ok (.istore_n 3, 1) := by decide +kernel
theorem dX10_heldAll_4 : decode cX10_heldAll 4 = .ok (.iload_n 3, 1) := by decide +kernel
theorem dX10_heldAll_5 : decode cX10_heldAll 5 = .ok (.aload_n 0, 1) := by decide +kernel
theorem dX10_heldAll_6 : decode cX10_heldAll 6 = .ok (.getfield 285, 3) := by decide +kernel
theorem dX10_heldAll_9 : decode cX10_heldAll 9 = .ok (.if_icmp .ge 18, 3) := by decide +kernel
theorem dX10_heldAll_12 : decode cX10_heldAll 12 = .ok (.iload_n 2, 1) := by decide +kernel
theorem dX10_heldAll_13 : decode cX10_heldAll 13 = .ok (.aload_n 0, 1) := by decide +kernel
theorem dX10_heldAll_14 : decode cX10_heldAll 14 = .ok (.iload_n 1, 1) := by decide +kernel
theorem dX10_heldAll_15 : decode cX10_heldAll 15 = .ok (.iload_n 3, 1) := by decide +kernel
theorem dX10_heldAll_16 : decode cX10_heldAll 16 = .ok (.invokevirtual 321, 3) := by decide +kernel
theorem dX10_heldAll_19 : decode cX10_heldAll 19 = .ok (.iadd, 1) := by decide +kernel
theorem dX10_heldAll_20 : decode cX10_heldAll 20 = .ok (.istore_n 2, 1) := by decide +kernel
theorem dX10_heldAll_21 : decode cX10_heldAll 21 = .ok (.iinc 3 1, 3) := by decide +kernel
theorem dX10_heldAll_24 : decode cX10_heldAll 24 = .ok (.goto (-20), 3) := by decide +kernel
theorem dX10_heldAll_27 : decode cX10_heldAll 27 = .ok (.iload_n 2, 1) := by decide +kernel
theorem dX10_heldAll_28 : decode cX10_heldAll 28 = .ok (.ireturn, 1) := by decide +kernel
theorem dX10_thinksInto_0 : decode cX10_thinksInto 0 = .ok (.aload_n 0, 1) := by decide +kernel
theorem dX10_thinksInto_1 : decode cX10_thinksInto 1 = .ok (.getfield 9, 3) := by decide +kernel
theorem dX10_thinksInto_4 : decode cX10_thinksInto 4 = .ok (.iconst (-1), 1) := by decide +kernel
theorem dX10_thinksInto_5 : decode cX10_thinksInto 5 = .ok (.if_icmp .ne 10, 3) := by decide +kernel
theorem dX10_thinksInto_8 : decode cX10_thinksInto 8 = .ok (.aload_n 0, 1) := by decide +kernel
theorem dX10_thinksInto_9 : decode cX10_thinksInto 9 = .ok (.getfield 23, 3) := by decide +kernel
theorem dX10_thinksInto_12 : decode cX10_thinksInto 12 = .ok (.iload_n 2, 1) := by decide +kernel
theorem dX10_thinksInto_13 : decode cX10_thinksInto 13 = .ok (.iaload, 1) := by decide +kernel
theorem dX10_thinksInto_14 : decode cX10_thinksInto 14 = .ok (.ireturn, 1) := by decide +kernel
theorem dX10_thinksInto_15 : decode cX10_thinksInto 15 = .ok (.aload_n 0, 1) := by decide +kernel
theorem dX10_thinksInto_16 : decode cX10_thinksInto 16 = .ok (.getfield 78, 3) := by decide +kernel
theorem dX10_thinksInto_19 : decode cX10_thinksInto 19 = .ok (.iconst 0, 1) := by decide +kernel
theorem dX10_thinksInto_20 : decode cX10_thinksInto 20 = .ok (.aload_n 0, 1) := by decide +kernel
theorem dX10_thinksInto_21 : decode cX10_thinksInto 21 = .ok (.getfield 23, 3) := by decide +kernel
theorem dX10_thinksInto_24 : decode cX10_thinksInto 24 = .ok (.iload_n 2, 1) := by decide +kernel
theorem dX10_thinksInto_25 : decode cX10_thinksInto 25 = .ok (.iaload, 1) := by decide +kernel
theorem dX10_thinksInto_26 : decode cX10_thinksInto 26 = .ok (.iastore, 1) := by decide +kernel
theorem dX10_thinksInto_27 : decode cX10_thinksInto 27 = .ok (.aload_n 0, 1) := by decide +kernel
theorem dX10_thinksInto_28 : decode cX10_thinksInto 28 = .ok (.getfield 78, 3) := by decide +kernel
theorem dX10_thinksInto_31 : decode cX10_thinksInto 31 = .ok (.iconst 1, 1) := by decide +kernel
theorem dX10_thinksInto_32 : decode cX10_thinksInto 32 = .ok (.aload_n 0, 1) := by decide +kernel
theorem dX10_thinksInto_33 : decode cX10_thinksInto 33 = .ok (.getfield 72, 3) := by decide +kernel
theorem dX10_thinksInto_36 : decode cX10_thinksInto 36 = .ok (.iload_n 1, 1) := by decide +kernel
theorem dX10_thinksInto_37 : decode cX10_thinksInto 37 = .ok (.bipush 56, 2) := by decide +kernel
theorem dX10_thinksInto_39 : decode cX10_thinksInto 39 = .ok (.iadd, 1) := by decide +kernel
theorem dX10_thinksInto_40 : decode cX10_thinksInto 40 = .ok (.iload_n 2, 1) := by decide +kernel
theorem dX10_thinksInto_41 : decode cX10_thinksInto 41 = .ok (.iadd, 1) := by decide +kernel
theorem dX10_thinksInto_42 : decode cX10_thinksInto 42 = .ok (.iaload, 1) := by decide +kernel
theorem dX10_thinksInto_43 : decode cX10_thinksInto 43 = .ok (.iastore, 1) := by decide +kernel
theorem dX10_thinksInto_44 : decode cX10_thinksInto 44 = .ok (.aload_n 0, 1) := by decide +kernel
theorem dX10_thinksInto_45 : decode cX10_thinksInto 45 = .ok (.getfield 78, 3) := by decide +kernel
theorem dX10_thinksInto_48 : decode cX10_thinksInto 48 = .ok (.iconst 2, 1) := by decide +kernel
theorem dX10_thinksInto_49 : decode cX10_thinksInto 49 = .ok (.aload_n 0, 1) := by decide +kernel
theorem dX10_thinksInto_50 : decode cX10_thinksInto 50 = .ok (.getfield 72, 3) := by decide +kernel
theorem dX10_thinksInto_53 : decode cX10_thinksInto 53 = .ok (.iload_n 1, 1) := by decide +kernel
theorem dX10_thinksInto_54 : decode cX10_thinksInto 54 = .ok (.iconst 2, 1) := by decide +kernel
theorem dX10_thinksInto_55 : decode cX10_thinksInto 55 = .ok (.iadd, 1) := by decide +kernel
theorem dX10_thinksInto_56 : decode cX10_thinksInto 56 = .ok (.iload_n 3, 1) := by decide +kernel
theorem dX10_thinksInto_57 : decode cX10_thinksInto 57 = .ok (.iadd, 1) := by decide +kernel
theorem dX10_thinksInto_58 : decode cX10_thinksInto 58 = .ok (.iaload, 1) := by decide +kernel
theorem dX10_thinksInto_59 : decode cX10_thinksInto 59 = .ok (.iastore, 1) := by decide +kernel
theorem dX10_thinksInto_60 : decode cX10_thinksInto 60 = .ok (.aload_n 0, 1) := by decide +kernel
theorem dX10_thinksInto_61 : decode cX10_thinksInto 61 = .ok (.getfield 78, 3) := by decide +kernel
theorem dX10_thinksInto_64 : decode cX10_thinksInto 64 = .ok (.iconst 3, 1) := by decide +kernel
theorem dX10_thinksInto_65 : decode cX10_thinksInto 65 = .ok (.aload_n 0, 1) := by decide +kernel
theorem dX10_thinksInto_66 : decode cX10_thinksInto 66 = .ok (.iload_n 1, 1) := by decide +kernel
theorem dX10_thinksInto_67 : decode cX10_thinksInto 67 = .ok (.iload_n 3, 1) := by decide +kernel
theorem dX10_thinksInto_68 : decode cX10_thinksInto 68 = .ok (.invokevirtual 321, 3) := by decide +kernel
theorem dX10_thinksInto_71 : decode cX10_thinksInto 71 = .ok (.iastore, 1) := by decide +kernel
theorem dX10_thinksInto_72 : decode cX10_thinksInto 72 = .ok (.aload_n 0, 1) := by decide +kernel
theorem dX10_thinksInto_73 : decode cX10_thinksInto 73 = .ok (.getfield 78, 3) := by decide +kernel
theorem dX10_thinksInto_76 : decode cX10_thinksInto 76 = .ok (.iconst 4, 1) := by decide +kernel
theorem dX10_thinksInto_77 : decode cX10_thinksInto 77 = .ok (.aload_n 0, 1) := by decide +kernel
theorem dX10_thinksInto_78 : decode cX10_thinksInto 78 = .ok (.getfield 72, 3) := by decide +kernel
theorem dX10_thinksInto_81 : decode cX10_thinksInto 81 = .ok (.iload_n 1, 1) := by decide +kernel
theorem dX10_thinksInto_82 : decode cX10_thinksInto 82 = .ok (.bipush 64, 2) := by decide +kernel
theorem dX10_thinksInto_84 : decode cX10_thinksInto 84 = .ok (.iadd, 1) := by decide +kernel
theorem dX10_thinksInto_85 : decode cX10_thinksInto 85 = .ok (.iload_n 2, 1) := by decide +kernel
theorem dX10_thinksInto_86 : decode cX10_thinksInto 86 = .ok (.iadd, 1) := by decide +kernel
theorem dX10_thinksInto_87 : decode cX10_thinksInto 87 = .ok (.iaload, 1) := by decide +kernel
theorem dX10_thinksInto_88 : decode cX10_thinksInto 88 = .ok (.iastore, 1) := by decide +kernel
theorem dX10_thinksInto_89 : decode cX10_thinksInto 89 = .ok (.aload_n 0, 1) := by decide +kernel
theorem dX10_thinksInto_90 : decode cX10_thinksInto 90 = .ok (.getfield 78, 3) := by decide +kernel
theorem dX10_thinksInto_93 : decode cX10_thinksInto 93 = .ok (.iconst 5, 1) := by decide +kernel
theorem dX10_thinksInto_94 : decode cX10_thinksInto 94 = .ok (.aload_n 0, 1) := by decide +kernel
theorem dX10_thinksInto_95 : decode cX10_thinksInto 95 = .ok (.getfield 72, 3) := by decide +kernel
theorem dX10_thinksInto_98 : decode cX10_thinksInto 98 = .ok (.iload_n 1, 1) := by decide +kernel
theorem dX10_thinksInto_99 : decode cX10_thinksInto 99 = .ok (.iconst 0, 1) := by decide +kernel
theorem dX10_thinksInto_100 : decode cX10_thinksInto 100 = .ok (.iadd, 1) := by decide +kernel
theorem dX10_thinksInto_101 : decode cX10_thinksInto 101 = .ok (.iaload, 1) := by decide +kernel
theorem dX10_thinksInto_102 : decode cX10_thinksInto 102 = .ok (.iastore, 1) := by decide +kernel
theorem dX10_thinksInto_103 : decode cX10_thinksInto 103 = .ok (.aload_n 0, 1) := by decide +kernel
theorem dX10_thinksInto_104 : decode cX10_thinksInto 104 = .ok (.aload_n 0, 1) := by decide +kernel
theorem dX10_thinksInto_105 : decode cX10_thinksInto 105 = .ok (.getfield 9, 3) := by decide +kernel
theorem dX10_thinksInto_108 : decode cX10_thinksInto 108 = .ok (.invokevirtual 324, 3) := by decide +kernel
theorem dX10_thinksInto_111 : decode cX10_thinksInto 111 = .ok (.iconst 0, 1) := by decide +kernel
theorem dX10_thinksInto_112 : decode cX10_thinksInto 112 = .ok (.bipush 9, 2) := by decide +kernel
theorem dX10_thinksInto_114 : decode cX10_thinksInto 114 = .ok (.invokestatic 327, 3) := by decide +kernel
theorem dX10_thinksInto_117 : decode cX10_thinksInto 117 = .ok (.ireturn, 1) := by decide +kernel
theorem dX10_soundsBy_0 : decode cX10_soundsBy 0 = .ok (.aload_n 0, 1) := by decide +kernel
theorem dX10_soundsBy_1 : decode cX10_soundsBy 1 = .ok (.getfield 16, 3) := by decide +kernel
theorem dX10_soundsBy_4 : decode cX10_soundsBy 4 = .ok (.iload_n 3, 1) := by decide +kernel
theorem dX10_soundsBy_5 : decode cX10_soundsBy 5 = .ok (.iaload, 1) := by decide +kernel
theorem dX10_soundsBy_6 : decode cX10_soundsBy 6 = .ok (.aload_n 0, 1) := by decide +kernel
theorem dX10_soundsBy_7 : decode cX10_soundsBy 7 = .ok (.getfield 20, 3) := by decide +kernel
theorem dX10_soundsBy_10 : decode cX10_soundsBy 10 = .ok (.iload 4, 2) := by decide +kernel
theorem dX10_soundsBy_12 : decode cX10_soundsBy 12 = .ok (.iaload, 1) := by decide +kernel
theorem dX10_soundsBy_13 : decode cX10_soundsBy 13 = .ok (.invokestatic 318, 3) := by decide +kernel
theorem dX10_soundsBy_16 : decode cX10_soundsBy 16 = .ok (.istore 5, 2) := by decide +kernel
theorem dX10_soundsBy_18 : decode cX10_soundsBy 18 = .ok (.aload_n 0, 1) := by decide +kernel
theorem dX10_soundsBy_19 : decode cX10_soundsBy 19 = .ok (.getfield 13, 3) := by decide +kernel
theorem dX10_soundsBy_22 : decode cX10_soundsBy 22 = .ok (.iconst (-1), 1) := by decide +kernel
theorem dX10_soundsBy_23 : decode cX10_soundsBy 23 = .ok (.if_icmp .ne 24, 3) := by decide +kernel
theorem dX10_soundsBy_26 : decode cX10_soundsBy 26 = .ok (.iload_n 2, 1) := by decide +kernel
theorem dX10_soundsBy_27 : decode cX10_soundsBy 27 = .ok (.iconst 2, 1) := by decide +kernel
theorem dX10_soundsBy_28 : decode cX10_soundsBy 28 = .ok (.idiv, 1) := by decide +kernel
theorem dX10_soundsBy_29 : decode cX10_soundsBy 29 = .ok (.aload_n 0, 1) := by decide +kernel
theorem dX10_soundsBy_30 : decode cX10_soundsBy 30 = .ok (.iload_n 1, 1) := by decide +kernel
theorem dX10_soundsBy_31 : decode cX10_soundsBy 31 = .ok (.invokevirtual 330, 3) := by decide +kernel
theorem dX10_soundsBy_34 : decode cX10_soundsBy 34 = .ok (.iadd, 1) := by decide +kernel
theorem dX10_soundsBy_35 : decode cX10_soundsBy 35 = .ok (.iload 5, 2) := by decide +kernel
theorem dX10_soundsBy_37 : decode cX10_soundsBy 37 = .ok (.iconst 3, 1) := by decide +kernel
theorem dX10_soundsBy_38 : decode cX10_soundsBy 38 = .ok (.idiv, 1) := by decide +kernel
theorem dX10_soundsBy_39 : decode cX10_soundsBy 39 = .ok (.isub, 1) := by decide +kernel
theorem dX10_soundsBy_40 : decode cX10_soundsBy 40 = .ok (.iconst 0, 1) := by decide +kernel
theorem dX10_soundsBy_41 : decode cX10_soundsBy 41 = .ok (.bipush 99, 2) := by decide +kernel
theorem dX10_soundsBy_43 : decode cX10_soundsBy 43 = .ok (.invokestatic 327, 3) := by decide +kernel
theorem dX10_soundsBy_46 : decode cX10_soundsBy 46 = .ok (.ireturn, 1) := by decide +kernel
theorem dX10_soundsBy_47 : decode cX10_soundsBy 47 = .ok (.aload_n 0, 1) := by decide +kernel
theorem dX10_soundsBy_48 : decode cX10_soundsBy 48 = .ok (.getfield 78, 3) := by decide +kernel
theorem dX10_soundsBy_51 : decode cX10_soundsBy 51 = .ok (.bipush 6, 2) := by decide +kernel
theorem dX10_soundsBy_53 : decode cX10_soundsBy 53 = .ok (.iload_n 2, 1) := by decide +kernel
theorem dX10_soundsBy_54 : decode cX10_soundsBy 54 = .ok (.iastore, 1) := by decide +kernel
theorem dX10_soundsBy_55 : decode cX10_soundsBy 55 = .ok (.aload_n 0, 1) := by decide +kernel
theorem dX10_soundsBy_56 : decode cX10_soundsBy 56 = .ok (.getfield 78, 3) := by decide +kernel
theorem dX10_soundsBy_59 : decode cX10_soundsBy 59 = .ok (.bipush 7, 2) := by decide +kernel
theorem dX10_soundsBy_61 : decode cX10_soundsBy 61 = .ok (.iload 5, 2) := by decide +kernel
theorem dX10_soundsBy_63 : decode cX10_soundsBy 63 = .ok (.iastore, 1) := by decide +kernel
theorem dX10_soundsBy_64 : decode cX10_soundsBy 64 = .ok (.aload_n 0, 1) := by decide +kernel
theorem dX10_soundsBy_65 : decode cX10_soundsBy 65 = .ok (.getfield 78, 3) := by decide +kernel
theorem dX10_soundsBy_68 : decode cX10_soundsBy 68 = .ok (.iconst 4, 1) := by decide +kernel
theorem dX10_soundsBy_69 : decode cX10_soundsBy 69 = .ok (.aload_n 0, 1) := by decide +kernel
theorem dX10_soundsBy_70 : decode cX10_soundsBy 70 = .ok (.getfield 72, 3) := by decide +kernel
theorem dX10_soundsBy_73 : decode cX10_soundsBy 73 = .ok (.iload_n 1, 1) := by decide +kernel
theorem dX10_soundsBy_74 : decode cX10_soundsBy 74 = .ok (.bipush 64, 2) := by decide +kernel
theorem dX10_soundsBy_76 : decode cX10_soundsBy 76 = .ok (.iadd, 1) := by decide +kernel
theorem dX10_soundsBy_77 : decode cX10_soundsBy 77 = .ok (.iload 4, 2) := by decide +kernel
theorem dX10_soundsBy_79 : decode cX10_soundsBy 79 = .ok (.iadd, 1) := by decide +kernel
theorem dX10_soundsBy_80 : decode cX10_soundsBy 80 = .ok (.iaload, 1) := by decide +kernel
theorem dX10_soundsBy_81 : decode cX10_soundsBy 81 = .ok (.iastore, 1) := by decide +kernel
theorem dX10_soundsBy_82 : decode cX10_soundsBy 82 = .ok (.aload_n 0, 1) := by decide +kernel
theorem dX10_soundsBy_83 : decode cX10_soundsBy 83 = .ok (.getfield 78, 3) := by decide +kernel
theorem dX10_soundsBy_86 : decode cX10_soundsBy 86 = .ok (.bipush 8, 2) := by decide +kernel
theorem dX10_soundsBy_88 : decode cX10_soundsBy 88 = .ok (.aload_n 0, 1) := by decide +kernel
theorem dX10_soundsBy_89 : decode cX10_soundsBy 89 = .ok (.iload_n 1, 1) := by decide +kernel
theorem dX10_soundsBy_90 : decode cX10_soundsBy 90 = .ok (.invokevirtual 330, 3) := by decide +kernel
theorem dX10_soundsBy_93 : decode cX10_soundsBy 93 = .ok (.iastore, 1) := by decide +kernel
theorem dX10_soundsBy_94 : decode cX10_soundsBy 94 = .ok (.aload_n 0, 1) := by decide +kernel
theorem dX10_soundsBy_95 : decode cX10_soundsBy 95 = .ok (.getfield 78, 3) := by decide +kernel
theorem dX10_soundsBy_98 : decode cX10_soundsBy 98 = .ok (.iconst 5, 1) := by decide +kernel
theorem dX10_soundsBy_99 : decode cX10_soundsBy 99 = .ok (.aload_n 0, 1) := by decide +kernel
theorem dX10_soundsBy_100 : decode cX10_soundsBy 100 = .ok (.getfield 72, 3) := by decide +kernel
theorem dX10_soundsBy_103 : decode cX10_soundsBy 103 = .ok (.iload_n 1, 1) := by decide +kernel
theorem dX10_soundsBy_104 : decode cX10_soundsBy 104 = .ok (.iconst 0, 1) := by decide +kernel
theorem dX10_soundsBy_105 : decode cX10_soundsBy 105 = .ok (.iadd, 1) := by decide +kernel
theorem dX10_soundsBy_106 : decode cX10_soundsBy 106 = .ok (.iaload, 1) := by decide +kernel
theorem dX10_soundsBy_107 : decode cX10_soundsBy 107 = .ok (.iastore, 1) := by decide +kernel
theorem dX10_soundsBy_108 : decode cX10_soundsBy 108 = .ok (.aload_n 0, 1) := by decide +kernel
theorem dX10_soundsBy_109 : decode cX10_soundsBy 109 = .ok (.aload_n 0, 1) := by decide +kernel
theorem dX10_soundsBy_110 : decode cX10_soundsBy 110 = .ok (.getfield 13, 3) := by decide +kernel
theorem dX10_soundsBy_113 : decode cX10_soundsBy 113 = .ok (.invokevirtual 324, 3) := by decide +kernel
theorem dX10_soundsBy_116 : decode cX10_soundsBy 116 = .ok (.iconst 0, 1) := by decide +kernel
theorem dX10_soundsBy_117 : decode cX10_soundsBy 117 = .ok (.bipush 99, 2) := by decide +kernel
theorem dX10_soundsBy_119 : decode cX10_soundsBy 119 = .ok (.invokestatic 327, 3) := by decide +kernel
theorem dX10_soundsBy_122 : decode cX10_soundsBy 122 = .ok (.ireturn, 1) := by decide +kernel
theorem dX10_hears_0 : decode cX10_hears 0 = .ok (.aload_n 0, 1) := by decide +kernel
theorem dX10_hears_1 : decode cX10_hears 1 = .ok (.getfield 72, 3) := by decide +kernel
theorem dX10_hears_4 : decode cX10_hears 4 = .ok (.iload_n 1, 1) := by decide +kernel
theorem dX10_hears_5 : decode cX10_hears 5 = .ok (.bipush 64, 2) := by decide +kernel
theorem dX10_hears_7 : decode cX10_hears 7 = .ok (.iadd, 1) := by decide +kernel
theorem dX10_hears_8 : decode cX10_hears 8 = .ok (.iload_n 2, 1) := by decide +kernel
theorem dX10_hears_9 : decode cX10_hears 9 = .ok (.iadd, 1) := by decide +kernel
theorem dX10_hears_10 : decode cX10_hears 10 = .ok (.sipush 9999, 3) := by decide +kernel
theorem dX10_hears_13 : decode cX10_hears 13 = .ok (.aload_n 0, 1) := by decide +kernel
theorem dX10_hears_14 : decode cX10_hears 14 = .ok (.getfield 72, 3) := by decide +kernel
theorem dX10_hears_17 : decode cX10_hears 17 = .ok (.iload_n 1, 1) := by decide +kernel
theorem dX10_hears_18 : decode cX10_hears 18 = .ok (.bipush 64, 2) := by decide +kernel
theorem dX10_hears_20 : decode cX10_hears 20 = .ok (.iadd, 1) := by decide +kernel
theorem dX10_hears_21 : decode cX10_hears 21 = .ok (.iload_n 2, 1) := by decide +kernel
theorem dX10_hears_22 : decode cX10_hears 22 = .ok (.iadd, 1) := by decide +kernel
theorem dX10_hears_23 : decode cX10_hears 23 = .ok (.iaload, 1) := by decide +kernel
theorem dX10_hears_24 : decode cX10_hears 24 = .ok (.iload_n 3, 1) := by decide +kernel
theorem dX10_hears_25 : decode cX10_hears 25 = .ok (.iadd, 1) := by decide +kernel
theorem dX10_hears_26 : decode cX10_hears 26 = .ok (.invokestatic 333, 3) := by decide +kernel
theorem dX10_hears_29 : decode cX10_hears 29 = .ok (.iastore, 1) := by decide +kernel
theorem dX10_hears_30 : decode cX10_hears 30 = .ok (.return_, 1) := by decide +kernel
theorem dX10_thinks_0 : decode cX10_thinks 0 = .ok (.aload_n 0, 1) := by decide +kernel
theorem dX10_thinks_1 : decode cX10_thinks 1 = .ok (.iload_n 2, 1) := by decide +kernel
theorem dX10_thinks_2 : decode cX10_thinks 2 = .ok (.invokevirtual 336, 3) := by decide +kernel
theorem dX10_thinks_5 : decode cX10_thinks 5 = .ok (.istore_n 3, 1) := by decide +kernel
theorem dX10_thinks_6 : decode cX10_thinks 6 = .ok (.iload_n 3, 1) := by decide +kernel
theorem dX10_thinks_7 : decode cX10_thinks 7 = .ok (.iconst (-1), 1) := by decide +kernel
theorem dX10_thinks_8 : decode cX10_thinks 8 = .ok (.if_icmp .ne 4, 3) := by decide +kernel
theorem dX10_thinks_11 : decode cX10_thinks 11 = .ok (.return_, 1) := by decide +kernel
theorem dX10_thinks_12 : decode cX10_thinks 12 = .ok (.aload_n 0, 1) := by decide +kernel
theorem dX10_thinks_13 : decode cX10_thinks 13 = .ok (.iload_n 1, 1) := by decide +kernel
theorem dX10_thinks_14 : decode cX10_thinks 14 = .ok (.iload_n 2, 1) := by decide +kernel
theorem dX10_thinks_15 : decode cX10_thinks 15 = .ok (.iload_n 3, 1) := by decide +kernel
theorem dX10_thinks_16 : decode cX10_thinks 16 = .ok (.invokevirtual 339, 3) := by decide +kernel
theorem dX10_thinks_19 : decode cX10_thinks 19 = .ok (.istore 4, 2) := by decide +kernel
theorem dX10_thinks_21 : decode cX10_thinks 21 = .ok (.aload_n 0, 1) := by decide +kernel
theorem dX10_thinks_22 : decode cX10_thinks 22 = .ok (.getfield 72, 3) := by decide +kernel
theorem dX10_thinks_25 : decode cX10_thinks 25 = .ok (.iload_n 1, 1) := by decide +kernel
theorem dX10_thinks_26 : decode cX10_thinks 26 = .ok (.bipush 8, 2) := by decide +kernel
theorem dX10_thinks_28 : decode cX10_thinks 28 = .ok (.iadd, 1) := by decide +kernel
theorem dX10_thinks_29 : decode cX10_thinks 29 = .ok (.bipush 8, 2) := by decide +kernel
theorem dX10_thinks_31 : decode cX10_thinks 31 = .ok (.iload_n 3, 1) := by decide +kernel
theorem dX10_thinks_32 : decode cX10_thinks 32 = .ok (.imul, 1) := by decide +kernel
theorem dX10_thinks_33 : decode cX10_thinks 33 = .ok (.iadd, 1) := by decide +kernel
theorem dX10_thinks_34 : decode cX10_thinks 34 = .ok (.iload_n 2, 1) := by decide +kernel
theorem dX10_thinks_35 : decode cX10_thinks 35 = .ok (.iadd, 1) := by decide +kernel
theorem dX10_thinks_36 : decode cX10_thinks 36 = .ok (.bipush 99, 2) := by decide +kernel
theorem dX10_thinks_38 : decode cX10_thinks 38 = .ok (.aload_n 0, 1) := by decide +kernel
theorem dX10_thinks_39 : decode cX10_thinks 39 = .ok (.getfield 72, 3) := by decide +kernel
theorem dX10_thinks_42 : decode cX10_thinks 42 = .ok (.iload_n 1, 1) := by decide +kernel
theorem dX10_thinks_43 : decode cX10_thinks 43 = .ok (.bipush 8, 2) := by decide +kernel
theorem dX10_thinks_45 : decode cX10_thinks 45 = .ok (.iadd, 1) := by decide +kernel
theorem dX10_thinks_46 : decode cX10_thinks 46 = .ok (.bipush 8, 2) := by decide +kernel
theorem dX10_thinks_48 : decode cX10_thinks 48 = .ok (.iload_n 3, 1) := by decide +kernel
theorem dX10_thinks_49 : decode cX10_thinks 49 = .ok (.imul, 1) := by decide +kernel
theorem dX10_thinks_50 : decode cX10_thinks 50 = .ok (.iadd, 1) := by decide +kernel
theorem dX10_thinks_51 : decode cX10_thinks 51 = .ok (.iload_n 2, 1) := by decide +kernel
theorem dX10_thinks_52 : decode cX10_thinks 52 = .ok (.iadd, 1) := by decide +kernel
theorem dX10_thinks_53 : decode cX10_thinks 53 = .ok (.iaload, 1) := by decide +kernel
theorem dX10_thinks_54 : decode cX10_thinks 54 = .ok (.iload 4, 2) := by decide +kernel
theorem dX10_thinks_56 : decode cX10_thinks 56 = .ok (.iadd, 1) := by decide +kernel
theorem dX10_thinks_57 : decode cX10_thinks 57 = .ok (.invokestatic 333, 3) := by decide +kernel
theorem dX10_thinks_60 : decode cX10_thinks 60 = .ok (.iastore, 1) := by decide +kernel
theorem dX10_thinks_61 : decode cX10_thinks 61 = .ok (.aload_n 0, 1) := by decide +kernel
theorem dX10_thinks_62 : decode cX10_thinks 62 = .ok (.getfield 72, 3) := by decide +kernel
theorem dX10_thinks_65 : decode cX10_thinks 65 = .ok (.iload_n 1, 1) := by decide +kernel
theorem dX10_thinks_66 : decode cX10_thinks 66 = .ok (.bipush 56, 2) := by decide +kernel
theorem dX10_thinks_68 : decode cX10_thinks 68 = .ok (.iadd, 1) := by decide +kernel
theorem dX10_thinks_69 : decode cX10_thinks 69 = .ok (.iload_n 2, 1) := by decide +kernel
theorem dX10_thinks_70 : decode cX10_thinks 70 = .ok (.iadd, 1) := by decide +kernel
theorem dX10_thinks_71 : decode cX10_thinks 71 = .ok (.sipush 999, 3) := by decide +kernel
theorem dX10_thinks_74 : decode cX10_thinks 74 = .ok (.aload_n 0, 1) := by decide +kernel
theorem dX10_thinks_75 : decode cX10_thinks 75 = .ok (.getfield 72, 3) := by decide +kernel
theorem dX10_thinks_78 : decode cX10_thinks 78 = .ok (.iload_n 1, 1) := by decide +kernel
theorem dX10_thinks_79 : decode cX10_thinks 79 = .ok (.bipush 56, 2) := by decide +kernel
theorem dX10_thinks_81 : decode cX10_thinks 81 = .ok (.iadd, 1) := by decide +kernel
theorem dX10_thinks_82 : decode cX10_thinks 82 = .ok (.iload_n 2, 1) := by decide +kernel
theorem dX10_thinks_83 : decode cX10_thinks 83 = .ok (.iadd, 1) := by decide +kernel
theorem dX10_thinks_84 : decode cX10_thinks 84 = .ok (.iaload, 1) := by decide +kernel
theorem dX10_thinks_85 : decode cX10_thinks 85 = .ok (.iload 4, 2) := by decide +kernel
theorem dX10_thinks_87 : decode cX10_thinks 87 = .ok (.iadd, 1) := by decide +kernel
theorem dX10_thinks_88 : decode cX10_thinks 88 = .ok (.invokestatic 333, 3) := by decide +kernel
theorem dX10_thinks_91 : decode cX10_thinks 91 = .ok (.iastore, 1) := by decide +kernel
theorem dX10_thinks_92 : decode cX10_thinks 92 = .ok (.return_, 1) := by decide +kernel
theorem dX10_fetches_0 : decode cX10_fetches 0 = .ok (.iconst 0, 1) := by decide +kernel
theorem dX10_fetches_1 : decode cX10_fetches 1 = .ok (.istore_n 3, 1) := by decide +kernel
theorem dX10_fetches_2 : decode cX10_fetches 2 = .ok (.iload_n 3, 1) := by decide +kernel
theorem dX10_fetches_3 : decode cX10_fetches 3 = .ok (.aload_n 0, 1) := by decide +kernel
theorem dX10_fetches_4 : decode cX10_fetches 4 = .ok (.getfield 288, 3) := by decide +kernel
theorem dX10_fetches_7 : decode cX10_fetches 7 = .ok (.if_icmp .ge 131, 3) := by decide +kernel
theorem dX10_fetches_10 : decode cX10_fetches 10 = .ok (.aload_n 0, 1) := by decide +kernel
theorem dX10_fetches_11 : decode cX10_fetches 11 = .ok (.getfield 72, 3) := by decide +kernel
theorem dX10_fetches_14 : decode cX10_fetches 14 = .ok (.iload_n 1, 1) := by decide +kernel
theorem dX10_fetches_15 : decode cX10_fetches 15 = .ok (.bipush 8, 2) := by decide +kernel
theorem dX10_fetches_17 : decode cX10_fetches 17 = .ok (.iadd, 1) := by decide +kernel
theorem dX10_fetches_18 : decode cX10_fetches 18 = .ok (.bipush 8, 2) := by decide +kernel
theorem dX10_fetches_20 : decode cX10_fetches 20 = .ok (.iload_n 2, 1) := by decide +kernel
theorem dX10_fetches_21 : decode cX10_fetches 21 = .ok (.imul, 1) := by decide +kernel
theorem dX10_fetches_22 : decode cX10_fetches 22 = .ok (.iadd, 1) := by decide +kernel
theorem dX10_fetches_23 : decode cX10_fetches 23 = .ok (.iload_n 3, 1) := by decide +kernel
theorem dX10_fetches_24 : decode cX10_fetches 24 = .ok (.iadd, 1) := by decide +kernel
theorem dX10_fetches_25 : decode cX10_fetches 25 = .ok (.iaload, 1) := by decide +kernel
theorem dX10_fetches_26 : decode cX10_fetches 26 = .ok (.istore 4, 2) := by decide +kernel
theorem dX10_fetches_28 : decode cX10_fetches 28 = .ok (.iload 4, 2) := by decide +kernel
theorem dX10_fetches_30 : decode cX10_fetches 30 = .ok (.ifCond .ne 6, 3) := by decide +kernel
theorem dX10_fetches_33 : decode cX10_fetches 33 = .ok (.goto 99, 3) := by decide +kernel
theorem dX10_fetches_36 : decode cX10_fetches 36 = .ok (.aload_n 0, 1) := by decide +kernel
theorem dX10_fetches_37 : decode cX10_fetches 37 = .ok (.getfield 72, 3) := by decide +kernel
theorem dX10_fetches_40 : decode cX10_fetches 40 = .ok (.iload_n 1, 1) := by decide +kernel
theorem dX10_fetches_41 : decode cX10_fetches 41 = .ok (.bipush 72, 2) := by decide +kernel
theorem dX10_fetches_43 : decode cX10_fetches 43 = .ok (.iadd, 1) := by decide +kernel
theorem dX10_fetches_44 : decode cX10_fetches 44 = .ok (.iload_n 3, 1) := by decide +kernel
theorem dX10_fetches_45 : decode cX10_fetches 45 = .ok (.iadd, 1) := by decide +kernel
theorem dX10_fetches_46 : decode cX10_fetches 46 = .ok (.iaload, 1) := by decide +kernel
theorem dX10_fetches_47 : decode cX10_fetches 47 = .ok (.istore 5, 2) := by decide +kernel
theorem dX10_fetches_49 : decode cX10_fetches 49 = .ok (.iload 5, 2) := by decide +kernel
theorem dX10_fetches_51 : decode cX10_fetches 51 = .ok (.iconst (-1), 1) := by decide +kernel
theorem dX10_fetches_52 : decode cX10_fetches 52 = .ok (.if_icmp .eq 20, 3) := by decide +kernel
theorem dX10_fetches_55 : decode cX10_fetches 55 = .ok (.aload_n 0, 1) := by decide +kernel
theorem dX10_fetches_56 : decode cX10_fetches 56 = .ok (.iload_n 1, 1) := by decide +kernel
theorem dX10_fetches_57 : decode cX10_fetches 57 = .ok (.iload 5, 2) := by decide +kernel
theorem dX10_fetches_59 : decode cX10_fetches 59 = .ok (.aload_n 0, 1) := by decide +kernel
theorem dX10_fetches_60 : decode cX10_fetches 60 = .ok (.iload_n 1, 1) := by decide +kernel
theorem dX10_fetches_61 : decode cX10_fetches 61 = .ok (.iload 4, 2) := by decide +kernel
theorem dX10_fetches_63 : decode cX10_fetches 63 = .ok (.iload_n 2, 1) := by decide +kernel
theorem dX10_fetches_64 : decode cX10_fetches 64 = .ok (.iload 5, 2) := by decide +kernel
theorem dX10_fetches_66 : decode cX10_fetches 66 = .ok (.invokevirtual 342, 3) := by decide +kernel
theorem dX10_fetches_69 : decode cX10_fetches 69 = .ok (.invokevirtual 346, 3) := by decide +kernel
theorem dX10_fetches_72 : decode cX10_fetches 72 = .ok (.aload_n 0, 1) := by decide +kernel
theorem dX10_fetches_73 : decode cX10_fetches 73 = .ok (.getfield 72, 3) := by decide +kernel
theorem dX10_fetches_76 : decode cX10_fetches 76 = .ok (.iload_n 1, 1) := by decide +kernel
theorem dX10_fetches_77 : decode cX10_fetches 77 = .ok (.bipush 56, 2) := by decide +kernel
theorem dX10_fetches_79 : decode cX10_fetches 79 = .ok (.iadd, 1) := by decide +kernel
theorem dX10_fetches_80 : decode cX10_fetches 80 = .ok (.iload_n 3, 1) := by decide +kernel
theorem dX10_fetches_81 : decode cX10_fetches 81 = .ok (.iadd, 1) := by decide +kernel
theorem dX10_fetches_82 : decode cX10_fetches 82 = .ok (.aload_n 0, 1) := by decide +kernel
theorem dX10_fetches_83 : decode cX10_fetches 83 = .ok (.getfield 72, 3) := by decide +kernel
theorem dX10_fetches_86 : decode cX10_fetches 86 = .ok (.iload_n 1, 1) := by decide +kernel
theorem dX10_fetches_87 : decode cX10_fetches 87 = .ok (.bipush 56, 2) := by decide +kernel
theorem dX10_fetches_89 : decode cX10_fetches 89 = .ok (.iadd, 1) := by decide +kernel
theorem dX10_fetches_90 : decode cX10_fetches 90 = .ok (.iload_n 3, 1) := by decide +kernel
theorem dX10_fetches_91 : decode cX10_fetches 91 = .ok (.iadd, 1) := by decide +kernel
theorem dX10_fetches_92 : decode cX10_fetches 92 = .ok (.iaload, 1) := by decide +kernel
theorem dX10_fetches_93 : decode cX10_fetches 93 = .ok (.iload 4, 2) := by decide +kernel
theorem dX10_fetches_95 : decode cX10_fetches 95 = .ok (.isub, 1) := by decide +kernel
theorem dX10_fetches_96 : decode cX10_fetches 96 = .ok (.iconst 0, 1) := by decide +kernel
theorem dX10_fetches_97 : decode cX10_fetches 97 = .ok (.sipush 999, 3) := by decide +kernel
theorem dX10_fetches_100 : decode cX10_fetches 100 = .ok (.invokestatic 327, 3) := by decide +kernel
theorem dX10_fetches_103 : decode cX10_fetches 103 = .ok (.iastore, 1) := by decide +kernel
theorem dX10_fetches_104 : decode cX10_fetches 104 = .ok (.aload_n 0, 1) := by decide +kernel
theorem dX10_fetches_105 : decode cX10_fetches 105 = .ok (.getfield 72, 3) := by decide +kernel
theorem dX10_fetches_108 : decode cX10_fetches 108 = .ok (.iload_n 1, 1) := by decide +kernel
theorem dX10_fetches_109 : decode cX10_fetches 109 = .ok (.bipush 8, 2) := by decide +kernel
theorem dX10_fetches_111 : decode cX10_fetches 111 = .ok (.iadd, 1) := by decide +kernel
theorem dX10_fetches_112 : decode cX10_fetches 112 = .ok (.bipush 8, 2) := by decide +kernel
theorem dX10_fetches_114 : decode cX10_fetches 114 = .ok (.iload_n 2, 1) := by decide +kernel
theorem dX10_fetches_115 : decode cX10_fetches 115 = .ok (.imul, 1) := by decide +kernel
theorem dX10_fetches_116 : decode cX10_fetches 116 = .ok (.iadd, 1) := by decide +kernel
theorem dX10_fetches_117 : decode cX10_fetches 117 = .ok (.iload_n 3, 1) := by decide +kernel
theorem dX10_fetches_118 : decode cX10_fetches 118 = .ok (.iadd, 1) := by decide +kernel
theorem dX10_fetches_119 : decode cX10_fetches 119 = .ok (.iconst 0, 1) := by decide +kernel
theorem dX10_fetches_120 : decode cX10_fetches 120 = .ok (.iastore, 1) := by decide +kernel
theorem dX10_fetches_121 : decode cX10_fetches 121 = .ok (.aload_n 0, 1) := by decide +kernel
theorem dX10_fetches_122 : decode cX10_fetches 122 = .ok (.dup, 1) := by decide +kernel
theorem dX10_fetches_123 : decode cX10_fetches 123 = .ok (.getfield 350, 3) := by decide +kernel
theorem dX10_fetches_126 : decode cX10_fetches 126 = .ok (.iload 4, 2) := by decide +kernel
theorem dX10_fetches_128 : decode cX10_fetches 128 = .ok (.iadd, 1) := by decide +kernel
theorem dX10_fetches_129 : decode cX10_fetches 129 = .ok (.putfield 350, 3) := by decide +kernel
theorem dX10_fetches_132 : decode cX10_fetches 132 = .ok (.iinc 3 1, 3) := by decide +kernel
theorem dX10_fetches_135 : decode cX10_fetches 135 = .ok (.goto (-133), 3) := by decide +kernel
theorem dX10_fetches_138 : decode cX10_fetches 138 = .ok (.return_, 1) := by decide +kernel
theorem dX10_dayGoes_0 : decode cX10_dayGoes 0 = .ok (.aload_n 0, 1) := by decide +kernel
theorem dX10_dayGoes_1 : decode cX10_dayGoes 1 = .ok (.iconst 0, 1) := by decide +kernel
theorem dX10_dayGoes_2 : decode cX10_dayGoes 2 = .ok (.putfield 350, 3) := by decide +kernel
theorem dX10_dayGoes_5 : decode cX10_dayGoes 5 = .ok (.iconst 0, 1) := by decide +kernel
theorem dX10_dayGoes_6 : decode cX10_dayGoes 6 = .ok (.istore_n 2, 1) := by decide +kernel
theorem dX10_dayGoes_7 : decode cX10_dayGoes 7 = .ok (.iload_n 2, 1) := by decide +kernel
theorem dX10_dayGoes_8 : decode cX10_dayGoes 8 = .ok (.aload_n 0, 1) := by decide +kernel
theorem dX10_dayGoes_9 : decode cX10_dayGoes 9 = .ok (.getfield 288, 3) := by decide +kernel
theorem dX10_dayGoes_12 : decode cX10_dayGoes 12 = .ok (.if_icmp .ge 15, 3) := by decide +kernel
theorem dX10_dayGoes_15 : decode cX10_dayGoes 15 = .ok (.aload_n 0, 1) := by decide +kernel
theorem dX10_dayGoes_16 : decode cX10_dayGoes 16 = .ok (.iload_n 1, 1) := by decide +kernel
theorem dX10_dayGoes_17 : decode cX10_dayGoes 17 = .ok (.iload_n 2, 1) := by decide +kernel
theorem dX10_dayGoes_18 : decode cX10_dayGoes 18 = .ok (.invokevirtual 353, 3) := by decide +kernel
theorem dX10_dayGoes_21 : decode cX10_dayGoes 21 = .ok (.iinc 2 1, 3) := by decide +kernel
theorem dX10_dayGoes_24 : decode cX10_dayGoes 24 = .ok (.goto (-17), 3) := by decide +kernel
theorem dX10_dayGoes_27 : decode cX10_dayGoes 27 = .ok (.aload_n 0, 1) := by decide +kernel
theorem dX10_dayGoes_28 : decode cX10_dayGoes 28 = .ok (.aload_n 0, 1) := by decide +kernel
theorem dX10_dayGoes_29 : decode cX10_dayGoes 29 = .ok (.getfield 72, 3) := by decide +kernel
theorem dX10_dayGoes_32 : decode cX10_dayGoes 32 = .ok (.iload_n 1, 1) := by decide +kernel
theorem dX10_dayGoes_33 : decode cX10_dayGoes 33 = .ok (.iconst 0, 1) := by decide +kernel
theorem dX10_dayGoes_34 : decode cX10_dayGoes 34 = .ok (.iadd, 1) := by decide +kernel
