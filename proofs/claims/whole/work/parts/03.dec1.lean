theorem dX9_init_0 : decode cX9_init 0 = .ok (.aload_n 0, 1) := by decide +kernel
theorem dX9_init_1 : decode cX9_init 1 = .ok (.invokespecial 1, 3) := by decide +kernel
theorem dX9_init_4 : decode cX9_init 4 = .ok (.aload_n 0, 1) := by decide +kernel
theorem dX9_init_5 : decode cX9_init 5 = .ok (.iconst 4, 1) := by decide +kernel
theorem dX9_init_6 : decode cX9_init 6 = .ok (.putfield 7, 3) := by decide +kernel
theorem dX9_init_9 : decode cX9_init 9 = .ok (.aload_n 0, 1) := by decide +kernel
theorem dX9_init_10 : decode cX9_init 10 = .ok (.iconst 5, 1) := by decide +kernel
theorem dX9_init_11 : decode cX9_init 11 = .ok (.putfield 13, 3) := by decide +kernel
theorem dX9_init_14 : decode cX9_init 14 = .ok (.aload_n 0, 1) := by decide +kernel
theorem dX9_init_15 : decode cX9_init 15 = .ok (.iconst 5, 1) := by decide +kernel
theorem dX9_init_16 : decode cX9_init 16 = .ok (.putfield 16, 3) := by decide +kernel
theorem dX9_init_19 : decode cX9_init 19 = .ok (.aload_n 0, 1) := by decide +kernel
theorem dX9_init_20 : decode cX9_init 20 = .ok (.iconst 4, 1) := by decide +kernel
theorem dX9_init_21 : decode cX9_init 21 = .ok (.newarray .long, 2) := by decide +kernel
theorem dX9_init_23 : decode cX9_init 23 = .ok (.putfield 19, 3) := by decide +kernel
theorem dX9_init_26 : decode cX9_init 26 = .ok (.aload_n 0, 1) := by decide +kernel
theorem dX9_init_27 : decode cX9_init 27 = .ok (.iconst 4, 1) := by decide +kernel
theorem dX9_init_28 : decode cX9_init 28 = .ok (.newarray .int, 2) := by decide +kernel
theorem dX9_init_30 : decode cX9_init 30 = .ok (.putfield 23, 3) := by decide +kernel
theorem dX9_init_33 : decode cX9_init 33 = .ok (.aload_n 0, 1) := by decide +kernel
theorem dX9_init_34 : decode cX9_init 34 = .ok (.bipush 12, 2) := by decide +kernel
theorem dX9_init_36 : decode cX9_init 36 = .ok (.newarray .int, 2) := by decide +kernel
theorem dX9_init_38 : decode cX9_init 38 = .ok (.putfield 27, 3) := by decide +kernel
theorem dX9_init_41 : decode cX9_init 41 = .ok (.aload_n 0, 1) := by decide +kernel
theorem dX9_init_42 : decode cX9_init 42 = .ok (.bipush 12, 2) := by decide +kernel
theorem dX9_init_44 : decode cX9_init 44 = .ok (.newarray .int, 2) := by decide +kernel
theorem dX9_init_46 : decode cX9_init 46 = .ok (.putfield 30, 3) := by decide +kernel
theorem dX9_init_49 : decode cX9_init 49 = .ok (.aload_n 0, 1) := by decide +kernel
theorem dX9_init_50 : decode cX9_init 50 = .ok (.bipush 12, 2) := by decide +kernel
theorem dX9_init_52 : decode cX9_init 52 = .ok (.newarray .int, 2) := by decide +kernel
theorem dX9_init_54 : decode cX9_init 54 = .ok (.putfield 33, 3) := by decide +kernel
theorem dX9_init_57 : decode cX9_init 57 = .ok (.aload_n 0, 1) := by decide +kernel
theorem dX9_init_58 : decode cX9_init 58 = .ok (.bipush 12, 2) := by decide +kernel
theorem dX9_init_60 : decode cX9_init 60 = .ok (.newarray .int, 2) := by decide +kernel
theorem dX9_init_62 : decode cX9_init 62 = .ok (.putfield 36, 3) := by decide +kernel
theorem dX9_init_65 : decode cX9_init 65 = .ok (.aload_n 0, 1) := by decide +kernel
theorem dX9_init_66 : decode cX9_init 66 = .ok (.iconst 4, 1) := by decide +kernel
theorem dX9_init_67 : decode cX9_init 67 = .ok (.newarray .long, 2) := by decide +kernel
theorem dX9_init_69 : decode cX9_init 69 = .ok (.putfield 39, 3) := by decide +kernel
theorem dX9_init_72 : decode cX9_init 72 = .ok (.aload_n 0, 1) := by decide +kernel
theorem dX9_init_73 : decode cX9_init 73 = .ok (.iconst 4, 1) := by decide +kernel
theorem dX9_init_74 : decode cX9_init 74 = .ok (.newarray .int, 2) := by decide +kernel
theorem dX9_init_76 : decode cX9_init 76 = .ok (.putfield 42, 3) := by decide +kernel
theorem dX9_init_79 : decode cX9_init 79 = .ok (.aload_n 0, 1) := by decide +kernel
theorem dX9_init_80 : decode cX9_init 80 = .ok (.bipush 12, 2) := by decide +kernel
theorem dX9_init_82 : decode cX9_init 82 = .ok (.newarray .int, 2) := by decide +kernel
theorem dX9_init_84 : decode cX9_init 84 = .ok (.putfield 45, 3) := by decide +kernel
theorem dX9_init_87 : decode cX9_init 87 = .ok (.aload_n 0, 1) := by decide +kernel
theorem dX9_init_88 : decode cX9_init 88 = .ok (.bipush 12, 2) := by decide +kernel
theorem dX9_init_90 : decode cX9_init 90 = .ok (.newarray .int, 2) := by decide +kernel
theorem dX9_init_92 : decode cX9_init 92 = .ok (.putfield 48, 3) := by decide +kernel
theorem dX9_init_95 : decode cX9_init 95 = .ok (.aload_n 0, 1) := by decide +kernel
theorem dX9_init_96 : decode cX9_init 96 = .ok (.bipush 12, 2) := by decide +kernel
theorem dX9_init_98 : decode cX9_init 98 = .ok (.newarray .int, 2) := by decide +kernel
theorem dX9_init_100 : decode cX9_init 100 = .ok (.putfield 51, 3) := by decide +kernel
theorem dX9_init_103 : decode cX9_init 103 = .ok (.aload_n 0, 1) := by decide +kernel
theorem dX9_init_104 : decode cX9_init 104 = .ok (.bipush 12, 2) := by decide +kernel
theorem dX9_init_106 : decode cX9_init 106 = .ok (.newarray .int, 2) := by decide +kernel
theorem dX9_init_108 : decode cX9_init 108 = .ok (.putfield 54, 3) := by decide +kernel
theorem dX9_init_111 : decode cX9_init 111 = .ok (.aload_n 0, 1) := by decide +kernel
theorem dX9_init_112 : decode cX9_init 112 = .ok (.iconst (-1), 1) := by decide +kernel
theorem dX9_init_113 : decode cX9_init 113 = .ok (.putfield 57, 3) := by decide +kernel
theorem dX9_init_116 : decode cX9_init 116 = .ok (.aload_n 0, 1) := by decide +kernel
theorem dX9_init_117 : decode cX9_init 117 = .ok (.sipush 800, 3) := by decide +kernel
theorem dX9_init_120 : decode cX9_init 120 = .ok (.newarray .byte, 2) := by decide +kernel
theorem dX9_init_122 : decode cX9_init 122 = .ok (.putfield 60, 3) := by decide +kernel
theorem dX9_init_125 : decode cX9_init 125 = .ok (.aload_n 0, 1) := by decide +kernel
theorem dX9_init_126 : decode cX9_init 126 = .ok (.sipush 800, 3) := by decide +kernel
theorem dX9_init_129 : decode cX9_init 129 = .ok (.newarray .byte, 2) := by decide +kernel
theorem dX9_init_131 : decode cX9_init 131 = .ok (.putfield 64, 3) := by decide +kernel
theorem dX9_init_134 : decode cX9_init 134 = .ok (.aload_n 0, 1) := by decide +kernel
theorem dX9_init_135 : decode cX9_init 135 = .ok (.iconst (-1), 1) := by decide +kernel
theorem dX9_init_136 : decode cX9_init 136 = .ok (.putfield 67, 3) := by decide +kernel
theorem dX9_init_139 : decode cX9_init 139 = .ok (.aload_n 0, 1) := by decide +kernel
theorem dX9_init_140 : decode cX9_init 140 = .ok (.iconst 4, 1) := by decide +kernel
theorem dX9_init_141 : decode cX9_init 141 = .ok (.newarray .int, 2) := by decide +kernel
theorem dX9_init_143 : decode cX9_init 143 = .ok (.putfield 70, 3) := by decide +kernel
theorem dX9_init_146 : decode cX9_init 146 = .ok (.aload_n 0, 1) := by decide +kernel
theorem dX9_init_147 : decode cX9_init 147 = .ok (.iconst 4, 1) := by decide +kernel
theorem dX9_init_148 : decode cX9_init 148 = .ok (.newarray .int, 2) := by decide +kernel
theorem dX9_init_150 : decode cX9_init 150 = .ok (.putfield 73, 3) := by decide +kernel
theorem dX9_init_153 : decode cX9_init 153 = .ok (.aload_n 0, 1) := by decide +kernel
theorem dX9_init_154 : decode cX9_init 154 = .ok (.bipush 32, 2) := by decide +kernel
theorem dX9_init_156 : decode cX9_init 156 = .ok (.newarray .int, 2) := by decide +kernel
theorem dX9_init_158 : decode cX9_init 158 = .ok (.putfield 76, 3) := by decide +kernel
theorem dX9_init_161 : decode cX9_init 161 = .ok (.aload_n 0, 1) := by decide +kernel
theorem dX9_init_162 : decode cX9_init 162 = .ok (.bipush 32, 2) := by decide +kernel
theorem dX9_init_164 : decode cX9_init 164 = .ok (.newarray .int, 2) := by decide +kernel
theorem dX9_init_166 : decode cX9_init 166 = .ok (.putfield 79, 3) := by decide +kernel
theorem dX9_init_169 : decode cX9_init 169 = .ok (.aload_n 0, 1) := by decide +kernel
theorem dX9_init_170 : decode cX9_init 170 = .ok (.bipush 6, 2) := by decide +kernel
theorem dX9_init_172 : decode cX9_init 172 = .ok (.newarray .int, 2) := by decide +kernel
theorem dX9_init_174 : decode cX9_init 174 = .ok (.putfield 82, 3) := by decide +kernel
theorem dX9_init_177 : decode cX9_init 177 = .ok (.aload_n 0, 1) := by decide +kernel
theorem dX9_init_178 : decode cX9_init 178 = .ok (.bipush 6, 2) := by decide +kernel
theorem dX9_init_180 : decode cX9_init 180 = .ok (.newarray .int, 2) := by decide +kernel
theorem dX9_init_182 : decode cX9_init 182 = .ok (.putfield 85, 3) := by decide +kernel
theorem dX9_init_185 : decode cX9_init 185 = .ok (.aload_n 0, 1) := by decide +kernel
theorem dX9_init_186 : decode cX9_init 186 = .ok (.iconst 4, 1) := by decide +kernel
theorem dX9_init_187 : decode cX9_init 187 = .ok (.newarray .int, 2) := by decide +kernel
theorem dX9_init_189 : decode cX9_init 189 = .ok (.putfield 88, 3) := by decide +kernel
theorem dX9_init_192 : decode cX9_init 192 = .ok (.aload_n 0, 1) := by decide +kernel
theorem dX9_init_193 : decode cX9_init 193 = .ok (.iconst 4, 1) := by decide +kernel
theorem dX9_init_194 : decode cX9_init 194 = .ok (.newarray .long, 2) := by decide +kernel
theorem dX9_init_196 : decode cX9_init 196 = .ok (.putfield 91, 3) := by decide +kernel
theorem dX9_init_199 : decode cX9_init 199 = .ok (.aload_n 0, 1) := by decide +kernel
theorem dX9_init_200 : decode cX9_init 200 = .ok (.iconst 4, 1) := by decide +kernel
theorem dX9_init_201 : decode cX9_init 201 = .ok (.newarray .long, 2) := by decide +kernel
theorem dX9_init_203 : decode cX9_init 203 = .ok (.putfield 94, 3) := by decide +kernel
theorem dX9_init_206 : decode cX9_init 206 = .ok (.aload_n 0, 1) := by decide +kernel
theorem dX9_init_207 : decode cX9_init 207 = .ok (.bipush 12, 2) := by decide +kernel
theorem dX9_init_209 : decode cX9_init 209 = .ok (.newarray .long, 2) := by decide +kernel
theorem dX9_init_211 : decode cX9_init 211 = .ok (.putfield 97, 3) := by decide +kernel
theorem dX9_init_214 : decode cX9_init 214 = .ok (.aload_n 0, 1) := by decide +kernel
theorem dX9_init_215 : decode cX9_init 215 = .ok (.bipush 12, 2) := by decide +kernel
theorem dX9_init_217 : decode cX9_init 217 = .ok (.newarray .long, 2) := by decide +kernel
theorem dX9_init_219 : decode cX9_init 219 = .ok (.putfield 100, 3) := by decide +kernel
theorem dX9_init_222 : decode cX9_init 222 = .ok (.aload_n 0, 1) := by decide +kernel
theorem dX9_init_223 : decode cX9_init 223 = .ok (.bipush 12, 2) := by decide +kernel
theorem dX9_init_225 : decode cX9_init 225 = .ok (.newarray .long, 2) := by decide +kernel
theorem dX9_init_227 : decode cX9_init 227 = .ok (.putfield 103, 3) := by decide +kernel
theorem dX9_init_230 : decode cX9_init 230 = .ok (.aload_n 0, 1) := by decide +kernel
theorem dX9_init_231 : decode cX9_init 231 = .ok (.bipush 12, 2) := by decide +kernel
theorem dX9_init_233 : decode cX9_init 233 = .ok (.newarray .int, 2) := by decide +kernel
theorem dX9_init_235 : decode cX9_init 235 = .ok (.putfield 106, 3) := by decide +kernel
theorem dX9_init_238 : decode cX9_init 238 = .ok (.aload_n 0, 1) := by decide +kernel
theorem dX9_init_239 : decode cX9_init 239 = .ok (.bipush 8, 2) := by decide +kernel
theorem dX9_init_241 : decode cX9_init 241 = .ok (.newarray .int, 2) := by decide +kernel
theorem dX9_init_243 : decode cX9_init 243 = .ok (.putfield 109, 3) := by decide +kernel
theorem dX9_init_246 : decode cX9_init 246 = .ok (.aload_n 0, 1) := by decide +kernel
theorem dX9_init_247 : decode cX9_init 247 = .ok (.sipush 16384, 3) := by decide +kernel
theorem dX9_init_250 : decode cX9_init 250 = .ok (.newarray .long, 2) := by decide +kernel
theorem dX9_init_252 : decode cX9_init 252 = .ok (.putfield 112, 3) := by decide +kernel
theorem dX9_init_255 : decode cX9_init 255 = .ok (.aload_n 0, 1) := by decide +kernel
theorem dX9_init_256 : decode cX9_init 256 = .ok (.iconst 4, 1) := by decide +kernel
theorem dX9_init_257 : decode cX9_init 257 = .ok (.newarray .long, 2) := by decide +kernel
theorem dX9_init_259 : decode cX9_init 259 = .ok (.putfield 115, 3) := by decide +kernel
theorem dX9_init_262 : decode cX9_init 262 = .ok (.aload_n 0, 1) := by decide +kernel
theorem dX9_init_263 : decode cX9_init 263 = .ok (.iconst 4, 1) := by decide +kernel
theorem dX9_init_264 : decode cX9_init 264 = .ok (.newarray .long, 2) := by decide +kernel
theorem dX9_init_266 : decode cX9_init 266 = .ok (.putfield 118, 3) := by decide +kernel
theorem dX9_init_269 : decode cX9_init 269 = .ok (.aload_n 0, 1) := by decide +kernel
theorem dX9_init_270 : decode cX9_init 270 = .ok (.sipush 2196, 3) := by decide +kernel
theorem dX9_init_273 : decode cX9_init 273 = .ok (.newarray .int, 2) := by decide +kernel
theorem dX9_init_275 : decode cX9_init 275 = .ok (.putfield 121, 3) := by decide +kernel
theorem dX9_init_278 : decode cX9_init 278 = .ok (.aload_n 0, 1) := by decide +kernel
theorem dX9_init_279 : decode cX9_init 279 = .ok (.bipush 8, 2) := by decide +kernel
theorem dX9_init_281 : decode cX9_init 281 = .ok (.newarray .int, 2) := by decide +kernel
theorem dX9_init_283 : decode cX9_init 283 = .ok (.putfield 124, 3) := by decide +kernel
theorem dX9_init_286 : decode cX9_init 286 = .ok (.aload_n 0, 1) := by decide +kernel
theorem dX9_init_287 : decode cX9_init 287 = .ok (.sipush 228, 3) := by decide +kernel
theorem dX9_init_290 : decode cX9_init 290 = .ok (.newarray .int, 2) := by decide +kernel
theorem dX9_init_292 : decode cX9_init 292 = .ok (.putfield 127, 3) := by decide +kernel
theorem dX9_init_295 : decode cX9_init 295 = .ok (.return_, 1) := by decide +kernel
theorem dX9_isIn_0 : decode cX9_isIn 0 = .ok (.iload_n 0, 1) := by decide +kernel
theorem dX9_isIn_1 : decode cX9_isIn 1 = .ok (.iload_n 1, 1) := by decide +kernel
theorem dX9_isIn_2 : decode cX9_isIn 2 = .ok (.if_icmp .lt 12, 3) := by decide +kernel
theorem dX9_isIn_5 : decode cX9_isIn 5 = .ok (.iload_n 0, 1) := by decide +kernel
theorem dX9_isIn_6 : decode cX9_isIn 6 = .ok (.iload_n 2, 1) := by decide +kernel
theorem dX9_isIn_7 : decode cX9_isIn 7 = .ok (.if_icmp .gt 7, 3) := by decide +kernel
theorem dX9_isIn_10 : decode cX9_isIn 10 = .ok (.iconst 1, 1) := by decide +kernel
theorem dX9_isIn_11 : decode cX9_isIn 11 = .ok (.goto 4, 3) := by decide +kernel
theorem dX9_isIn_14 : decode cX9_isIn 14 = .ok (.iconst 0, 1) := by decide +kernel
theorem dX9_isIn_15 : decode cX9_isIn 15 = .ok (.ireturn, 1) := by decide +kernel
theorem dX9_one_0 : decode cX9_one 0 = .ok (.iload_n 0, 1) := by decide +kernel
theorem dX9_one_1 : decode cX9_one 1 = .ok (.ifCond .eq 7, 3) := by decide +kernel
theorem dX9_one_4 : decode cX9_one 4 = .ok (.iconst 1, 1) := by decide +kernel
theorem dX9_one_5 : decode cX9_one 5 = .ok (.goto 4, 3) := by decide +kernel
theorem dX9_one_8 : decode cX9_one 8 = .ok (.iconst 0, 1) := by decide +kernel
theorem dX9_one_9 : decode cX9_one 9 = .ok (.ireturn, 1) := by decide +kernel
theorem dX9_has_0 : decode cX9_has 0 = .ok (.iload_n 0, 1) := by decide +kernel
theorem dX9_has_1 : decode cX9_has 1 = .ok (.iload_n 1, 1) := by decide +kernel
theorem dX9_has_2 : decode cX9_has 2 = .ok (.ishr, 1) := by decide +kernel
theorem dX9_has_3 : decode cX9_has 3 = .ok (.iconst 1, 1) := by decide +kernel
theorem dX9_has_4 : decode cX9_has 4 = .ok (.iand, 1) := by decide +kernel
theorem dX9_has_5 : decode cX9_has 5 = .ok (.iconst 1, 1) := by decide +kernel
theorem dX9_has_6 : decode cX9_has 6 = .ok (.if_icmp .ne 7, 3) := by decide +kernel
theorem dX9_has_9 : decode cX9_has 9 = .ok (.iconst 1, 1) := by decide +kernel
theorem dX9_has_10 : decode cX9_has 10 = .ok (.goto 4, 3) := by decide +kernel
theorem dX9_has_13 : decode cX9_has 13 = .ok (.iconst 0, 1) := by decide +kernel
theorem dX9_has_14 : decode cX9_has 14 = .ok (.ireturn, 1) := by decide +kernel
theorem dX9_bits_0 : decode cX9_bits 0 = .ok (.iconst 0, 1) := by decide +kernel
theorem dX9_bits_1 : decode cX9_bits 1 = .ok (.istore_n 1, 1) := by decide +kernel
theorem dX9_bits_2 : decode cX9_bits 2 = .ok (.iload_n 0, 1) := by decide +kernel
theorem dX9_bits_3 : decode cX9_bits 3 = .ok (.istore_n 2, 1) := by decide +kernel
theorem dX9_bits_4 : decode cX9_bits 4 = .ok (.iload_n 2, 1) := by decide +kernel
theorem dX9_bits_5 : decode cX9_bits 5 = .ok (.ifCond .le 16, 3) := by decide +kernel
theorem dX9_bits_8 : decode cX9_bits 8 = .ok (.iload_n 1, 1) := by decide +kernel
theorem dX9_bits_9 : decode cX9_bits 9 = .ok (.iload_n 2, 1) := by decide +kernel
theorem dX9_bits_10 : decode cX9_bits 10 = .ok (.iconst 1, 1) := by decide +kernel
theorem dX9_bits_11 : decode cX9_bits 11 = .ok (.iand, 1) := by decide +kernel
theorem dX9_bits_12 : decode cX9_bits 12 = .ok (.iadd, 1) := by decide +kernel
theorem dX9_bits_13 : decode cX9_bits 13 = .ok (.istore_n 1, 1) := by decide +kernel
theorem dX9_bits_14 : decode cX9_bits 14 = .ok (.iload_n 2, 1) := by decide +kernel
theorem dX9_bits_15 : decode cX9_bits 15 = .ok (.iconst 1, 1) := by decide +kernel
theorem dX9_bits_16 : decode cX9_bits 16 = .ok (.ishr, 1) := by decide +kernel
theorem dX9_bits_17 : decode cX9_bits 17 = .ok (.istore_n 2, 1) := by decide +kernel
theorem dX9_bits_18 : decode cX9_bits 18 = .ok (.goto (-14), 3) := by decide +kernel
theorem dX9_bits_21 : decode cX9_bits 21 = .ok (.iload_n 1, 1) := by decide +kernel
theorem dX9_bits_22 : decode cX9_bits 22 = .ok (.ireturn, 1) := by decide +kernel
theorem dX9_feed_0 : decode cX9_feed 0 = .ok (.aload_n 0, 1) := by decide +kernel
theorem dX9_feed_1 : decode cX9_feed 1 = .ok (.getfield 130, 3) := by decide +kernel
theorem dX9_feed_4 : decode cX9_feed 4 = .ok (.bipush 20, 2) := by decide +kernel
theorem dX9_feed_6 : decode cX9_feed 6 = .ok (.iadd, 1) := by decide +kernel
theorem dX9_feed_7 : decode cX9_feed 7 = .ok (.sipush 800, 3) := by decide +kernel
theorem dX9_feed_10 : decode cX9_feed 10 = .ok (.if_icmp .le 5, 3) := by decide +kernel
theorem dX9_feed_13 : decode cX9_feed 13 = .ok (.iconst (-1), 1) := by decide +kernel
theorem dX9_feed_14 : decode cX9_feed 14 = .ok (.ireturn, 1) := by decide +kernel
theorem dX9_feed_15 : decode cX9_feed 15 = .ok (.aload_n 0, 1) := by decide +kernel
theorem dX9_feed_16 : decode cX9_feed 16 = .ok (.iload_n 1, 1) := by decide +kernel
theorem dX9_feed_17 : decode cX9_feed 17 = .ok (.invokevirtual 133, 3) := by decide +kernel
theorem dX9_feed_20 : decode cX9_feed 20 = .ok (.aload_n 0, 1) := by decide +kernel
theorem dX9_feed_21 : decode cX9_feed 21 = .ok (.iload_n 2, 1) := by decide +kernel
theorem dX9_feed_22 : decode cX9_feed 22 = .ok (.invokevirtual 133, 3) := by decide +kernel
theorem dX9_feed_25 : decode cX9_feed 25 = .ok (.aload_n 0, 1) := by decide +kernel
theorem dX9_feed_26 : decode cX9_feed 26 = .ok (.iload_n 3, 1) := by decide +kernel
theorem dX9_feed_27 : decode cX9_feed 27 = .ok (.invokevirtual 133, 3) := by decide +kernel
theorem dX9_feed_30 : decode cX9_feed 30 = .ok (.aload_n 0, 1) := by decide +kernel
theorem dX9_feed_31 : decode cX9_feed 31 = .ok (.iload 4, 2) := by decide +kernel
theorem dX9_feed_33 : decode cX9_feed 33 = .ok (.invokevirtual 133, 3) := by decide +kernel
theorem dX9_feed_36 : decode cX9_feed 36 = .ok (.aload_n 0, 1) := by decide +kernel
theorem dX9_feed_37 : decode cX9_feed 37 = .ok (.iload 5, 2) := by decide +kernel
theorem dX9_feed_39 : decode cX9_feed 39 = .ok (.invokevirtual 133, 3) := by decide +kernel
theorem dX9_feed_42 : decode cX9_feed 42 = .ok (.aload_n 0, 1) := by decide +kernel
theorem dX9_feed_43 : decode cX9_feed 43 = .ok (.getfield 130, 3) := by decide +kernel
theorem dX9_feed_46 : decode cX9_feed 46 = .ok (.ireturn, 1) := by decide +kernel
theorem dX9_four_0 : decode cX9_four 0 = .ok (.bipush 24, 2) := by decide +kernel
theorem dX9_four_2 : decode cX9_four 2 = .ok (.istore_n 2, 1) := by decide +kernel
theorem dX9_four_3 : decode cX9_four 3 = .ok (.iload_n 2, 1) := by decide +kernel
theorem dX9_four_4 : decode cX9_four 4 = .ok (.ifCond .lt 32, 3) := by decide +kernel
theorem dX9_four_7 : decode cX9_four 7 = .ok (.aload_n 0, 1) := by decide +kernel
theorem dX9_four_8 : decode cX9_four 8 = .ok (.getfield 60, 3) := by decide +kernel
theorem dX9_four_11 : decode cX9_four 11 = .ok (.aload_n 0, 1) := by decide +kernel
theorem dX9_four_12 : decode cX9_four 12 = .ok (.getfield 130, 3) := by decide +kernel
theorem dX9_four_15 : decode cX9_four 15 = .ok (.iload_n 1, 1) := by decide +kernel
theorem dX9_four_16 : decode cX9_four 16 = .ok (.iload_n 2, 1) := by decide +kernel
theorem dX9_four_17 : decode cX9_four 17 = .ok (.ishr, 1) := by decide +kernel
theorem dX9_four_18 : decode cX9_four 18 = .ok (.i2b, 1) := by decide +kernel
theorem dX9_four_19 : decode cX9_four 19 = .ok (.bastore, 1) := by decide +kernel
theorem dX9_four_20 : decode cX9_four 20 = .ok (.aload_n 0, 1) := by decide +kernel
theorem dX9_four_21 : decode cX9_four 21 = .ok (.dup, 1) := by decide +kernel
theorem dX9_four_22 : decode cX9_four 22 = .ok (.getfield 130, 3) := by decide +kernel
theorem dX9_four_25 : decode cX9_four 25 = .ok (.iconst 1, 1) := by decide +kernel
theorem dX9_four_26 : decode cX9_four 26 = .ok (.iadd, 1) := by decide +kernel
theorem dX9_four_27 : decode cX9_four 27 = .ok (.putfield 130, 3) := by decide +kernel
theorem dX9_four_30 : decode cX9_four 30 = .ok (.iinc 2 (-8), 3) := by decide +kernel
theorem dX9_four_33 : decode cX9_four 33 = .ok (.goto (-30), 3) := by decide +kernel
theorem dX9_four_36 : decode cX9_four 36 = .ok (.return_, 1) := by decide +kernel
theorem dX9_blanks_0 : decode cX9_blanks 0 = .ok (.aload_n 0, 1) := by decide +kernel
theorem dX9_blanks_1 : decode cX9_blanks 1 = .ok (.getfield 137, 3) := by decide +kernel
theorem dX9_blanks_4 : decode cX9_blanks 4 = .ok (.aload_n 0, 1) := by decide +kernel
theorem dX9_blanks_5 : decode cX9_blanks 5 = .ok (.getfield 140, 3) := by decide +kernel
theorem dX9_blanks_8 : decode cX9_blanks 8 = .ok (.if_icmp .ge 44, 3) := by decide +kernel
theorem dX9_blanks_11 : decode cX9_blanks 11 = .ok (.aload_n 0, 1) := by decide +kernel
theorem dX9_blanks_12 : decode cX9_blanks 12 = .ok (.getfield 64, 3) := by decide +kernel
theorem dX9_blanks_15 : decode cX9_blanks 15 = .ok (.aload_n 0, 1) := by decide +kernel
theorem dX9_blanks_16 : decode cX9_blanks 16 = .ok (.getfield 137, 3) := by decide +kernel
theorem dX9_blanks_19 : decode cX9_blanks 19 = .ok (.baload, 1) := by decide +kernel
theorem dX9_blanks_20 : decode cX9_blanks 20 = .ok (.bipush 32, 2) := by decide +kernel
theorem dX9_blanks_22 : decode cX9_blanks 22 = .ok (.if_icmp .eq 17, 3) := by decide +kernel
theorem dX9_blanks_25 : decode cX9_blanks 25 = .ok (.aload_n 0, 1) := by decide +kernel
theorem dX9_blanks_26 : decode cX9_blanks 26 = .ok (.getfield 64, 3) := by decide +kernel
theorem dX9_blanks_29 : decode cX9_blanks 29 = .ok (.aload_n 0, 1) := by decide +kernel
theorem dX9_blanks_30 : decode cX9_blanks 30 = .ok (.getfield 137, 3) := by decide +kernel
theorem dX9_blanks_33 : decode cX9_blanks 33 = .ok (.baload, 1) := by decide +kernel
theorem dX9_blanks_34 : decode cX9_blanks 34 = .ok (.bipush 10, 2) := by decide +kernel
theorem dX9_blanks_36 : decode cX9_blanks 36 = .ok (.if_icmp .ne 16, 3) := by decide +kernel
theorem dX9_blanks_39 : decode cX9_blanks 39 = .ok (.aload_n 0, 1) := by decide +kernel
theorem dX9_blanks_40 : decode cX9_blanks 40 = .ok (.dup, 1) := by decide +kernel
theorem dX9_blanks_41 : decode cX9_blanks 41 = .ok (.getfield 137, 3) := by decide +kernel
theorem dX9_blanks_44 : decode cX9_blanks 44 = .ok (.iconst 1, 1) := by decide +kernel
theorem dX9_blanks_45 : decode cX9_blanks 45 = .ok (.iadd, 1) := by decide +kernel
theorem dX9_blanks_46 : decode cX9_blanks 46 = .ok (.putfield 137, 3) := by decide +kernel
theorem dX9_blanks_49 : decode cX9_blanks 49 = .ok (.goto (-49), 3) := by decide +kernel
theorem dX9_blanks_52 : decode cX9_blanks 52 = .ok (.return_, 1) := by decide +kernel
theorem dX9_word_0 : decode cX9_word 0 = .ok (.aload_n 0, 1) := by decide +kernel
theorem dX9_word_1 : decode cX9_word 1 = .ok (.invokevirtual 143, 3) := by decide +kernel
theorem dX9_word_4 : decode cX9_word 4 = .ok (.aload_n 0, 1) := by decide +kernel
theorem dX9_word_5 : decode cX9_word 5 = .ok (.aload_n 0, 1) := by decide +kernel
theorem dX9_word_6 : decode cX9_word 6 = .ok (.getfield 137, 3) := by decide +kernel
theorem dX9_word_9 : decode cX9_word 9 = .ok (.putfield 146, 3) := by decide +kernel
theorem dX9_word_12 : decode cX9_word 12 = .ok (.lconst 0, 1) := by decide +kernel
theorem dX9_word_13 : decode cX9_word 13 = .ok (.lstore_n 1, 1) := by decide +kernel
theorem dX9_word_14 : decode cX9_word 14 = .ok (.aload_n 0, 1) := by decide +kernel
theorem dX9_word_15 : decode cX9_word 15 = .ok (.getfield 146, 3) := by decide +kernel
theorem dX9_word_18 : decode cX9_word 18 = .ok (.aload_n 0, 1) := by decide +kernel
theorem dX9_word_19 : decode cX9_word 19 = .ok (.getfield 140, 3) := by decide +kernel
theorem dX9_word_22 : decode cX9_word 22 = .ok (.if_icmp .ge 78, 3) := by decide +kernel
theorem dX9_word_25 : decode cX9_word 25 = .ok (.aload_n 0, 1) := by decide +kernel
theorem dX9_word_26 : decode cX9_word 26 = .ok (.getfield 64, 3) := by decide +kernel
theorem dX9_word_29 : decode cX9_word 29 = .ok (.aload_n 0, 1) := by decide +kernel
theorem dX9_word_30 : decode cX9_word 30 = .ok (.getfield 146, 3) := by decide +kernel
theorem dX9_word_33 : decode cX9_word 33 = .ok (.baload, 1) := by decide +kernel
theorem dX9_word_34 : decode cX9_word 34 = .ok (.bipush 97, 2) := by decide +kernel
theorem dX9_word_36 : decode cX9_word 36 = .ok (.if_icmp .lt 64, 3) := by decide +kernel
theorem dX9_word_39 : decode cX9_word 39 = .ok (.aload_n 0, 1) := by decide +kernel
theorem dX9_word_40 : decode cX9_word 40 = .ok (.getfield 64, 3) := by decide +kernel
theorem dX9_word_43 : decode cX9_word 43 = .ok (.aload_n 0, 1) := by decide +kernel
theorem dX9_word_44 : decode cX9_word 44 = .ok (.getfield 146, 3) := by decide +kernel
theorem dX9_word_47 : decode cX9_word 47 = .ok (.baload, 1) := by decide +kernel
theorem dX9_word_48 : decode cX9_word 48 = .ok (.bipush 122, 2) := by decide +kernel
theorem dX9_word_50 : decode cX9_word 50 = .ok (.if_icmp .gt 50, 3) := by decide +kernel
theorem dX9_word_53 : decode cX9_word 53 = .ok (.aload_n 0, 1) := by decide +kernel
theorem dX9_word_54 : decode cX9_word 54 = .ok (.getfield 146, 3) := by decide +kernel
theorem dX9_word_57 : decode cX9_word 57 = .ok (.aload_n 0, 1) := by decide +kernel
theorem dX9_word_58 : decode cX9_word 58 = .ok (.getfield 137, 3) := by decide +kernel
theorem dX9_word_61 : decode cX9_word 61 = .ok (.isub, 1) := by decide +kernel
theorem dX9_word_62 : decode cX9_word 62 = .ok (.bipush 8, 2) := by decide +kernel
theorem dX9_word_64 : decode cX9_word 64 = .ok (.if_icmp .ge 21, 3) := by decide +kernel
theorem dX9_word_67 : decode cX9_word 67 = .ok (.lload_n 1, 1) := by decide +kernel
theorem dX9_word_68 : decode cX9_word 68 = .ok (.bipush 8, 2) := by decide +kernel
theorem dX9_word_70 : decode cX9_word 70 = .ok (.lshl, 1) := by decide +kernel
theorem dX9_word_71 : decode cX9_word 71 = .ok (.aload_n 0, 1) := by decide +kernel
theorem dX9_word_72 : decode cX9_word 72 = .ok (.getfield 64, 3) := by decide +kernel
theorem dX9_word_75 : decode cX9_word 75 = .ok (.aload_n 0, 1) := by decide +kernel
theorem dX9_word_76 : decode cX9_word 76 = .ok (.getfield 146, 3) := by decide +kernel
theorem dX9_word_79 : decode cX9_word 79 = .ok (.baload, 1) := by decide +kernel
theorem dX9_word_80 : decode cX9_word 80 = .ok (.i2l, 1) := by decide +kernel
theorem dX9_word_81 : decode cX9_word 81 = .ok (.lor, 1) := by decide +kernel
theorem dX9_word_82 : decode cX9_word 82 = .ok (.goto 4, 3) := by decide +kernel
theorem dX9_word_85 : decode cX9_word 85 = .ok (.lconst 0, 1) := by decide +kernel
theorem dX9_word_86 : decode cX9_word 86 = .ok (.lstore_n 1, 1) := by decide +kernel
theorem dX9_word_87 : decode cX9_word 87 = .ok (.aload_n 0, 1) := by decide +kernel
theorem dX9_word_88 : decode cX9_word 88 = .ok (.dup, 1) := by decide +kernel
theorem dX9_word_89 : decode cX9_word 89 = .ok (.getfield 146, 3) := by decide +kernel
theorem dX9_word_92 : decode cX9_word 92 = .ok (.iconst 1, 1) := by decide +kernel
theorem dX9_word_93 : decode cX9_word 93 = .ok (.iadd, 1) := by decide +kernel
theorem dX9_word_94 : decode cX9_word 94 = .ok (.putfield 146, 3) := by decide +kernel
theorem dX9_word_97 : decode cX9_word 97 = .ok (.goto (-83), 3) := by decide +kernel
theorem dX9_word_100 : decode cX9_word 100 = .ok (.aload_n 0, 1) := by decide +kernel
theorem dX9_word_101 : decode cX9_word 101 = .ok (.getfield 146, 3) := by decide +kernel
theorem dX9_word_104 : decode cX9_word 104 = .ok (.aload_n 0, 1) := by decide +kernel
theorem dX9_word_105 : decode cX9_word 105 = .ok (.getfield 137, 3) := by decide +kernel
theorem dX9_word_108 : decode cX9_word 108 = .ok (.isub, 1) := by decide +kernel
theorem dX9_word_109 : decode cX9_word 109 = .ok (.bipush 8, 2) := by decide +kernel
theorem dX9_word_111 : decode cX9_word 111 = .ok (.if_icmp .le 7, 3) := by decide +kernel
theorem dX9_word_114 : decode cX9_word 114 = .ok (.lconst 0, 1) := by decide +kernel
theorem dX9_word_115 : decode cX9_word 115 = .ok (.goto 4, 3) := by decide +kernel
theorem dX9_word_118 : decode cX9_word 118 = .ok (.lload_n 1, 1) := by decide +kernel
theorem dX9_word_119 : decode cX9_word 119 = .ok (.lreturn, 1) := by decide +kernel
theorem dX9_takes_0 : decode cX9_takes 0 = .ok (.aload_n 0, 1) := by decide +kernel
theorem dX9_takes_1 : decode cX9_takes 1 = .ok (.invokevirtual 149, 3) := by decide +kernel
theorem dX9_takes_4 : decode cX9_takes 4 = .ok (.lload_n 1, 1) := by decide +kernel
theorem dX9_takes_5 : decode cX9_takes 5 = .ok (.lcmp, 1) := by decide +kernel
theorem dX9_takes_6 : decode cX9_takes 6 = .ok (.ifCond .eq 5, 3) := by decide +kernel
theorem dX9_takes_9 : decode cX9_takes 9 = .ok (.iconst 0, 1) := by decide +kernel
theorem dX9_takes_10 : decode cX9_takes 10 = .ok (.ireturn, 1) := by decide +kernel
theorem dX9_takes_11 : decode cX9_takes 11 = .ok (.aload_n 0, 1) := by decide +kernel
theorem dX9_takes_12 : decode cX9_takes 12 = .ok (.aload_n 0, 1) := by decide +kernel
theorem dX9_takes_13 : decode cX9_takes 13 = .ok (.getfield 146, 3) := by decide +kernel
theorem dX9_takes_16 : decode cX9_takes 16 = .ok (.putfield 137, 3) := by decide +kernel
theorem dX9_takes_19 : decode cX9_takes 19 = .ok (.iconst 1, 1) := by decide +kernel
theorem dX9_takes_20 : decode cX9_takes 20 = .ok (.ireturn, 1) := by decide +kernel
theorem dX9_takesSign_0 : decode cX9_takesSign 0 = .ok (.aload_n 0, 1) := by decide +kernel
theorem dX9_takesSign_1 : decode cX9_takesSign 1 = .ok (.invokevirtual 143, 3) := by decide +kernel
theorem dX9_takesSign_4 : decode cX9_takesSign 4 = .ok (.aload_n 0, 1) := by decide +kernel
theorem dX9_takesSign_5 : decode cX9_takesSign 5 = .ok (.getfield 137, 3) := by decide +kernel
theorem dX9_takesSign_8 : decode cX9_takesSign 8 = .ok (.aload_n 0, 1) := by decide +kernel
theorem dX9_takesSign_9 : decode cX9_takesSign 9 = .ok (.getfield 140, 3) := by decide +kernel
theorem dX9_takesSign_12 : decode cX9_takesSign 12 = .ok (.if_icmp .eq 16, 3) := by decide +kernel
theorem dX9_takesSign_15 : decode cX9_takesSign 15 = .ok (.aload_n 0, 1) := by decide +kernel
theorem dX9_takesSign_16 : decode cX9_takesSign 16 = .ok (.getfield 64, 3) := by decide +kernel
theorem dX9_takesSign_19 : decode cX9_takesSign 19 = .ok (.aload_n 0, 1) := by decide +kernel
theorem dX9_takesSign_20 : decode cX9_takesSign 20 = .ok (.getfield 137, 3) := by decide +kernel
theorem dX9_takesSign_23 : decode cX9_takesSign 23 = .ok (.baload, 1) := by decide +kernel
theorem dX9_takesSign_24 : decode cX9_takesSign 24 = .ok (.iload_n 1, 1) := by decide +kernel
theorem dX9_takesSign_25 : decode cX9_takesSign 25 = .ok (.if_icmp .eq 5, 3) := by decide +kernel
theorem dX9_takesSign_28 : decode cX9_takesSign 28 = .ok (.iconst 0, 1) := by decide +kernel
theorem dX9_takesSign_29 : decode cX9_takesSign 29 = .ok (.ireturn, 1) := by decide +kernel
theorem dX9_takesSign_30 : decode cX9_takesSign 30 = .ok (.aload_n 0, 1) := by decide +kernel
theorem dX9_takesSign_31 : decode cX9_takesSign 31 = .ok (.dup, 1) := by decide +kernel
theorem dX9_takesSign_32 : decode cX9_takesSign 32 = .ok (.getfield 137, 3) := by decide +kernel
theorem dX9_takesSign_35 : decode cX9_takesSign 35 = .ok (.iconst 1, 1) := by decide +kernel
theorem dX9_takesSign_36 : decode cX9_takesSign 36 = .ok (.iadd, 1) := by decide +kernel
theorem dX9_takesSign_37 : decode cX9_takesSign 37 = .ok (.putfield 137, 3) := by decide +kernel
theorem dX9_takesSign_40 : decode cX9_takesSign 40 = .ok (.iconst 1, 1) := by decide +kernel
theorem dX9_takesSign_41 : decode cX9_takesSign 41 = .ok (.ireturn, 1) := by decide +kernel
theorem dX9_takesNumber_0 : decode cX9_takesNumber 0 = .ok (.aload_n 0, 1) := by decide +kernel
theorem dX9_takesNumber_1 : decode cX9_takesNumber 1 = .ok (.invokevirtual 143, 3) := by decide +kernel
theorem dX9_takesNumber_4 : decode cX9_takesNumber 4 = .ok (.aload_n 0, 1) := by decide +kernel
theorem dX9_takesNumber_5 : decode cX9_takesNumber 5 = .ok (.getfield 137, 3) := by decide +kernel
theorem dX9_takesNumber_8 : decode cX9_takesNumber 8 = .ok (.istore_n 3, 1) := by decide +kernel
theorem dX9_takesNumber_9 : decode cX9_takesNumber 9 = .ok (.aload_n 0, 1) := by decide +kernel
theorem dX9_takesNumber_10 : decode cX9_takesNumber 10 = .ok (.iconst 0, 1) := by decide +kernel
theorem dX9_takesNumber_11 : decode cX9_takesNumber 11 = .ok (.putfield 153, 3) := by decide +kernel
theorem dX9_takesNumber_14 : decode cX9_takesNumber 14 = .ok (.iload_n 3, 1) := by decide +kernel
theorem dX9_takesNumber_15 : decode cX9_takesNumber 15 = .ok (.aload_n 0, 1) := by decide +kernel
theorem dX9_takesNumber_16 : decode cX9_takesNumber 16 = .ok (.getfield 140, 3) := by decide +kernel
theorem dX9_takesNumber_19 : decode cX9_takesNumber 19 = .ok (.if_icmp .ge 62, 3) := by decide +kernel
theorem dX9_takesNumber_22 : decode cX9_takesNumber 22 = .ok (.aload_n 0, 1) := by decide +kernel
theorem dX9_takesNumber_23 : decode cX9_takesNumber 23 = .ok (.getfield 64, 3) := by decide +kernel
theorem dX9_takesNumber_26 : decode cX9_takesNumber 26 = .ok (.iload_n 3, 1) := by decide +kernel
theorem dX9_takesNumber_27 : decode cX9_takesNumber 27 = .ok (.baload, 1) := by decide +kernel
theorem dX9_takesNumber_28 : decode cX9_takesNumber 28 = .ok (.bipush 48, 2) := by decide +kernel
theorem dX9_takesNumber_30 : decode cX9_takesNumber 30 = .ok (.if_icmp .lt 51, 3) := by decide +kernel
theorem dX9_takesNumber_33 : decode cX9_takesNumber 33 = .ok (.aload_n 0, 1) := by decide +kernel
theorem dX9_takesNumber_34 : decode cX9_takesNumber 34 = .ok (.getfield 64, 3) := by decide +kernel
theorem dX9_takesNumber_37 : decode cX9_takesNumber 37 = .ok (.iload_n 3, 1) := by decide +kernel
theorem dX9_takesNumber_38 : decode cX9_takesNumber 38 = .ok (.baload, 1) := by decide +kernel
theorem dX9_takesNumber_39 : decode cX9_takesNumber 39 = .ok (.bipush 57, 2) := by decide +kernel
theorem dX9_takesNumber_41 : decode cX9_takesNumber 41 = .ok (.if_icmp .gt 40, 3) := by decide +kernel
theorem dX9_takesNumber_44 : decode cX9_takesNumber 44 = .ok (.iload_n 3, 1) := by decide +kernel
theorem dX9_takesNumber_45 : decode cX9_takesNumber 45 = .ok (.aload_n 0, 1) := by decide +kernel
theorem dX9_takesNumber_46 : decode cX9_takesNumber 46 = .ok (.getfield 137, 3) := by decide +kernel
theorem dX9_takesNumber_49 : decode cX9_takesNumber 49 = .ok (.isub, 1) := by decide +kernel
theorem dX9_takesNumber_50 : decode cX9_takesNumber 50 = .ok (.iconst 4, 1) := by decide +kernel
theorem dX9_takesNumber_51 : decode cX9_takesNumber 51 = .ok (.if_icmp .ge 24, 3) := by decide +kernel
theorem dX9_takesNumber_54 : decode cX9_takesNumber 54 = .ok (.aload_n 0, 1) := by decide +kernel
theorem dX9_takesNumber_55 : decode cX9_takesNumber 55 = .ok (.bipush 10, 2) := by decide +kernel
theorem dX9_takesNumber_57 : decode cX9_takesNumber 57 = .ok (.aload_n 0, 1) := by decide +kernel
theorem dX9_takesNumber_58 : decode cX9_takesNumber 58 = .ok (.getfield 153, 3) := by decide +kernel
theorem dX9_takesNumber_61 : decode cX9_takesNumber 61 = .ok (.imul, 1) := by decide +kernel
theorem dX9_takesNumber_62 : decode cX9_takesNumber 62 = .ok (.aload_n 0, 1) := by decide +kernel
theorem dX9_takesNumber_63 : decode cX9_takesNumber 63 = .ok (.getfield 64, 3) := by decide +kernel
theorem dX9_takesNumber_66 : decode cX9_takesNumber 66 = .ok (.iload_n 3, 1) := by decide +kernel
theorem dX9_takesNumber_67 : decode cX9_takesNumber 67 = .ok (.baload, 1) := by decide +kernel
theorem dX9_takesNumber_68 : decode cX9_takesNumber 68 = .ok (.iadd, 1) := by decide +kernel
theorem dX9_takesNumber_69 : decode cX9_takesNumber 69 = .ok (.bipush 48, 2) := by decide +kernel
theorem dX9_takesNumber_71 : decode cX9_takesNumber 71 = .ok (.isub, 1) := by decide +kernel
theorem dX9_takesNumber_72 : decode cX9_takesNumber 72 = .ok (.putfield 153, 3) := by decide +kernel
theorem dX9_takesNumber_75 : decode cX9_takesNumber 75 = .ok (.iinc 3 1, 3) := by decide +kernel
theorem dX9_takesNumber_78 : decode cX9_takesNumber 78 = .ok (.goto (-64), 3) := by decide +kernel
theorem dX9_takesNumber_81 : decode cX9_takesNumber 81 = .ok (.iload_n 3, 1) := by decide +kernel
theorem dX9_takesNumber_82 : decode cX9_takesNumber 82 = .ok (.aload_n 0, 1) := by decide +kernel
theorem dX9_takesNumber_83 : decode cX9_takesNumber 83 = .ok (.getfield 137, 3) := by decide +kernel
theorem dX9_takesNumber_86 : decode cX9_takesNumber 86 = .ok (.if_icmp .eq 25, 3) := by decide +kernel
theorem dX9_takesNumber_89 : decode cX9_takesNumber 89 = .ok (.iload_n 3, 1) := by decide +kernel
theorem dX9_takesNumber_90 : decode cX9_takesNumber 90 = .ok (.aload_n 0, 1) := by decide +kernel
theorem dX9_takesNumber_91 : decode cX9_takesNumber 91 = .ok (.getfield 137, 3) := by decide +kernel
theorem dX9_takesNumber_94 : decode cX9_takesNumber 94 = .ok (.isub, 1) := by decide +kernel
theorem dX9_takesNumber_95 : decode cX9_takesNumber 95 = .ok (.iconst 4, 1) := by decide +kernel
theorem dX9_takesNumber_96 : decode cX9_takesNumber 96 = .ok (.if_icmp .gt 15, 3) := by decide +kernel
theorem dX9_takesNumber_99 : decode cX9_takesNumber 99 = .ok (.aload_n 0, 1) := by decide +kernel
theorem dX9_takesNumber_100 : decode cX9_takesNumber 100 = .ok (.getfield 153, 3) := by decide +kernel
theorem dX9_takesNumber_103 : decode cX9_takesNumber 103 = .ok (.iload_n 1, 1) := by decide +kernel
theorem dX9_takesNumber_104 : decode cX9_takesNumber 104 = .ok (.iload_n 2, 1) := by decide +kernel
theorem dX9_takesNumber_105 : decode cX9_takesNumber 105 = .ok (.invokestatic 156, 3) := by decide +kernel
theorem dX9_takesNumber_108 : decode cX9_takesNumber 108 = .ok (.ifCond .ne 5, 3) := by decide +kernel
theorem dX9_takesNumber_111 : decode cX9_takesNumber 111 = .ok (.iconst 0, 1) := by decide +kernel
theorem dX9_takesNumber_112 : decode cX9_takesNumber 112 = .ok (.ireturn, 1) := by decide +kernel
theorem dX9_takesNumber_113 : decode cX9_takesNumber 113 = .ok (.aload_n 0, 1) := by decide +kernel
theorem dX9_takesNumber_114 : decode cX9_takesNumber 114 = .ok (.iload_n 3, 1) := by decide +kernel
theorem dX9_takesNumber_115 : decode cX9_takesNumber 115 = .ok (.putfield 137, 3) := by decide +kernel
theorem dX9_takesNumber_118 : decode cX9_takesNumber 118 = .ok (.iconst 1, 1) := by decide +kernel
theorem dX9_takesNumber_119 : decode cX9_takesNumber 119 = .ok (.ireturn, 1) := by decide +kernel
theorem dX9_isKept_0 : decode cX9_isKept 0 = .ok (.lload_n 0, 1) := by decide +kernel
theorem dX9_isKept_1 : decode cX9_isKept 1 = .ok (.ldc2_w 160, 3) := by decide +kernel
theorem dX9_isKept_4 : decode cX9_isKept 4 = .ok (.lcmp, 1) := by decide +kernel
theorem dX9_isKept_5 : decode cX9_isKept 5 = .ok (.ifCond .eq 51, 3) := by decide +kernel
theorem dX9_isKept_8 : decode cX9_isKept 8 = .ok (.lload_n 0, 1) := by decide +kernel
theorem dX9_isKept_9 : decode cX9_isKept 9 = .ok (.ldc2_w 162, 3) := by decide +kernel
theorem dX9_isKept_12 : decode cX9_isKept 12 = .ok (.lcmp, 1) := by decide +kernel
theorem dX9_isKept_13 : decode cX9_isKept 13 = .ok (.ifCond .eq 43, 3) := by decide +kernel
theorem dX9_isKept_16 : decode cX9_isKept 16 = .ok (.lload_n 0, 1) := by decide +kernel
theorem dX9_isKept_17 : decode cX9_isKept 17 = .ok (.ldc2_w 164, 3) := by decide +kernel
theorem dX9_isKept_20 : decode cX9_isKept 20 = .ok (.lcmp, 1) := by decide +kernel
theorem dX9_isKept_21 : decode cX9_isKept 21 = .ok (.ifCond .eq 35, 3) := by decide +kernel
theorem dX9_isKept_24 : decode cX9_isKept 24 = .ok (.lload_n 0, 1) := by decide +kernel
theorem dX9_isKept_25 : decode cX9_isKept 25 = .ok (.ldc2_w 166, 3) := by decide +kernel
theorem dX9_isKept_28 : decode cX9_isKept 28 = .ok (.lcmp, 1) := by decide +kernel
theorem dX9_isKept_29 : decode cX9_isKept 29 = .ok (.ifCond .eq 27, 3) := by decide +kernel
theorem dX9_isKept_32 : decode cX9_isKept 32 = .ok (.lload_n 0, 1) := by decide +kernel
theorem dX9_isKept_33 : decode cX9_isKept 33 = .ok (.ldc2_w 168, 3) := by decide +kernel
theorem dX9_isKept_36 : decode cX9_isKept 36 = .ok (.lcmp, 1) := by decide +kernel
theorem dX9_isKept_37 : decode cX9_isKept 37 = .ok (.ifCond .eq 19, 3) := by decide +kernel
theorem dX9_isKept_40 : decode cX9_isKept 40 = .ok (.lload_n 0, 1) := by decide +kernel
theorem dX9_isKept_41 : decode cX9_isKept 41 = .ok (.ldc2_w 170, 3) := by decide +kernel
theorem dX9_isKept_44 : decode cX9_isKept 44 = .ok (.lcmp, 1) := by decide +kernel
theorem dX9_isKept_45 : decode cX9_isKept 45 = .ok (.ifCond .eq 11, 3) := by decide +kernel
theorem dX9_isKept_48 : decode cX9_isKept 48 = .ok (.lload_n 0, 1) := by decide +kernel
theorem dX9_isKept_49 : decode cX9_isKept 49 = .ok (.ldc2_w 172, 3) := by decide +kernel
theorem dX9_isKept_52 : decode cX9_isKept 52 = .ok (.lcmp, 1) := by decide +kernel
theorem dX9_isKept_53 : decode cX9_isKept 53 = .ok (.ifCond .ne 5, 3) := by decide +kernel
theorem dX9_isKept_56 : decode cX9_isKept 56 = .ok (.iconst 1, 1) := by decide +kernel
theorem dX9_isKept_57 : decode cX9_isKept 57 = .ok (.ireturn, 1) := by decide +kernel
theorem dX9_isKept_58 : decode cX9_isKept 58 = .ok (.lload_n 0, 1) := by decide +kernel
theorem dX9_isKept_59 : decode cX9_isKept 59 = .ok (.ldc2_w 174, 3) := by decide +kernel
theorem dX9_isKept_62 : decode cX9_isKept 62 = .ok (.lcmp, 1) := by decide +kernel
theorem dX9_isKept_63 : decode cX9_isKept 63 = .ok (.ifCond .eq 51, 3) := by decide +kernel
theorem dX9_isKept_66 : decode cX9_isKept 66 = .ok (.lload_n 0, 1) := by decide +kernel
theorem dX9_isKept_67 : decode cX9_isKept 67 = .ok (.ldc2_w 176, 3) := by decide +kernel
theorem dX9_isKept_70 : decode cX9_isKept 70 = .ok (.lcmp, 1) := by decide +kernel
theorem dX9_isKept_71 : decode cX9_isKept 71 = .ok (.ifCond .eq 43, 3) := by decide +kernel
theorem dX9_isKept_74 : decode cX9_isKept 74 = .ok (.lload_n 0, 1) := by decide +kernel
theorem dX9_isKept_75 : decode cX9_isKept 75 = .ok (.ldc2_w 178, 3) := by decide +kernel
theorem dX9_isKept_78 : decode cX9_isKept 78 = .ok (.lcmp, 1) := by decide +kernel
theorem dX9_isKept_79 : decode cX9_isKept 79 = .ok (.ifCond .eq 35, 3) := by decide +kernel
theorem dX9_isKept_82 : decode cX9_isKept 82 = .ok (.lload_n 0, 1) := by decide +kernel
theorem dX9_isKept_83 : decode cX9_isKept 83 = .ok (.ldc2_w 180, 3) := by decide +kernel
theorem dX9_isKept_86 : decode cX9_isKept 86 = .ok (.lcmp, 1) := by decide +kernel
theorem dX9_isKept_87 : decode cX9_isKept 87 = .ok (.ifCond .eq 27, 3) := by decide +kernel
theorem dX9_isKept_90 : decode cX9_isKept 90 = .ok (.lload_n 0, 1) := by decide +kernel
theorem dX9_isKept_91 : decode cX9_isKept 91 = .ok (.ldc2_w 182, 3) := by decide +kernel
theorem dX9_isKept_94 : decode cX9_isKept 94 = .ok (.lcmp, 1) := by decide +kernel
theorem dX9_isKept_95 : decode cX9_isKept 95 = .ok (.ifCond .eq 19, 3) := by decide +kernel
theorem dX9_isKept_98 : decode cX9_isKept 98 = .ok (.lload_n 0, 1) := by decide +kernel
theorem dX9_isKept_99 : decode cX9_isKept 99 = .ok (.ldc2_w 184, 3) := by decide +kernel
theorem dX9_isKept_102 : decode cX9_isKept 102 = .ok (.lcmp, 1) := by decide +kernel
theorem dX9_isKept_103 : decode cX9_isKept 103 = .ok (.ifCond .eq 11, 3) := by decide +kernel
theorem dX9_isKept_106 : decode cX9_isKept 106 = .ok (.lload_n 0, 1) := by decide +kernel
theorem dX9_isKept_107 : decode cX9_isKept 107 = .ok (.ldc2_w 186, 3) := by decide +kernel
theorem dX9_isKept_110 : decode cX9_isKept 110 = .ok (.lcmp, 1) := by decide +kernel
theorem dX9_isKept_111 : decode cX9_isKept 111 = .ok (.ifCond .ne 7, 3) := by decide +kernel
theorem dX9_isKept_114 : decode cX9_isKept 114 = .ok (.iconst 1, 1) := by decide +kernel
theorem dX9_isKept_115 : decode cX9_isKept 115 = .ok (.goto 4, 3) := by decide +kernel
theorem dX9_isKept_118 : decode cX9_isKept 118 = .ok (.iconst 0, 1) := by decide +kernel
theorem dX9_isKept_119 : decode cX9_isKept 119 = .ok (.ireturn, 1) := by decide +kernel
theorem dX9_named_0 : decode cX9_named 0 = .ok (.iconst 0, 1) := by decide +kernel
theorem dX9_named_1 : decode cX9_named 1 = .ok (.istore_n 3, 1) := by decide +kernel
theorem dX9_named_2 : decode cX9_named 2 = .ok (.iload_n 3, 1) := by decide +kernel
theorem dX9_named_3 : decode cX9_named 3 = .ok (.aload_n 0, 1) := by decide +kernel
theorem dX9_named_4 : decode cX9_named 4 = .ok (.getfield 188, 3) := by decide +kernel
theorem dX9_named_7 : decode cX9_named 7 = .ok (.if_icmp .ge 22, 3) := by decide +kernel
theorem dX9_named_10 : decode cX9_named 10 = .ok (.aload_n 0, 1) := by decide +kernel
theorem dX9_named_11 : decode cX9_named 11 = .ok (.getfield 39, 3) := by decide +kernel
theorem dX9_named_14 : decode cX9_named 14 = .ok (.iload_n 3, 1) := by decide +kernel
theorem dX9_named_15 : decode cX9_named 15 = .ok (.laload, 1) := by decide +kernel
theorem dX9_named_16 : decode cX9_named 16 = .ok (.lload_n 1, 1) := by decide +kernel
theorem dX9_named_17 : decode cX9_named 17 = .ok (.lcmp, 1) := by decide +kernel
theorem dX9_named_18 : decode cX9_named 18 = .ok (.ifCond .ne 5, 3) := by decide +kernel
theorem dX9_named_21 : decode cX9_named 21 = .ok (.iload_n 3, 1) := by decide +kernel
theorem dX9_named_22 : decode cX9_named 22 = .ok (.ireturn, 1) := by decide +kernel
theorem dX9_named_23 : decode cX9_named 23 = .ok (.iinc 3 1, 3) := by decide +kernel
theorem dX9_named_26 : decode cX9_named 26 = .ok (.goto (-24), 3) := by decide +kernel
theorem dX9_named_29 : decode cX9_named 29 = .ok (.iconst (-1), 1) := by decide +kernel
theorem dX9_named_30 : decode cX9_named 30 = .ok (.ireturn, 1) := by decide +kernel
theorem dX9_baker_0 : decode cX9_baker 0 = .ok (.aload_n 0, 1) := by decide +kernel
theorem dX9_baker_1 : decode cX9_baker 1 = .ok (.aload_n 0, 1) := by decide +kernel
theorem dX9_baker_2 : decode cX9_baker 2 = .ok (.invokevirtual 149, 3) := by decide +kernel
theorem dX9_baker_5 : decode cX9_baker 5 = .ok (.invokevirtual 191, 3) := by decide +kernel
theorem dX9_baker_8 : decode cX9_baker 8 = .ok (.istore_n 2, 1) := by decide +kernel
theorem dX9_baker_9 : decode cX9_baker 9 = .ok (.iload_n 2, 1) := by decide +kernel
theorem dX9_baker_10 : decode cX9_baker 10 = .ok (.iconst (-1), 1) := by decide +kernel
theorem dX9_baker_11 : decode cX9_baker 11 = .ok (.if_icmp .eq 11, 3) := by decide +kernel
theorem dX9_baker_14 : decode cX9_baker 14 = .ok (.iload_n 1, 1) := by decide +kernel
theorem dX9_baker_15 : decode cX9_baker 15 = .ok (.iload_n 2, 1) := by decide +kernel
theorem dX9_baker_16 : decode cX9_baker 16 = .ok (.invokestatic 195, 3) := by decide +kernel
theorem dX9_baker_19 : decode cX9_baker 19 = .ok (.ifCond .eq 5, 3) := by decide +kernel
theorem dX9_baker_22 : decode cX9_baker 22 = .ok (.iconst (-1), 1) := by decide +kernel
theorem dX9_baker_23 : decode cX9_baker 23 = .ok (.ireturn, 1) := by decide +kernel
theorem dX9_baker_24 : decode cX9_baker 24 = .ok (.aload_n 0, 1) := by decide +kernel
theorem dX9_baker_25 : decode cX9_baker 25 = .ok (.aload_n 0, 1) := by decide +kernel
theorem dX9_baker_26 : decode cX9_baker 26 = .ok (.getfield 146, 3) := by decide +kernel
theorem dX9_baker_29 : decode cX9_baker 29 = .ok (.putfield 137, 3) := by decide +kernel
theorem dX9_baker_32 : decode cX9_baker 32 = .ok (.iload_n 2, 1) := by decide +kernel
theorem dX9_baker_33 : decode cX9_baker 33 = .ok (.ireturn, 1) := by decide +kernel
theorem dX9_bakerTold_0 : decode cX9_bakerTold 0 = .ok (.aload_n 0, 1) := by decide +kernel
theorem dX9_bakerTold_1 : decode cX9_bakerTold 1 = .ok (.invokevirtual 149, 3) := by decide +kernel
theorem dX9_bakerTold_4 : decode cX9_bakerTold 4 = .ok (.lstore_n 1, 1) := by decide +kernel
theorem dX9_bakerTold_5 : decode cX9_bakerTold 5 = .ok (.lload_n 1, 1) := by decide +kernel
theorem dX9_bakerTold_6 : decode cX9_bakerTold 6 = .ok (.lconst 0, 1) := by decide +kernel
theorem dX9_bakerTold_7 : decode cX9_bakerTold 7 = .ok (.lcmp, 1) := by decide +kernel
theorem dX9_bakerTold_8 : decode cX9_bakerTold 8 = .ok (.ifCond .eq 27, 3) := by decide +kernel
theorem dX9_bakerTold_11 : decode cX9_bakerTold 11 = .ok (.lload_n 1, 1) := by decide +kernel
theorem dX9_bakerTold_12 : decode cX9_bakerTold 12 = .ok (.invokestatic 199, 3) := by decide +kernel
theorem dX9_bakerTold_15 : decode cX9_bakerTold 15 = .ok (.ifCond .ne 20, 3) := by decide +kernel
theorem dX9_bakerTold_18 : decode cX9_bakerTold 18 = .ok (.aload_n 0, 1) := by decide +kernel
theorem dX9_bakerTold_19 : decode cX9_bakerTold 19 = .ok (.lload_n 1, 1) := by decide +kernel
theorem dX9_bakerTold_20 : decode cX9_bakerTold 20 = .ok (.invokevirtual 191, 3) := by decide +kernel
theorem dX9_bakerTold_23 : decode cX9_bakerTold 23 = .ok (.iconst (-1), 1) := by decide +kernel
theorem dX9_bakerTold_24 : decode cX9_bakerTold 24 = .ok (.if_icmp .ne 11, 3) := by decide +kernel
theorem dX9_bakerTold_27 : decode cX9_bakerTold 27 = .ok (.aload_n 0, 1) := by decide +kernel
theorem dX9_bakerTold_28 : decode cX9_bakerTold 28 = .ok (.getfield 188, 3) := by decide +kernel
theorem dX9_bakerTold_31 : decode cX9_bakerTold 31 = .ok (.iconst 4, 1) := by decide +kernel
theorem dX9_bakerTold_32 : decode cX9_bakerTold 32 = .ok (.if_icmp .ne 5, 3) := by decide +kernel
theorem dX9_bakerTold_35 : decode cX9_bakerTold 35 = .ok (.iconst 0, 1) := by decide +kernel
theorem dX9_bakerTold_36 : decode cX9_bakerTold 36 = .ok (.ireturn, 1) := by decide +kernel
theorem dX9_bakerTold_37 : decode cX9_bakerTold 37 = .ok (.aload_n 0, 1) := by decide +kernel
theorem dX9_bakerTold_38 : decode cX9_bakerTold 38 = .ok (.aload_n 0, 1) := by decide +kernel
theorem dX9_bakerTold_39 : decode cX9_bakerTold 39 = .ok (.getfield 146, 3) := by decide +kernel
theorem dX9_bakerTold_42 : decode cX9_bakerTold 42 = .ok (.putfield 137, 3) := by decide +kernel
theorem dX9_bakerTold_45 : decode cX9_bakerTold 45 = .ok (.aload_n 0, 1) := by decide +kernel
theorem dX9_bakerTold_46 : decode cX9_bakerTold 46 = .ok (.getfield 39, 3) := by decide +kernel
theorem dX9_bakerTold_49 : decode cX9_bakerTold 49 = .ok (.aload_n 0, 1) := by decide +kernel
theorem dX9_bakerTold_50 : decode cX9_bakerTold 50 = .ok (.getfield 188, 3) := by decide +kernel
theorem dX9_bakerTold_53 : decode cX9_bakerTold 53 = .ok (.lload_n 1, 1) := by decide +kernel
theorem dX9_bakerTold_54 : decode cX9_bakerTold 54 = .ok (.lastore, 1) := by decide +kernel
theorem dX9_bakerTold_55 : decode cX9_bakerTold 55 = .ok (.aload_n 0, 1) := by decide +kernel
theorem dX9_bakerTold_56 : decode cX9_bakerTold 56 = .ok (.ldc2_w 162, 3) := by decide +kernel
theorem dX9_bakerTold_59 : decode cX9_bakerTold 59 = .ok (.invokevirtual 203, 3) := by decide +kernel
theorem dX9_bakerTold_62 : decode cX9_bakerTold 62 = .ok (.ifCond .eq 13, 3) := by decide +kernel
theorem dX9_bakerTold_65 : decode cX9_bakerTold 65 = .ok (.aload_n 0, 1) := by decide +kernel
theorem dX9_bakerTold_66 : decode cX9_bakerTold 66 = .ok (.iconst 0, 1) := by decide +kernel
theorem dX9_bakerTold_67 : decode cX9_bakerTold 67 = .ok (.bipush 99, 2) := by decide +kernel
theorem dX9_bakerTold_69 : decode cX9_bakerTold 69 = .ok (.invokevirtual 206, 3) := by decide +kernel
theorem dX9_bakerTold_72 : decode cX9_bakerTold 72 = .ok (.ifCond .ne 5, 3) := by decide +kernel
theorem dX9_bakerTold_75 : decode cX9_bakerTold 75 = .ok (.iconst 0, 1) := by decide +kernel
theorem dX9_bakerTold_76 : decode cX9_bakerTold 76 = .ok (.ireturn, 1) := by decide +kernel
theorem dX9_bakerTold_77 : decode cX9_bakerTold 77 = .ok (.aload_n 0, 1) := by decide +kernel
theorem dX9_bakerTold_78 : decode cX9_bakerTold 78 = .ok (.getfield 42, 3) := by decide +kernel
theorem dX9_bakerTold_81 : decode cX9_bakerTold 81 = .ok (.aload_n 0, 1) := by decide +kernel
theorem dX9_bakerTold_82 : decode cX9_bakerTold 82 = .ok (.getfield 188, 3) := by decide +kernel
theorem dX9_bakerTold_85 : decode cX9_bakerTold 85 = .ok (.aload_n 0, 1) := by decide +kernel
theorem dX9_bakerTold_86 : decode cX9_bakerTold 86 = .ok (.getfield 153, 3) := by decide +kernel
theorem dX9_bakerTold_89 : decode cX9_bakerTold 89 = .ok (.iastore, 1) := by decide +kernel
theorem dX9_bakerTold_90 : decode cX9_bakerTold 90 = .ok (.aload_n 0, 1) := by decide +kernel
theorem dX9_bakerTold_91 : decode cX9_bakerTold 91 = .ok (.dup, 1) := by decide +kernel
theorem dX9_bakerTold_92 : decode cX9_bakerTold 92 = .ok (.getfield 188, 3) := by decide +kernel
theorem dX9_bakerTold_95 : decode cX9_bakerTold 95 = .ok (.iconst 1, 1) := by decide +kernel
theorem dX9_bakerTold_96 : decode cX9_bakerTold 96 = .ok (.iadd, 1) := by decide +kernel
theorem dX9_bakerTold_97 : decode cX9_bakerTold 97 = .ok (.putfield 188, 3) := by decide +kernel
theorem dX9_bakerTold_100 : decode cX9_bakerTold 100 = .ok (.iconst 1, 1) := by decide +kernel
theorem dX9_bakerTold_101 : decode cX9_bakerTold 101 = .ok (.ireturn, 1) := by decide +kernel
theorem dX9_stepsTold_0 : decode cX9_stepsTold 0 = .ok (.aload_n 0, 1) := by decide +kernel
theorem dX9_stepsTold_1 : decode cX9_stepsTold 1 = .ok (.iconst 1, 1) := by decide +kernel
theorem dX9_stepsTold_2 : decode cX9_stepsTold 2 = .ok (.bipush 8, 2) := by decide +kernel
theorem dX9_stepsTold_4 : decode cX9_stepsTold 4 = .ok (.invokevirtual 206, 3) := by decide +kernel
theorem dX9_stepsTold_7 : decode cX9_stepsTold 7 = .ok (.ifCond .ne 5, 3) := by decide +kernel
theorem dX9_stepsTold_10 : decode cX9_stepsTold 10 = .ok (.iconst 0, 1) := by decide +kernel
theorem dX9_stepsTold_11 : decode cX9_stepsTold 11 = .ok (.ireturn, 1) := by decide +kernel
theorem dX9_stepsTold_12 : decode cX9_stepsTold 12 = .ok (.aload_n 0, 1) := by decide +kernel
theorem dX9_stepsTold_13 : decode cX9_stepsTold 13 = .ok (.aload_n 0, 1) := by decide +kernel
theorem dX9_stepsTold_14 : decode cX9_stepsTold 14 = .ok (.getfield 153, 3) := by decide +kernel
theorem dX9_stepsTold_17 : decode cX9_stepsTold 17 = .ok (.putfield 209, 3) := by decide +kernel
theorem dX9_stepsTold_20 : decode cX9_stepsTold 20 = .ok (.aload_n 0, 1) := by decide +kernel
theorem dX9_stepsTold_21 : decode cX9_stepsTold 21 = .ok (.ldc2_w 166, 3) := by decide +kernel
theorem dX9_stepsTold_24 : decode cX9_stepsTold 24 = .ok (.invokevirtual 203, 3) := by decide +kernel
theorem dX9_stepsTold_27 : decode cX9_stepsTold 27 = .ok (.ifCond .eq 13, 3) := by decide +kernel
theorem dX9_stepsTold_30 : decode cX9_stepsTold 30 = .ok (.aload_n 0, 1) := by decide +kernel
theorem dX9_stepsTold_31 : decode cX9_stepsTold 31 = .ok (.iconst 0, 1) := by decide +kernel
theorem dX9_stepsTold_32 : decode cX9_stepsTold 32 = .ok (.bipush 99, 2) := by decide +kernel
theorem dX9_stepsTold_34 : decode cX9_stepsTold 34 = .ok (.invokevirtual 206, 3) := by decide +kernel
theorem dX9_stepsTold_37 : decode cX9_stepsTold 37 = .ok (.ifCond .ne 5, 3) := by decide +kernel
theorem dX9_stepsTold_40 : decode cX9_stepsTold 40 = .ok (.iconst 0, 1) := by decide +kernel
theorem dX9_stepsTold_41 : decode cX9_stepsTold 41 = .ok (.ireturn, 1) := by decide +kernel
theorem dX9_stepsTold_42 : decode cX9_stepsTold 42 = .ok (.aload_n 0, 1) := by decide +kernel
theorem dX9_stepsTold_43 : decode cX9_stepsTold 43 = .ok (.aload_n 0, 1) := by decide +kernel
theorem dX9_stepsTold_44 : decode cX9_stepsTold 44 = .ok (.getfield 153, 3) := by decide +kernel
theorem dX9_stepsTold_47 : decode cX9_stepsTold 47 = .ok (.putfield 212, 3) := by decide +kernel
theorem dX9_stepsTold_50 : decode cX9_stepsTold 50 = .ok (.aload_n 0, 1) := by decide +kernel
theorem dX9_stepsTold_51 : decode cX9_stepsTold 51 = .ok (.ldc2_w 168, 3) := by decide +kernel
theorem dX9_stepsTold_54 : decode cX9_stepsTold 54 = .ok (.invokevirtual 203, 3) := by decide +kernel
theorem dX9_stepsTold_57 : decode cX9_stepsTold 57 = .ok (.ifCond .eq 13, 3) := by decide +kernel
theorem dX9_stepsTold_60 : decode cX9_stepsTold 60 = .ok (.aload_n 0, 1) := by decide +kernel
theorem dX9_stepsTold_61 : decode cX9_stepsTold 61 = .ok (.iconst 1, 1) := by decide +kernel
theorem dX9_stepsTold_62 : decode cX9_stepsTold 62 = .ok (.bipush 20, 2) := by decide +kernel
theorem dX9_stepsTold_64 : decode cX9_stepsTold 64 = .ok (.invokevirtual 206, 3) := by decide +kernel
theorem dX9_stepsTold_67 : decode cX9_stepsTold 67 = .ok (.ifCond .ne 5, 3) := by decide +kernel
theorem dX9_stepsTold_70 : decode cX9_stepsTold 70 = .ok (.iconst 0, 1) := by decide +kernel
theorem dX9_stepsTold_71 : decode cX9_stepsTold 71 = .ok (.ireturn, 1) := by decide +kernel
theorem dX9_stepsTold_72 : decode cX9_stepsTold 72 = .ok (.aload_n 0, 1) := by decide +kernel
theorem dX9_stepsTold_73 : decode cX9_stepsTold 73 = .ok (.aload_n 0, 1) := by decide +kernel
theorem dX9_stepsTold_74 : decode cX9_stepsTold 74 = .ok (.getfield 153, 3) := by decide +kernel
theorem dX9_stepsTold_77 : decode cX9_stepsTold 77 = .ok (.putfield 215, 3) := by decide +kernel
theorem dX9_stepsTold_80 : decode cX9_stepsTold 80 = .ok (.iconst 1, 1) := by decide +kernel
theorem dX9_stepsTold_81 : decode cX9_stepsTold 81 = .ok (.ireturn, 1) := by decide +kernel
theorem dX9_worthTold_0 : decode cX9_worthTold 0 = .ok (.aload_n 0, 1) := by decide +kernel
theorem dX9_worthTold_1 : decode cX9_worthTold 1 = .ok (.getfield 54, 3) := by decide +kernel
theorem dX9_worthTold_4 : decode cX9_worthTold 4 = .ok (.aload_n 0, 1) := by decide +kernel
theorem dX9_worthTold_5 : decode cX9_worthTold 5 = .ok (.getfield 218, 3) := by decide +kernel
theorem dX9_worthTold_8 : decode cX9_worthTold 8 = .ok (.sipush 999, 3) := by decide +kernel
theorem dX9_worthTold_11 : decode cX9_worthTold 11 = .ok (.iastore, 1) := by decide +kernel
theorem dX9_worthTold_12 : decode cX9_worthTold 12 = .ok (.aload_n 0, 1) := by decide +kernel
theorem dX9_worthTold_13 : decode cX9_worthTold 13 = .ok (.ldc2_w 180, 3) := by decide +kernel
theorem dX9_worthTold_16 : decode cX9_worthTold 16 = .ok (.invokevirtual 203, 3) := by decide +kernel
theorem dX9_worthTold_19 : decode cX9_worthTold 19 = .ok (.ifCond .eq 29, 3) := by decide +kernel
theorem dX9_worthTold_22 : decode cX9_worthTold 22 = .ok (.aload_n 0, 1) := by decide +kernel
theorem dX9_worthTold_23 : decode cX9_worthTold 23 = .ok (.iconst 0, 1) := by decide +kernel
theorem dX9_worthTold_24 : decode cX9_worthTold 24 = .ok (.sipush 999, 3) := by decide +kernel
theorem dX9_worthTold_27 : decode cX9_worthTold 27 = .ok (.invokevirtual 206, 3) := by decide +kernel
theorem dX9_worthTold_30 : decode cX9_worthTold 30 = .ok (.ifCond .ne 5, 3) := by decide +kernel
theorem dX9_worthTold_33 : decode cX9_worthTold 33 = .ok (.iconst 0, 1) := by decide +kernel
theorem dX9_worthTold_34 : decode cX9_worthTold 34 = .ok (.ireturn, 1) := by decide +kernel
theorem dX9_worthTold_35 : decode cX9_worthTold 35 = .ok (.aload_n 0, 1) := by decide +kernel
theorem dX9_worthTold_36 : decode cX9_worthTold 36 = .ok (.getfield 54, 3) := by decide +kernel
theorem dX9_worthTold_39 : decode cX9_worthTold 39 = .ok (.aload_n 0, 1) := by decide +kernel
theorem dX9_worthTold_40 : decode cX9_worthTold 40 = .ok (.getfield 218, 3) := by decide +kernel
theorem dX9_worthTold_43 : decode cX9_worthTold 43 = .ok (.aload_n 0, 1) := by decide +kernel
theorem dX9_worthTold_44 : decode cX9_worthTold 44 = .ok (.getfield 153, 3) := by decide +kernel
theorem dX9_worthTold_47 : decode cX9_worthTold 47 = .ok (.iastore, 1) := by decide +kernel
theorem dX9_worthTold_48 : decode cX9_worthTold 48 = .ok (.aload_n 0, 1) := by decide +kernel
theorem dX9_worthTold_49 : decode cX9_worthTold 49 = .ok (.dup, 1) := by decide +kernel
theorem dX9_worthTold_50 : decode cX9_worthTold 50 = .ok (.getfield 218, 3) := by decide +kernel
theorem dX9_worthTold_53 : decode cX9_worthTold 53 = .ok (.iconst 1, 1) := by decide +kernel
theorem dX9_worthTold_54 : decode cX9_worthTold 54 = .ok (.iadd, 1) := by decide +kernel
theorem dX9_worthTold_55 : decode cX9_worthTold 55 = .ok (.putfield 218, 3) := by decide +kernel
theorem dX9_worthTold_58 : decode cX9_worthTold 58 = .ok (.iconst 1, 1) := by decide +kernel
theorem dX9_worthTold_59 : decode cX9_worthTold 59 = .ok (.ireturn, 1) := by decide +kernel
theorem dX9_sortTold_0 : decode cX9_sortTold 0 = .ok (.aload_n 0, 1) := by decide +kernel
theorem dX9_sortTold_1 : decode cX9_sortTold 1 = .ok (.iconst 1, 1) := by decide +kernel
theorem dX9_sortTold_2 : decode cX9_sortTold 2 = .ok (.bipush 99, 2) := by decide +kernel
theorem dX9_sortTold_4 : decode cX9_sortTold 4 = .ok (.invokevirtual 206, 3) := by decide +kernel
theorem dX9_sortTold_7 : decode cX9_sortTold 7 = .ok (.ifCond .ne 5, 3) := by decide +kernel
theorem dX9_sortTold_10 : decode cX9_sortTold 10 = .ok (.iconst 0, 1) := by decide +kernel
theorem dX9_sortTold_11 : decode cX9_sortTold 11 = .ok (.ireturn, 1) := by decide +kernel
theorem dX9_sortTold_12 : decode cX9_sortTold 12 = .ok (.aload_n 0, 1) := by decide +kernel
theorem dX9_sortTold_13 : decode cX9_sortTold 13 = .ok (.getfield 45, 3) := by decide +kernel
theorem dX9_sortTold_16 : decode cX9_sortTold 16 = .ok (.aload_n 0, 1) := by decide +kernel
theorem dX9_sortTold_17 : decode cX9_sortTold 17 = .ok (.getfield 218, 3) := by decide +kernel
theorem dX9_sortTold_20 : decode cX9_sortTold 20 = .ok (.iload_n 1, 1) := by decide +kernel
theorem dX9_sortTold_21 : decode cX9_sortTold 21 = .ok (.iastore, 1) := by decide +kernel
theorem dX9_sortTold_22 : decode cX9_sortTold 22 = .ok (.aload_n 0, 1) := by decide +kernel
theorem dX9_sortTold_23 : decode cX9_sortTold 23 = .ok (.getfield 48, 3) := by decide +kernel
theorem dX9_sortTold_26 : decode cX9_sortTold 26 = .ok (.aload_n 0, 1) := by decide +kernel
theorem dX9_sortTold_27 : decode cX9_sortTold 27 = .ok (.getfield 218, 3) := by decide +kernel
theorem dX9_sortTold_30 : decode cX9_sortTold 30 = .ok (.aload_n 0, 1) := by decide +kernel
theorem dX9_sortTold_31 : decode cX9_sortTold 31 = .ok (.getfield 153, 3) := by decide +kernel
theorem dX9_sortTold_34 : decode cX9_sortTold 34 = .ok (.iastore, 1) := by decide +kernel
theorem dX9_sortTold_35 : decode cX9_sortTold 35 = .ok (.aload_n 0, 1) := by decide +kernel
theorem dX9_sortTold_36 : decode cX9_sortTold 36 = .ok (.getfield 51, 3) := by decide +kernel
theorem dX9_sortTold_39 : decode cX9_sortTold 39 = .ok (.aload_n 0, 1) := by decide +kernel
theorem dX9_sortTold_40 : decode cX9_sortTold 40 = .ok (.getfield 218, 3) := by decide +kernel
theorem dX9_sortTold_43 : decode cX9_sortTold 43 = .ok (.iconst 0, 1) := by decide +kernel
theorem dX9_sortTold_44 : decode cX9_sortTold 44 = .ok (.iastore, 1) := by decide +kernel
theorem dX9_sortTold_45 : decode cX9_sortTold 45 = .ok (.iload_n 1, 1) := by decide +kernel
theorem dX9_sortTold_46 : decode cX9_sortTold 46 = .ok (.iconst 1, 1) := by decide +kernel
theorem dX9_sortTold_47 : decode cX9_sortTold 47 = .ok (.if_icmp .ne 37, 3) := by decide +kernel
theorem dX9_sortTold_50 : decode cX9_sortTold 50 = .ok (.aload_n 0, 1) := by decide +kernel
theorem dX9_sortTold_51 : decode cX9_sortTold 51 = .ok (.ldc2_w 184, 3) := by decide +kernel
theorem dX9_sortTold_54 : decode cX9_sortTold 54 = .ok (.invokevirtual 203, 3) := by decide +kernel
theorem dX9_sortTold_57 : decode cX9_sortTold 57 = .ok (.ifCond .eq 12, 3) := by decide +kernel
theorem dX9_sortTold_60 : decode cX9_sortTold 60 = .ok (.aload_n 0, 1) := by decide +kernel
theorem dX9_sortTold_61 : decode cX9_sortTold 61 = .ok (.iconst 1, 1) := by decide +kernel
theorem dX9_sortTold_62 : decode cX9_sortTold 62 = .ok (.iconst 4, 1) := by decide +kernel
theorem dX9_sortTold_63 : decode cX9_sortTold 63 = .ok (.invokevirtual 206, 3) := by decide +kernel
theorem dX9_sortTold_66 : decode cX9_sortTold 66 = .ok (.ifCond .ne 5, 3) := by decide +kernel
theorem dX9_sortTold_69 : decode cX9_sortTold 69 = .ok (.iconst 0, 1) := by decide +kernel
theorem dX9_sortTold_70 : decode cX9_sortTold 70 = .ok (.ireturn, 1) := by decide +kernel
theorem dX9_sortTold_71 : decode cX9_sortTold 71 = .ok (.aload_n 0, 1) := by decide +kernel
theorem dX9_sortTold_72 : decode cX9_sortTold 72 = .ok (.getfield 51, 3) := by decide +kernel
theorem dX9_sortTold_75 : decode cX9_sortTold 75 = .ok (.aload_n 0, 1) := by decide +kernel
theorem dX9_sortTold_76 : decode cX9_sortTold 76 = .ok (.getfield 218, 3) := by decide +kernel
theorem dX9_sortTold_79 : decode cX9_sortTold 79 = .ok (.aload_n 0, 1) := by decide +kernel
theorem dX9_sortTold_80 : decode cX9_sortTold 80 = .ok (.getfield 153, 3) := by decide +kernel
theorem dX9_sortTold_83 : decode cX9_sortTold 83 = .ok (.iastore, 1) := by decide +kernel
theorem dX9_sortTold_84 : decode cX9_sortTold 84 = .ok (.iload_n 1, 1) := by decide +kernel
theorem dX9_sortTold_85 : decode cX9_sortTold 85 = .ok (.ifCond .ne 71, 3) := by decide +kernel
theorem dX9_sortTold_88 : decode cX9_sortTold 88 = .ok (.aload_n 0, 1) := by decide +kernel
theorem dX9_sortTold_89 : decode cX9_sortTold 89 = .ok (.invokevirtual 149, 3) := by decide +kernel
theorem dX9_sortTold_92 : decode cX9_sortTold 92 = .ok (.ldc2_w 176, 3) := by decide +kernel
theorem dX9_sortTold_95 : decode cX9_sortTold 95 = .ok (.lcmp, 1) := by decide +kernel
theorem dX9_sortTold_96 : decode cX9_sortTold 96 = .ok (.ifCond .eq 5, 3) := by decide +kernel
theorem dX9_sortTold_99 : decode cX9_sortTold 99 = .ok (.iconst 0, 1) := by decide +kernel
theorem dX9_sortTold_100 : decode cX9_sortTold 100 = .ok (.ireturn, 1) := by decide +kernel
theorem dX9_sortTold_101 : decode cX9_sortTold 101 = .ok (.aload_n 0, 1) := by decide +kernel
theorem dX9_sortTold_102 : decode cX9_sortTold 102 = .ok (.aload_n 0, 1) := by decide +kernel
theorem dX9_sortTold_103 : decode cX9_sortTold 103 = .ok (.getfield 146, 3) := by decide +kernel
theorem dX9_sortTold_106 : decode cX9_sortTold 106 = .ok (.putfield 137, 3) := by decide +kernel
theorem dX9_sortTold_109 : decode cX9_sortTold 109 = .ok (.aload_n 0, 1) := by decide +kernel
theorem dX9_sortTold_110 : decode cX9_sortTold 110 = .ok (.aload_n 0, 1) := by decide +kernel
theorem dX9_sortTold_111 : decode cX9_sortTold 111 = .ok (.getfield 51, 3) := by decide +kernel
theorem dX9_sortTold_114 : decode cX9_sortTold 114 = .ok (.aload_n 0, 1) := by decide +kernel
theorem dX9_sortTold_115 : decode cX9_sortTold 115 = .ok (.getfield 218, 3) := by decide +kernel
theorem dX9_sortTold_118 : decode cX9_sortTold 118 = .ok (.iaload, 1) := by decide +kernel
theorem dX9_sortTold_119 : decode cX9_sortTold 119 = .ok (.invokevirtual 221, 3) := by decide +kernel
theorem dX9_sortTold_122 : decode cX9_sortTold 122 = .ok (.istore_n 2, 1) := by decide +kernel
theorem dX9_sortTold_123 : decode cX9_sortTold 123 = .ok (.iload_n 2, 1) := by decide +kernel
theorem dX9_sortTold_124 : decode cX9_sortTold 124 = .ok (.iconst (-1), 1) := by decide +kernel
theorem dX9_sortTold_125 : decode cX9_sortTold 125 = .ok (.if_icmp .ne 5, 3) := by decide +kernel
theorem dX9_sortTold_128 : decode cX9_sortTold 128 = .ok (.iconst 0, 1) := by decide +kernel
theorem dX9_sortTold_129 : decode cX9_sortTold 129 = .ok (.ireturn, 1) := by decide +kernel
theorem dX9_sortTold_130 : decode cX9_sortTold 130 = .ok (.aload_n 0, 1) := by decide +kernel
theorem dX9_sortTold_131 : decode cX9_sortTold 131 = .ok (.getfield 51, 3) := by decide +kernel
theorem dX9_sortTold_134 : decode cX9_sortTold 134 = .ok (.aload_n 0, 1) := by decide +kernel
theorem dX9_sortTold_135 : decode cX9_sortTold 135 = .ok (.getfield 218, 3) := by decide +kernel
theorem dX9_sortTold_138 : decode cX9_sortTold 138 = .ok (.dup2, 1) := by decide +kernel
theorem dX9_sortTold_139 : decode cX9_sortTold 139 = .ok (.iaload, 1) := by decide +kernel
theorem dX9_sortTold_140 : decode cX9_sortTold 140 = .ok (.iconst 1, 1) := by decide +kernel
theorem dX9_sortTold_141 : decode cX9_sortTold 141 = .ok (.iload_n 2, 1) := by decide +kernel
theorem dX9_sortTold_142 : decode cX9_sortTold 142 = .ok (.ishl, 1) := by decide +kernel
theorem dX9_sortTold_143 : decode cX9_sortTold 143 = .ok (.ior, 1) := by decide +kernel
theorem dX9_sortTold_144 : decode cX9_sortTold 144 = .ok (.iastore, 1) := by decide +kernel
theorem dX9_sortTold_145 : decode cX9_sortTold 145 = .ok (.aload_n 0, 1) := by decide +kernel
theorem dX9_sortTold_146 : decode cX9_sortTold 146 = .ok (.invokevirtual 149, 3) := by decide +kernel
theorem dX9_sortTold_149 : decode cX9_sortTold 149 = .ok (.ldc2_w 178, 3) := by decide +kernel
theorem dX9_sortTold_152 : decode cX9_sortTold 152 = .ok (.lcmp, 1) := by decide +kernel
theorem dX9_sortTold_153 : decode cX9_sortTold 153 = .ok (.ifCond .eq (-52), 3) := by decide +kernel
theorem dX9_sortTold_156 : decode cX9_sortTold 156 = .ok (.aload_n 0, 1) := by decide +kernel
theorem dX9_sortTold_157 : decode cX9_sortTold 157 = .ok (.invokevirtual 225, 3) := by decide +kernel
theorem dX9_sortTold_160 : decode cX9_sortTold 160 = .ok (.ireturn, 1) := by decide +kernel
theorem dX9_listTold_0 : decode cX9_listTold 0 = .ok (.aload_n 0, 1) := by decide +kernel
theorem dX9_listTold_1 : decode cX9_listTold 1 = .ok (.iconst 0, 1) := by decide +kernel
theorem dX9_listTold_2 : decode cX9_listTold 2 = .ok (.invokevirtual 221, 3) := by decide +kernel
theorem dX9_listTold_5 : decode cX9_listTold 5 = .ok (.istore_n 1, 1) := by decide +kernel
theorem dX9_listTold_6 : decode cX9_listTold 6 = .ok (.iload_n 1, 1) := by decide +kernel
theorem dX9_listTold_7 : decode cX9_listTold 7 = .ok (.iconst (-1), 1) := by decide +kernel
theorem dX9_listTold_8 : decode cX9_listTold 8 = .ok (.if_icmp .ne 5, 3) := by decide +kernel
theorem dX9_listTold_11 : decode cX9_listTold 11 = .ok (.iconst 0, 1) := by decide +kernel
theorem dX9_listTold_12 : decode cX9_listTold 12 = .ok (.ireturn, 1) := by decide +kernel
theorem dX9_listTold_13 : decode cX9_listTold 13 = .ok (.aload_n 0, 1) := by decide +kernel
theorem dX9_listTold_14 : decode cX9_listTold 14 = .ok (.dup, 1) := by decide +kernel
theorem dX9_listTold_15 : decode cX9_listTold 15 = .ok (.getfield 229, 3) := by decide +kernel
theorem dX9_listTold_18 : decode cX9_listTold 18 = .ok (.iconst 1, 1) := by decide +kernel
theorem dX9_listTold_19 : decode cX9_listTold 19 = .ok (.iload_n 1, 1) := by decide +kernel
theorem dX9_listTold_20 : decode cX9_listTold 20 = .ok (.ishl, 1) := by decide +kernel
theorem dX9_listTold_21 : decode cX9_listTold 21 = .ok (.ior, 1) := by decide +kernel
theorem dX9_listTold_22 : decode cX9_listTold 22 = .ok (.putfield 229, 3) := by decide +kernel
theorem dX9_listTold_25 : decode cX9_listTold 25 = .ok (.iconst 1, 1) := by decide +kernel
theorem dX9_listTold_26 : decode cX9_listTold 26 = .ok (.ireturn, 1) := by decide +kernel
theorem dX9_statement_0 : decode cX9_statement 0 = .ok (.aload_n 0, 1) := by decide +kernel
theorem dX9_statement_1 : decode cX9_statement 1 = .ok (.ldc2_w 160, 3) := by decide +kernel
theorem dX9_statement_4 : decode cX9_statement 4 = .ok (.invokevirtual 203, 3) := by decide +kernel
theorem dX9_statement_7 : decode cX9_statement 7 = .ok (.ifCond .eq 8, 3) := by decide +kernel
theorem dX9_statement_10 : decode cX9_statement 10 = .ok (.aload_n 0, 1) := by decide +kernel
theorem dX9_statement_11 : decode cX9_statement 11 = .ok (.invokevirtual 232, 3) := by decide +kernel
theorem dX9_statement_14 : decode cX9_statement 14 = .ok (.ireturn, 1) := by decide +kernel
theorem dX9_statement_15 : decode cX9_statement 15 = .ok (.aload_n 0, 1) := by decide +kernel
theorem dX9_statement_16 : decode cX9_statement 16 = .ok (.ldc2_w 164, 3) := by decide +kernel
theorem dX9_statement_19 : decode cX9_statement 19 = .ok (.invokevirtual 203, 3) := by decide +kernel
theorem dX9_statement_22 : decode cX9_statement 22 = .ok (.ifCond .eq 8, 3) := by decide +kernel
theorem dX9_statement_25 : decode cX9_statement 25 = .ok (.aload_n 0, 1) := by decide +kernel
theorem dX9_statement_26 : decode cX9_statement 26 = .ok (.invokevirtual 235, 3) := by decide +kernel
theorem dX9_statement_29 : decode cX9_statement 29 = .ok (.ireturn, 1) := by decide +kernel
theorem dX9_statement_30 : decode cX9_statement 30 = .ok (.aload_n 0, 1) := by decide +kernel
theorem dX9_statement_31 : decode cX9_statement 31 = .ok (.ldc2_w 170, 3) := by decide +kernel
theorem dX9_statement_34 : decode cX9_statement 34 = .ok (.invokevirtual 203, 3) := by decide +kernel
theorem dX9_statement_37 : decode cX9_statement 37 = .ok (.ifCond .eq 8, 3) := by decide +kernel
theorem dX9_statement_40 : decode cX9_statement 40 = .ok (.aload_n 0, 1) := by decide +kernel
theorem dX9_statement_41 : decode cX9_statement 41 = .ok (.invokevirtual 238, 3) := by decide +kernel
theorem dX9_statement_44 : decode cX9_statement 44 = .ok (.ireturn, 1) := by decide +kernel
theorem dX9_statement_45 : decode cX9_statement 45 = .ok (.aload_n 0, 1) := by decide +kernel
theorem dX9_statement_46 : decode cX9_statement 46 = .ok (.ldc2_w 172, 3) := by decide +kernel
theorem dX9_statement_49 : decode cX9_statement 49 = .ok (.invokevirtual 203, 3) := by decide +kernel
theorem dX9_statement_52 : decode cX9_statement 52 = .ok (.ifCond .eq 25, 3) := by decide +kernel
theorem dX9_statement_55 : decode cX9_statement 55 = .ok (.aload_n 0, 1) := by decide +kernel
theorem dX9_statement_56 : decode cX9_statement 56 = .ok (.iconst 0, 1) := by decide +kernel
theorem dX9_statement_57 : decode cX9_statement 57 = .ok (.bipush 99, 2) := by decide +kernel
theorem dX9_statement_59 : decode cX9_statement 59 = .ok (.invokevirtual 206, 3) := by decide +kernel
theorem dX9_statement_62 : decode cX9_statement 62 = .ok (.ifCond .ne 5, 3) := by decide +kernel
theorem dX9_statement_65 : decode cX9_statement 65 = .ok (.iconst 0, 1) := by decide +kernel
theorem dX9_statement_66 : decode cX9_statement 66 = .ok (.ireturn, 1) := by decide +kernel
theorem dX9_statement_67 : decode cX9_statement 67 = .ok (.aload_n 0, 1) := by decide +kernel
theorem dX9_statement_68 : decode cX9_statement 68 = .ok (.aload_n 0, 1) := by decide +kernel
theorem dX9_statement_69 : decode cX9_statement 69 = .ok (.getfield 153, 3) := by decide +kernel
theorem dX9_statement_72 : decode cX9_statement 72 = .ok (.putfield 241, 3) := by decide +kernel
theorem dX9_statement_75 : decode cX9_statement 75 = .ok (.iconst 1, 1) := by decide +kernel
theorem dX9_statement_76 : decode cX9_statement 76 = .ok (.ireturn, 1) := by decide +kernel
theorem dX9_statement_77 : decode cX9_statement 77 = .ok (.aload_n 0, 1) := by decide +kernel
theorem dX9_statement_78 : decode cX9_statement 78 = .ok (.getfield 218, 3) := by decide +kernel
theorem dX9_statement_81 : decode cX9_statement 81 = .ok (.bipush 12, 2) := by decide +kernel
theorem dX9_statement_83 : decode cX9_statement 83 = .ok (.if_icmp .ne 5, 3) := by decide +kernel
theorem dX9_statement_86 : decode cX9_statement 86 = .ok (.iconst 0, 1) := by decide +kernel
theorem dX9_statement_87 : decode cX9_statement 87 = .ok (.ireturn, 1) := by decide +kernel
theorem dX9_statement_88 : decode cX9_statement 88 = .ok (.aload_n 0, 1) := by decide +kernel
theorem dX9_statement_89 : decode cX9_statement 89 = .ok (.ldc2_w 174, 3) := by decide +kernel
theorem dX9_statement_92 : decode cX9_statement 92 = .ok (.invokevirtual 203, 3) := by decide +kernel
theorem dX9_statement_95 : decode cX9_statement 95 = .ok (.ifCond .eq 9, 3) := by decide +kernel
theorem dX9_statement_98 : decode cX9_statement 98 = .ok (.aload_n 0, 1) := by decide +kernel
theorem dX9_statement_99 : decode cX9_statement 99 = .ok (.iconst 0, 1) := by decide +kernel
theorem dX9_statement_100 : decode cX9_statement 100 = .ok (.invokevirtual 244, 3) := by decide +kernel
theorem dX9_statement_103 : decode cX9_statement 103 = .ok (.ireturn, 1) := by decide +kernel
theorem dX9_statement_104 : decode cX9_statement 104 = .ok (.aload_n 0, 1) := by decide +kernel
theorem dX9_statement_105 : decode cX9_statement 105 = .ok (.ldc2_w 182, 3) := by decide +kernel
theorem dX9_statement_108 : decode cX9_statement 108 = .ok (.invokevirtual 203, 3) := by decide +kernel
theorem dX9_statement_111 : decode cX9_statement 111 = .ok (.ifCond .eq 9, 3) := by decide +kernel
theorem dX9_statement_114 : decode cX9_statement 114 = .ok (.aload_n 0, 1) := by decide +kernel
theorem dX9_statement_115 : decode cX9_statement 115 = .ok (.iconst 1, 1) := by decide +kernel
theorem dX9_statement_116 : decode cX9_statement 116 = .ok (.invokevirtual 244, 3) := by decide +kernel
theorem dX9_statement_119 : decode cX9_statement 119 = .ok (.ireturn, 1) := by decide +kernel
theorem dX9_statement_120 : decode cX9_statement 120 = .ok (.aload_n 0, 1) := by decide +kernel
theorem dX9_statement_121 : decode cX9_statement 121 = .ok (.ldc2_w 186, 3) := by decide +kernel
theorem dX9_statement_124 : decode cX9_statement 124 = .ok (.invokevirtual 203, 3) := by decide +kernel
theorem dX9_statement_127 : decode cX9_statement 127 = .ok (.ifCond .eq 15, 3) := by decide +kernel
theorem dX9_statement_130 : decode cX9_statement 130 = .ok (.aload_n 0, 1) := by decide +kernel
theorem dX9_statement_131 : decode cX9_statement 131 = .ok (.iconst 2, 1) := by decide +kernel
theorem dX9_statement_132 : decode cX9_statement 132 = .ok (.invokevirtual 244, 3) := by decide +kernel
theorem dX9_statement_135 : decode cX9_statement 135 = .ok (.ifCond .eq 7, 3) := by decide +kernel
theorem dX9_statement_138 : decode cX9_statement 138 = .ok (.iconst 1, 1) := by decide +kernel
theorem dX9_statement_139 : decode cX9_statement 139 = .ok (.goto 4, 3) := by decide +kernel
theorem dX9_statement_142 : decode cX9_statement 142 = .ok (.iconst 0, 1) := by decide +kernel
theorem dX9_statement_143 : decode cX9_statement 143 = .ok (.ireturn, 1) := by decide +kernel
theorem dX9_reads_0 : decode cX9_reads 0 = .ok (.iconst 0, 1) := by decide +kernel
theorem dX9_reads_1 : decode cX9_reads 1 = .ok (.istore_n 2, 1) := by decide +kernel
theorem dX9_reads_2 : decode cX9_reads 2 = .ok (.iload_n 2, 1) := by decide +kernel
theorem dX9_reads_3 : decode cX9_reads 3 = .ok (.iload_n 1, 1) := by decide +kernel
theorem dX9_reads_4 : decode cX9_reads 4 = .ok (.if_icmp .ge 21, 3) := by decide +kernel
theorem dX9_reads_7 : decode cX9_reads 7 = .ok (.aload_n 0, 1) := by decide +kernel
theorem dX9_reads_8 : decode cX9_reads 8 = .ok (.getfield 64, 3) := by decide +kernel
theorem dX9_reads_11 : decode cX9_reads 11 = .ok (.iload_n 2, 1) := by decide +kernel
theorem dX9_reads_12 : decode cX9_reads 12 = .ok (.aload_n 0, 1) := by decide +kernel
theorem dX9_reads_13 : decode cX9_reads 13 = .ok (.getfield 60, 3) := by decide +kernel
theorem dX9_reads_16 : decode cX9_reads 16 = .ok (.iload_n 2, 1) := by decide +kernel
theorem dX9_reads_17 : decode cX9_reads 17 = .ok (.baload, 1) := by decide +kernel
theorem dX9_reads_18 : decode cX9_reads 18 = .ok (.bastore, 1) := by decide +kernel
theorem dX9_reads_19 : decode cX9_reads 19 = .ok (.iinc 2 1, 3) := by decide +kernel
theorem dX9_reads_22 : decode cX9_reads 22 = .ok (.goto (-20), 3) := by decide +kernel
theorem dX9_reads_25 : decode cX9_reads 25 = .ok (.aload_n 0, 1) := by decide +kernel
theorem dX9_reads_26 : decode cX9_reads 26 = .ok (.iload_n 1, 1) := by decide +kernel
theorem dX9_reads_27 : decode cX9_reads 27 = .ok (.putfield 140, 3) := by decide +kernel
theorem dX9_reads_30 : decode cX9_reads 30 = .ok (.aload_n 0, 1) := by decide +kernel
theorem dX9_reads_31 : decode cX9_reads 31 = .ok (.iconst 0, 1) := by decide +kernel
theorem dX9_reads_32 : decode cX9_reads 32 = .ok (.putfield 130, 3) := by decide +kernel
theorem dX9_reads_35 : decode cX9_reads 35 = .ok (.aload_n 0, 1) := by decide +kernel
theorem dX9_reads_36 : decode cX9_reads 36 = .ok (.iconst 0, 1) := by decide +kernel
theorem dX9_reads_37 : decode cX9_reads 37 = .ok (.putfield 137, 3) := by decide +kernel
theorem dX9_reads_40 : decode cX9_reads 40 = .ok (.aload_n 0, 1) := by decide +kernel
theorem dX9_reads_41 : decode cX9_reads 41 = .ok (.iconst 0, 1) := by decide +kernel
theorem dX9_reads_42 : decode cX9_reads 42 = .ok (.putfield 188, 3) := by decide +kernel
theorem dX9_reads_45 : decode cX9_reads 45 = .ok (.aload_n 0, 1) := by decide +kernel
theorem dX9_reads_46 : decode cX9_reads 46 = .ok (.iconst 0, 1) := by decide +kernel
theorem dX9_reads_47 : decode cX9_reads 47 = .ok (.putfield 218, 3) := by decide +kernel
theorem dX9_reads_50 : decode cX9_reads 50 = .ok (.aload_n 0, 1) := by decide +kernel
theorem dX9_reads_51 : decode cX9_reads 51 = .ok (.iconst 4, 1) := by decide +kernel
theorem dX9_reads_52 : decode cX9_reads 52 = .ok (.putfield 209, 3) := by decide +kernel
theorem dX9_reads_55 : decode cX9_reads 55 = .ok (.aload_n 0, 1) := by decide +kernel
theorem dX9_reads_56 : decode cX9_reads 56 = .ok (.iconst 5, 1) := by decide +kernel
theorem dX9_reads_57 : decode cX9_reads 57 = .ok (.putfield 212, 3) := by decide +kernel
theorem dX9_reads_60 : decode cX9_reads 60 = .ok (.aload_n 0, 1) := by decide +kernel
theorem dX9_reads_61 : decode cX9_reads 61 = .ok (.iconst 5, 1) := by decide +kernel
theorem dX9_reads_62 : decode cX9_reads 62 = .ok (.putfield 215, 3) := by decide +kernel
theorem dX9_reads_65 : decode cX9_reads 65 = .ok (.aload_n 0, 1) := by decide +kernel
theorem dX9_reads_66 : decode cX9_reads 66 = .ok (.iconst 0, 1) := by decide +kernel
theorem dX9_reads_67 : decode cX9_reads 67 = .ok (.putfield 241, 3) := by decide +kernel
theorem dX9_reads_70 : decode cX9_reads 70 = .ok (.aload_n 0, 1) := by decide +kernel
theorem dX9_reads_71 : decode cX9_reads 71 = .ok (.iconst 0, 1) := by decide +kernel
theorem dX9_reads_72 : decode cX9_reads 72 = .ok (.putfield 229, 3) := by decide +kernel
theorem dX9_reads_75 : decode cX9_reads 75 = .ok (.aload_n 0, 1) := by decide +kernel
theorem dX9_reads_76 : decode cX9_reads 76 = .ok (.iconst 0, 1) := by decide +kernel
theorem dX9_reads_77 : decode cX9_reads 77 = .ok (.putfield 248, 3) := by decide +kernel
theorem dX9_reads_80 : decode cX9_reads 80 = .ok (.iconst 1, 1) := by decide +kernel
theorem dX9_reads_81 : decode cX9_reads 81 = .ok (.istore_n 2, 1) := by decide +kernel
theorem dX9_reads_82 : decode cX9_reads 82 = .ok (.aload_n 0, 1) := by decide +kernel
theorem dX9_reads_83 : decode cX9_reads 83 = .ok (.invokevirtual 143, 3) := by decide +kernel
theorem dX9_reads_86 : decode cX9_reads 86 = .ok (.iload_n 2, 1) := by decide +kernel
theorem dX9_reads_87 : decode cX9_reads 87 = .ok (.ifCond .eq 69, 3) := by decide +kernel
theorem dX9_reads_90 : decode cX9_reads 90 = .ok (.aload_n 0, 1) := by decide +kernel
theorem dX9_reads_91 : decode cX9_reads 91 = .ok (.getfield 137, 3) := by decide +kernel
theorem dX9_reads_94 : decode cX9_reads 94 = .ok (.aload_n 0, 1) := by decide +kernel
theorem dX9_reads_95 : decode cX9_reads 95 = .ok (.getfield 140, 3) := by decide +kernel
theorem dX9_reads_98 : decode cX9_reads 98 = .ok (.if_icmp .ge 58, 3) := by decide +kernel
theorem dX9_reads_101 : decode cX9_reads 101 = .ok (.aload_n 0, 1) := by decide +kernel
theorem dX9_reads_102 : decode cX9_reads 102 = .ok (.getfield 248, 3) := by decide +kernel
theorem dX9_reads_105 : decode cX9_reads 105 = .ok (.bipush 24, 2) := by decide +kernel
theorem dX9_reads_107 : decode cX9_reads 107 = .ok (.if_icmp .ge 23, 3) := by decide +kernel
theorem dX9_reads_110 : decode cX9_reads 110 = .ok (.aload_n 0, 1) := by decide +kernel
theorem dX9_reads_111 : decode cX9_reads 111 = .ok (.invokevirtual 251, 3) := by decide +kernel
theorem dX9_reads_114 : decode cX9_reads 114 = .ok (.ifCond .eq 16, 3) := by decide +kernel
theorem dX9_reads_117 : decode cX9_reads 117 = .ok (.aload_n 0, 1) := by decide +kernel
theorem dX9_reads_118 : decode cX9_reads 118 = .ok (.bipush 59, 2) := by decide +kernel
theorem dX9_reads_120 : decode cX9_reads 120 = .ok (.invokevirtual 254, 3) := by decide +kernel
theorem dX9_reads_123 : decode cX9_reads 123 = .ok (.ifCond .eq 7, 3) := by decide +kernel
theorem dX9_reads_126 : decode cX9_reads 126 = .ok (.iconst 1, 1) := by decide +kernel
theorem dX9_reads_127 : decode cX9_reads 127 = .ok (.goto 4, 3) := by decide +kernel
theorem dX9_reads_130 : decode cX9_reads 130 = .ok (.iconst 0, 1) := by decide +kernel
theorem dX9_reads_131 : decode cX9_reads 131 = .ok (.istore_n 2, 1) := by decide +kernel
theorem dX9_reads_132 : decode cX9_reads 132 = .ok (.iload_n 2, 1) := by decide +kernel
theorem dX9_reads_133 : decode cX9_reads 133 = .ok (.ifCond .ne 6, 3) := by decide +kernel
theorem dX9_reads_136 : decode cX9_reads 136 = .ok (.goto (-50), 3) := by decide +kernel
theorem dX9_reads_139 : decode cX9_reads 139 = .ok (.aload_n 0, 1) := by decide +kernel
theorem dX9_reads_140 : decode cX9_reads 140 = .ok (.dup, 1) := by decide +kernel
theorem dX9_reads_141 : decode cX9_reads 141 = .ok (.getfield 248, 3) := by decide +kernel
theorem dX9_reads_144 : decode cX9_reads 144 = .ok (.iconst 1, 1) := by decide +kernel
theorem dX9_reads_145 : decode cX9_reads 145 = .ok (.iadd, 1) := by decide +kernel
theorem dX9_reads_146 : decode cX9_reads 146 = .ok (.putfield 248, 3) := by decide +kernel
theorem dX9_reads_149 : decode cX9_reads 149 = .ok (.aload_n 0, 1) := by decide +kernel
theorem dX9_reads_150 : decode cX9_reads 150 = .ok (.invokevirtual 143, 3) := by decide +kernel
theorem dX9_reads_153 : decode cX9_reads 153 = .ok (.goto (-67), 3) := by decide +kernel
theorem dX9_reads_156 : decode cX9_reads 156 = .ok (.iload_n 2, 1) := by decide +kernel
theorem dX9_reads_157 : decode cX9_reads 157 = .ok (.ifCond .eq 14, 3) := by decide +kernel
theorem dX9_reads_160 : decode cX9_reads 160 = .ok (.aload_n 0, 1) := by decide +kernel
theorem dX9_reads_161 : decode cX9_reads 161 = .ok (.getfield 188, 3) := by decide +kernel
theorem dX9_reads_164 : decode cX9_reads 164 = .ok (.ifCond .le 7, 3) := by decide +kernel
theorem dX9_reads_167 : decode cX9_reads 167 = .ok (.iconst 1, 1) := by decide +kernel
theorem dX9_reads_168 : decode cX9_reads 168 = .ok (.goto 4, 3) := by decide +kernel
theorem dX9_reads_171 : decode cX9_reads 171 = .ok (.iconst 0, 1) := by decide +kernel
theorem dX9_reads_172 : decode cX9_reads 172 = .ok (.istore_n 2, 1) := by decide +kernel
theorem dX9_reads_173 : decode cX9_reads 173 = .ok (.aload_n 0, 1) := by decide +kernel
theorem dX9_reads_174 : decode cX9_reads 174 = .ok (.iload_n 2, 1) := by decide +kernel
theorem dX9_reads_175 : decode cX9_reads 175 = .ok (.ifCond .eq 7, 3) := by decide +kernel
theorem dX9_reads_178 : decode cX9_reads 178 = .ok (.iconst (-1), 1) := by decide +kernel
theorem dX9_reads_179 : decode cX9_reads 179 = .ok (.goto 7, 3) := by decide +kernel
theorem dX9_reads_182 : decode cX9_reads 182 = .ok (.aload_n 0, 1) := by decide +kernel
theorem dX9_reads_183 : decode cX9_reads 183 = .ok (.getfield 137, 3) := by decide +kernel
theorem dX9_reads_186 : decode cX9_reads 186 = .ok (.putfield 57, 3) := by decide +kernel
theorem dX9_reads_189 : decode cX9_reads 189 = .ok (.iload_n 2, 1) := by decide +kernel
theorem dX9_reads_190 : decode cX9_reads 190 = .ok (.ireturn, 1) := by decide +kernel
theorem dX9_street_0 : decode cX9_street 0 = .ok (.iload_n 1, 1) := by decide +kernel
theorem dX9_street_1 : decode cX9_street 1 = .ok (.iconst 0, 1) := by decide +kernel
theorem dX9_street_2 : decode cX9_street 2 = .ok (.aload_n 0, 1) := by decide +kernel
theorem dX9_street_3 : decode cX9_street 3 = .ok (.getfield 130, 3) := by decide +kernel
theorem dX9_street_6 : decode cX9_street 6 = .ok (.invokestatic 156, 3) := by decide +kernel
theorem dX9_street_9 : decode cX9_street 9 = .ok (.ifCond .ne 6, 3) := by decide +kernel
theorem dX9_street_12 : decode cX9_street 12 = .ok (.bipush (-2), 2) := by decide +kernel
theorem dX9_street_14 : decode cX9_street 14 = .ok (.ireturn, 1) := by decide +kernel
theorem dX9_street_15 : decode cX9_street 15 = .ok (.aload_n 0, 1) := by decide +kernel
theorem dX9_street_16 : decode cX9_street 16 = .ok (.iload_n 1, 1) := by decide +kernel
theorem dX9_street_17 : decode cX9_street 17 = .ok (.invokevirtual 257, 3) := by decide +kernel
theorem dX9_street_20 : decode cX9_street 20 = .ok (.ifCond .ne 5, 3) := by decide +kernel
theorem dX9_street_23 : decode cX9_street 23 = .ok (.iconst (-1), 1) := by decide +kernel
theorem dX9_street_24 : decode cX9_street 24 = .ok (.ireturn, 1) := by decide +kernel
theorem dX9_street_25 : decode cX9_street 25 = .ok (.aload_n 0, 1) := by decide +kernel
theorem dX9_street_26 : decode cX9_street 26 = .ok (.aload_n 0, 1) := by decide +kernel
theorem dX9_street_27 : decode cX9_street 27 = .ok (.getfield 188, 3) := by decide +kernel
theorem dX9_street_30 : decode cX9_street 30 = .ok (.putfield 260, 3) := by decide +kernel
theorem dX9_street_33 : decode cX9_street 33 = .ok (.aload_n 0, 1) := by decide +kernel
theorem dX9_street_34 : decode cX9_street 34 = .ok (.aload_n 0, 1) := by decide +kernel
theorem dX9_street_35 : decode cX9_street 35 = .ok (.getfield 218, 3) := by decide +kernel
theorem dX9_street_38 : decode cX9_street 38 = .ok (.putfield 263, 3) := by decide +kernel
theorem dX9_street_41 : decode cX9_street 41 = .ok (.aload_n 0, 1) := by decide +kernel
theorem dX9_street_42 : decode cX9_street 42 = .ok (.aload_n 0, 1) := by decide +kernel
theorem dX9_street_43 : decode cX9_street 43 = .ok (.getfield 209, 3) := by decide +kernel
theorem dX9_street_46 : decode cX9_street 46 = .ok (.putfield 7, 3) := by decide +kernel
theorem dX9_street_49 : decode cX9_street 49 = .ok (.aload_n 0, 1) := by decide +kernel
theorem dX9_street_50 : decode cX9_street 50 = .ok (.aload_n 0, 1) := by decide +kernel
theorem dX9_street_51 : decode cX9_street 51 = .ok (.getfield 212, 3) := by decide +kernel
theorem dX9_street_54 : decode cX9_street 54 = .ok (.putfield 13, 3) := by decide +kernel
theorem dX9_street_57 : decode cX9_street 57 = .ok (.aload_n 0, 1) := by decide +kernel
theorem dX9_street_58 : decode cX9_street 58 = .ok (.aload_n 0, 1) := by decide +kernel
theorem dX9_street_59 : decode cX9_street 59 = .ok (.getfield 215, 3) := by decide +kernel
theorem dX9_street_62 : decode cX9_street 62 = .ok (.putfield 16, 3) := by decide +kernel
theorem dX9_street_65 : decode cX9_street 65 = .ok (.aload_n 0, 1) := by decide +kernel
theorem dX9_street_66 : decode cX9_street 66 = .ok (.aload_n 0, 1) := by decide +kernel
theorem dX9_street_67 : decode cX9_street 67 = .ok (.getfield 241, 3) := by decide +kernel
theorem dX9_street_70 : decode cX9_street 70 = .ok (.putfield 266, 3) := by decide +kernel
theorem dX9_street_73 : decode cX9_street 73 = .ok (.aload_n 0, 1) := by decide +kernel
theorem dX9_street_74 : decode cX9_street 74 = .ok (.aload_n 0, 1) := by decide +kernel
theorem dX9_street_75 : decode cX9_street 75 = .ok (.getfield 229, 3) := by decide +kernel
theorem dX9_street_78 : decode cX9_street 78 = .ok (.putfield 269, 3) := by decide +kernel
theorem dX9_street_81 : decode cX9_street 81 = .ok (.aload_n 0, 1) := by decide +kernel
theorem dX9_street_82 : decode cX9_street 82 = .ok (.aload_n 0, 1) := by decide +kernel
theorem dX9_street_83 : decode cX9_street 83 = .ok (.getfield 248, 3) := by decide +kernel
theorem dX9_street_86 : decode cX9_street 86 = .ok (.putfield 272, 3) := by decide +kernel
theorem dX9_street_89 : decode cX9_street 89 = .ok (.iconst 0, 1) := by decide +kernel
theorem dX9_street_90 : decode cX9_street 90 = .ok (.istore_n 2, 1) := by decide +kernel
theorem dX9_street_91 : decode cX9_street 91 = .ok (.iload_n 2, 1) := by decide +kernel
theorem dX9_street_92 : decode cX9_street 92 = .ok (.aload_n 0, 1) := by decide +kernel
theorem dX9_street_93 : decode cX9_street 93 = .ok (.getfield 260, 3) := by decide +kernel
theorem dX9_street_96 : decode cX9_street 96 = .ok (.if_icmp .ge 40, 3) := by decide +kernel
theorem dX9_street_99 : decode cX9_street 99 = .ok (.aload_n 0, 1) := by decide +kernel
theorem dX9_street_100 : decode cX9_street 100 = .ok (.getfield 19, 3) := by decide +kernel
theorem dX9_street_103 : decode cX9_street 103 = .ok (.iload_n 2, 1) := by decide +kernel
theorem dX9_street_104 : decode cX9_street 104 = .ok (.aload_n 0, 1) := by decide +kernel
theorem dX9_street_105 : decode cX9_street 105 = .ok (.getfield 39, 3) := by decide +kernel
theorem dX9_street_108 : decode cX9_street 108 = .ok (.iload_n 2, 1) := by decide +kernel
theorem dX9_street_109 : decode cX9_street 109 = .ok (.laload, 1) := by decide +kernel
theorem dX9_street_110 : decode cX9_street 110 = .ok (.lastore, 1) := by decide +kernel
theorem dX9_street_111 : decode cX9_street 111 = .ok (.aload_n 0, 1) := by decide +kernel
theorem dX9_street_112 : decode cX9_street 112 = .ok (.getfield 23, 3) := by decide +kernel
theorem dX9_street_115 : decode cX9_street 115 = .ok (.iload_n 2, 1) := by decide +kernel
theorem dX9_street_116 : decode cX9_street 116 = .ok (.aload_n 0, 1) := by decide +kernel
theorem dX9_street_117 : decode cX9_street 117 = .ok (.getfield 42, 3) := by decide +kernel
theorem dX9_street_120 : decode cX9_street 120 = .ok (.iload_n 2, 1) := by decide +kernel
theorem dX9_street_121 : decode cX9_street 121 = .ok (.iaload, 1) := by decide +kernel
theorem dX9_street_122 : decode cX9_street 122 = .ok (.iastore, 1) := by decide +kernel
theorem dX9_street_123 : decode cX9_street 123 = .ok (.aload_n 0, 1) := by decide +kernel
theorem dX9_street_124 : decode cX9_street 124 = .ok (.getfield 70, 3) := by decide +kernel
theorem dX9_street_127 : decode cX9_street 127 = .ok (.iload_n 2, 1) := by decide +kernel
theorem dX9_street_128 : decode cX9_street 128 = .ok (.iconst 0, 1) := by decide +kernel
theorem dX9_street_129 : decode cX9_street 129 = .ok (.iastore, 1) := by decide +kernel
theorem dX9_street_130 : decode cX9_street 130 = .ok (.iinc 2 1, 3) := by decide +kernel
theorem dX9_street_133 : decode cX9_street 133 = .ok (.goto (-42), 3) := by decide +kernel
theorem dX9_street_136 : decode cX9_street 136 = .ok (.iconst 0, 1) := by decide +kernel
theorem dX9_street_137 : decode cX9_street 137 = .ok (.istore_n 2, 1) := by decide +kernel
theorem dX9_street_138 : decode cX9_street 138 = .ok (.iload_n 2, 1) := by decide +kernel
theorem dX9_street_139 : decode cX9_street 139 = .ok (.aload_n 0, 1) := by decide +kernel
theorem dX9_street_140 : decode cX9_street 140 = .ok (.getfield 263, 3) := by decide +kernel
theorem dX9_street_143 : decode cX9_street 143 = .ok (.if_icmp .ge 57, 3) := by decide +kernel
theorem dX9_street_146 : decode cX9_street 146 = .ok (.aload_n 0, 1) := by decide +kernel
theorem dX9_street_147 : decode cX9_street 147 = .ok (.getfield 27, 3) := by decide +kernel
theorem dX9_street_150 : decode cX9_street 150 = .ok (.iload_n 2, 1) := by decide +kernel
theorem dX9_street_151 : decode cX9_street 151 = .ok (.aload_n 0, 1) := by decide +kernel
theorem dX9_street_152 : decode cX9_street 152 = .ok (.getfield 45, 3) := by decide +kernel
theorem dX9_street_155 : decode cX9_street 155 = .ok (.iload_n 2, 1) := by decide +kernel
theorem dX9_street_156 : decode cX9_street 156 = .ok (.iaload, 1) := by decide +kernel
theorem dX9_street_157 : decode cX9_street 157 = .ok (.iastore, 1) := by decide +kernel
theorem dX9_street_158 : decode cX9_street 158 = .ok (.aload_n 0, 1) := by decide +kernel
theorem dX9_street_159 : decode cX9_street 159 = .ok (.getfield 30, 3) := by decide +kernel
theorem dX9_street_162 : decode cX9_street 162 = .ok (.iload_n 2, 1) := by decide +kernel
theorem dX9_street_163 : decode cX9_street 163 = .ok (.aload_n 0, 1) := by decide +kernel
theorem dX9_street_164 : decode cX9_street 164 = .ok (.getfield 48, 3) := by decide +kernel
theorem dX9_street_167 : decode cX9_street 167 = .ok (.iload_n 2, 1) := by decide +kernel
theorem dX9_street_168 : decode cX9_street 168 = .ok (.iaload, 1) := by decide +kernel
theorem dX9_street_169 : decode cX9_street 169 = .ok (.iastore, 1) := by decide +kernel
theorem dX9_street_170 : decode cX9_street 170 = .ok (.aload_n 0, 1) := by decide +kernel
theorem dX9_street_171 : decode cX9_street 171 = .ok (.getfield 33, 3) := by decide +kernel
theorem dX9_street_174 : decode cX9_street 174 = .ok (.iload_n 2, 1) := by decide +kernel
theorem dX9_street_175 : decode cX9_street 175 = .ok (.aload_n 0, 1) := by decide +kernel
theorem dX9_street_176 : decode cX9_street 176 = .ok (.getfield 51, 3) := by decide +kernel
theorem dX9_street_179 : decode cX9_street 179 = .ok (.iload_n 2, 1) := by decide +kernel
theorem dX9_street_180 : decode cX9_street 180 = .ok (.iaload, 1) := by decide +kernel
theorem dX9_street_181 : decode cX9_street 181 = .ok (.iastore, 1) := by decide +kernel
theorem dX9_street_182 : decode cX9_street 182 = .ok (.aload_n 0, 1) := by decide +kernel
theorem dX9_street_183 : decode cX9_street 183 = .ok (.getfield 36, 3) := by decide +kernel
theorem dX9_street_186 : decode cX9_street 186 = .ok (.iload_n 2, 1) := by decide +kernel
theorem dX9_street_187 : decode cX9_street 187 = .ok (.aload_n 0, 1) := by decide +kernel
theorem dX9_street_188 : decode cX9_street 188 = .ok (.getfield 54, 3) := by decide +kernel
theorem dX9_street_191 : decode cX9_street 191 = .ok (.iload_n 2, 1) := by decide +kernel
theorem dX9_street_192 : decode cX9_street 192 = .ok (.iaload, 1) := by decide +kernel
theorem dX9_street_193 : decode cX9_street 193 = .ok (.iastore, 1) := by decide +kernel
theorem dX9_street_194 : decode cX9_street 194 = .ok (.iinc 2 1, 3) := by decide +kernel
theorem dX9_street_197 : decode cX9_street 197 = .ok (.goto (-59), 3) := by decide +kernel
theorem dX9_street_200 : decode cX9_street 200 = .ok (.aload_n 0, 1) := by decide +kernel
theorem dX9_street_201 : decode cX9_street 201 = .ok (.iconst 0, 1) := by decide +kernel
theorem dX9_street_202 : decode cX9_street 202 = .ok (.putfield 275, 3) := by decide +kernel
theorem dX9_street_205 : decode cX9_street 205 = .ok (.aload_n 0, 1) := by decide +kernel
theorem dX9_street_206 : decode cX9_street 206 = .ok (.iconst 0, 1) := by decide +kernel
theorem dX9_street_207 : decode cX9_street 207 = .ok (.putfield 278, 3) := by decide +kernel
theorem dX9_street_210 : decode cX9_street 210 = .ok (.aload_n 0, 1) := by decide +kernel
theorem dX9_street_211 : decode cX9_street 211 = .ok (.iconst (-1), 1) := by decide +kernel
theorem dX9_street_212 : decode cX9_street 212 = .ok (.putfield 67, 3) := by decide +kernel
theorem dX9_street_215 : decode cX9_street 215 = .ok (.aload_n 0, 1) := by decide +kernel
theorem dX9_street_216 : decode cX9_street 216 = .ok (.iconst 0, 1) := by decide +kernel
theorem dX9_street_217 : decode cX9_street 217 = .ok (.putfield 281, 3) := by decide +kernel
theorem dX9_street_220 : decode cX9_street 220 = .ok (.aload_n 0, 1) := by decide +kernel
theorem dX9_street_221 : decode cX9_street 221 = .ok (.dup, 1) := by decide +kernel
theorem dX9_street_222 : decode cX9_street 222 = .ok (.getfield 284, 3) := by decide +kernel
theorem dX9_street_225 : decode cX9_street 225 = .ok (.iconst 1, 1) := by decide +kernel
theorem dX9_street_226 : decode cX9_street 226 = .ok (.iadd, 1) := by decide +kernel
theorem dX9_street_227 : decode cX9_street 227 = .ok (.putfield 284, 3) := by decide +kernel
theorem dX9_street_230 : decode cX9_street 230 = .ok (.aload_n 0, 1) := by decide +kernel
theorem dX9_street_231 : decode cX9_street 231 = .ok (.getfield 260, 3) := by decide +kernel
theorem dX9_street_234 : decode cX9_street 234 = .ok (.ireturn, 1) := by decide +kernel
theorem dX9_fault_0 : decode cX9_fault 0 = .ok (.aload_n 0, 1) := by decide +kernel
theorem dX9_fault_1 : decode cX9_fault 1 = .ok (.getfield 57, 3) := by decide +kernel
theorem dX9_fault_4 : decode cX9_fault 4 = .ok (.ireturn, 1) := by decide +kernel
theorem dX9_told_0 : decode cX9_told 0 = .ok (.iload_n 1, 1) := by decide +kernel
theorem dX9_told_1 : decode cX9_told 1 = .ok (.tableswitch 87 0 7 #[47, 52, 57, 62, 67, 72, 77, 82], 47) := by decide +kernel
theorem dX9_told_48 : decode cX9_told 48 = .ok (.aload_n 0, 1) := by decide +kernel
theorem dX9_told_49 : decode cX9_told 49 = .ok (.getfield 260, 3) := by decide +kernel
theorem dX9_told_52 : decode cX9_told 52 = .ok (.ireturn, 1) := by decide +kernel
theorem dX9_told_53 : decode cX9_told 53 = .ok (.aload_n 0, 1) := by decide +kernel
theorem dX9_told_54 : decode cX9_told 54 = .ok (.getfield 263, 3) := by decide +kernel
theorem dX9_told_57 : decode cX9_told 57 = .ok (.ireturn, 1) := by decide +kernel
theorem dX9_told_58 : decode cX9_told 58 = .ok (.aload_n 0, 1) := by decide +kernel
theorem dX9_told_59 : decode cX9_told 59 = .ok (.getfield 7, 3) := by decide +kernel
theorem dX9_told_62 : decode cX9_told 62 = .ok (.ireturn, 1) := by decide +kernel
theorem dX9_told_63 : decode cX9_told 63 = .ok (.aload_n 0, 1) := by decide +kernel
theorem dX9_told_64 : decode cX9_told 64 = .ok (.getfield 13, 3) := by decide +kernel
theorem dX9_told_67 : decode cX9_told 67 = .ok (.ireturn, 1) := by decide +kernel
theorem dX9_told_68 : decode cX9_told 68 = .ok (.aload_n 0, 1) := by decide +kernel
theorem dX9_told_69 : decode cX9_told 69 = .ok (.getfield 16, 3) := by decide +kernel
theorem dX9_told_72 : decode cX9_told 72 = .ok (.ireturn, 1) := by decide +kernel
theorem dX9_told_73 : decode cX9_told 73 = .ok (.aload_n 0, 1) := by decide +kernel
theorem dX9_told_74 : decode cX9_told 74 = .ok (.getfield 266, 3) := by decide +kernel
theorem dX9_told_77 : decode cX9_told 77 = .ok (.ireturn, 1) := by decide +kernel
theorem dX9_told_78 : decode cX9_told 78 = .ok (.aload_n 0, 1) := by decide +kernel
theorem dX9_told_79 : decode cX9_told 79 = .ok (.getfield 269, 3) := by decide +kernel
theorem dX9_told_82 : decode cX9_told 82 = .ok (.ireturn, 1) := by decide +kernel
theorem dX9_told_83 : decode cX9_told 83 = .ok (.aload_n 0, 1) := by decide +kernel
theorem dX9_told_84 : decode cX9_told 84 = .ok (.getfield 272, 3) := by decide +kernel
theorem dX9_told_87 : decode cX9_told 87 = .ok (.ireturn, 1) := by decide +kernel
theorem dX9_told_88 : decode cX9_told 88 = .ok (.iload_n 1, 1) := by decide +kernel
theorem dX9_told_89 : decode cX9_told 89 = .ok (.bipush 100, 2) := by decide +kernel
theorem dX9_told_91 : decode cX9_told 91 = .ok (.bipush 99, 2) := by decide +kernel
theorem dX9_told_93 : decode cX9_told 93 = .ok (.aload_n 0, 1) := by decide +kernel
theorem dX9_told_94 : decode cX9_told 94 = .ok (.getfield 260, 3) := by decide +kernel
theorem dX9_told_97 : decode cX9_told 97 = .ok (.iadd, 1) := by decide +kernel
theorem dX9_told_98 : decode cX9_told 98 = .ok (.invokestatic 156, 3) := by decide +kernel
theorem dX9_told_101 : decode cX9_told 101 = .ok (.ifCond .eq 13, 3) := by decide +kernel
theorem dX9_told_104 : decode cX9_told 104 = .ok (.aload_n 0, 1) := by decide +kernel
theorem dX9_told_105 : decode cX9_told 105 = .ok (.getfield 23, 3) := by decide +kernel
theorem dX9_told_108 : decode cX9_told 108 = .ok (.iload_n 1, 1) := by decide +kernel
theorem dX9_told_109 : decode cX9_told 109 = .ok (.bipush 100, 2) := by decide +kernel
theorem dX9_told_111 : decode cX9_told 111 = .ok (.isub, 1) := by decide +kernel
theorem dX9_told_112 : decode cX9_told 112 = .ok (.iaload, 1) := by decide +kernel
theorem dX9_told_113 : decode cX9_told 113 = .ok (.ireturn, 1) := by decide +kernel
theorem dX9_told_114 : decode cX9_told 114 = .ok (.iload_n 1, 1) := by decide +kernel
theorem dX9_told_115 : decode cX9_told 115 = .ok (.sipush 200, 3) := by decide +kernel
theorem dX9_told_118 : decode cX9_told 118 = .ok (.sipush 199, 3) := by decide +kernel
theorem dX9_told_121 : decode cX9_told 121 = .ok (.iconst 4, 1) := by decide +kernel
theorem dX9_told_122 : decode cX9_told 122 = .ok (.aload_n 0, 1) := by decide +kernel
theorem dX9_told_123 : decode cX9_told 123 = .ok (.getfield 263, 3) := by decide +kernel
theorem dX9_told_126 : decode cX9_told 126 = .ok (.imul, 1) := by decide +kernel
theorem dX9_told_127 : decode cX9_told 127 = .ok (.iadd, 1) := by decide +kernel
theorem dX9_told_128 : decode cX9_told 128 = .ok (.invokestatic 156, 3) := by decide +kernel
theorem dX9_told_131 : decode cX9_told 131 = .ok (.ifCond .ne 5, 3) := by decide +kernel
theorem dX9_told_134 : decode cX9_told 134 = .ok (.iconst (-1), 1) := by decide +kernel
theorem dX9_told_135 : decode cX9_told 135 = .ok (.ireturn, 1) := by decide +kernel
theorem dX9_told_136 : decode cX9_told 136 = .ok (.iload_n 1, 1) := by decide +kernel
theorem dX9_told_137 : decode cX9_told 137 = .ok (.sipush 200, 3) := by decide +kernel
theorem dX9_told_140 : decode cX9_told 140 = .ok (.isub, 1) := by decide +kernel
theorem dX9_told_141 : decode cX9_told 141 = .ok (.iconst 4, 1) := by decide +kernel
theorem dX9_told_142 : decode cX9_told 142 = .ok (.idiv, 1) := by decide +kernel
theorem dX9_told_143 : decode cX9_told 143 = .ok (.istore_n 2, 1) := by decide +kernel
theorem dX9_told_144 : decode cX9_told 144 = .ok (.iload_n 1, 1) := by decide +kernel
theorem dX9_told_145 : decode cX9_told 145 = .ok (.iconst 4, 1) := by decide +kernel
theorem dX9_told_146 : decode cX9_told 146 = .ok (.irem, 1) := by decide +kernel
theorem dX9_told_147 : decode cX9_told 147 = .ok (.istore_n 3, 1) := by decide +kernel
theorem dX9_told_148 : decode cX9_told 148 = .ok (.iload_n 3, 1) := by decide +kernel
theorem dX9_told_149 : decode cX9_told 149 = .ok (.ifCond .ne 12, 3) := by decide +kernel
theorem dX9_told_152 : decode cX9_told 152 = .ok (.aload_n 0, 1) := by decide +kernel
theorem dX9_told_153 : decode cX9_told 153 = .ok (.getfield 27, 3) := by decide +kernel
theorem dX9_told_156 : decode cX9_told 156 = .ok (.iload_n 2, 1) := by decide +kernel
theorem dX9_told_157 : decode cX9_told 157 = .ok (.iaload, 1) := by decide +kernel
theorem dX9_told_158 : decode cX9_told 158 = .ok (.goto 37, 3) := by decide +kernel
theorem dX9_told_161 : decode cX9_told 161 = .ok (.iload_n 3, 1) := by decide +kernel
theorem dX9_told_162 : decode cX9_told 162 = .ok (.iconst 1, 1) := by decide +kernel
theorem dX9_told_163 : decode cX9_told 163 = .ok (.if_icmp .ne 12, 3) := by decide +kernel
theorem dX9_told_166 : decode cX9_told 166 = .ok (.aload_n 0, 1) := by decide +kernel
theorem dX9_told_167 : decode cX9_told 167 = .ok (.getfield 30, 3) := by decide +kernel
theorem dX9_told_170 : decode cX9_told 170 = .ok (.iload_n 2, 1) := by decide +kernel
theorem dX9_told_171 : decode cX9_told 171 = .ok (.iaload, 1) := by decide +kernel
theorem dX9_told_172 : decode cX9_told 172 = .ok (.goto 23, 3) := by decide +kernel
theorem dX9_told_175 : decode cX9_told 175 = .ok (.iload_n 3, 1) := by decide +kernel
theorem dX9_told_176 : decode cX9_told 176 = .ok (.iconst 2, 1) := by decide +kernel
theorem dX9_told_177 : decode cX9_told 177 = .ok (.if_icmp .ne 12, 3) := by decide +kernel
theorem dX9_told_180 : decode cX9_told 180 = .ok (.aload_n 0, 1) := by decide +kernel
theorem dX9_told_181 : decode cX9_told 181 = .ok (.getfield 33, 3) := by decide +kernel
theorem dX9_told_184 : decode cX9_told 184 = .ok (.iload_n 2, 1) := by decide +kernel
theorem dX9_told_185 : decode cX9_told 185 = .ok (.iaload, 1) := by decide +kernel
theorem dX9_told_186 : decode cX9_told 186 = .ok (.goto 9, 3) := by decide +kernel
theorem dX9_told_189 : decode cX9_told 189 = .ok (.aload_n 0, 1) := by decide +kernel
theorem dX9_told_190 : decode cX9_told 190 = .ok (.getfield 36, 3) := by decide +kernel
theorem dX9_told_193 : decode cX9_told 193 = .ok (.iload_n 2, 1) := by decide +kernel
theorem dX9_told_194 : decode cX9_told 194 = .ok (.iaload, 1) := by decide +kernel
theorem dX9_told_195 : decode cX9_told 195 = .ok (.ireturn, 1) := by decide +kernel
theorem dX9_isBaker_0 : decode cX9_isBaker 0 = .ok (.iload_n 1, 1) := by decide +kernel
theorem dX9_isBaker_1 : decode cX9_isBaker 1 = .ok (.iconst 0, 1) := by decide +kernel
theorem dX9_isBaker_2 : decode cX9_isBaker 2 = .ok (.aload_n 0, 1) := by decide +kernel
theorem dX9_isBaker_3 : decode cX9_isBaker 3 = .ok (.getfield 260, 3) := by decide +kernel
theorem dX9_isBaker_6 : decode cX9_isBaker 6 = .ok (.iconst 1, 1) := by decide +kernel
theorem dX9_isBaker_7 : decode cX9_isBaker 7 = .ok (.isub, 1) := by decide +kernel
theorem dX9_isBaker_8 : decode cX9_isBaker 8 = .ok (.invokestatic 156, 3) := by decide +kernel
theorem dX9_isBaker_11 : decode cX9_isBaker 11 = .ok (.ireturn, 1) := by decide +kernel
theorem dX9_isSort_0 : decode cX9_isSort 0 = .ok (.iload_n 1, 1) := by decide +kernel
theorem dX9_isSort_1 : decode cX9_isSort 1 = .ok (.iconst 0, 1) := by decide +kernel
theorem dX9_isSort_2 : decode cX9_isSort 2 = .ok (.aload_n 0, 1) := by decide +kernel
theorem dX9_isSort_3 : decode cX9_isSort 3 = .ok (.getfield 263, 3) := by decide +kernel
theorem dX9_isSort_6 : decode cX9_isSort 6 = .ok (.iconst 1, 1) := by decide +kernel
theorem dX9_isSort_7 : decode cX9_isSort 7 = .ok (.isub, 1) := by decide +kernel
theorem dX9_isSort_8 : decode cX9_isSort 8 = .ok (.invokestatic 156, 3) := by decide +kernel
theorem dX9_isSort_11 : decode cX9_isSort 11 = .ok (.ireturn, 1) := by decide +kernel
theorem dX9_isStep_0 : decode cX9_isStep 0 = .ok (.iload_n 1, 1) := by decide +kernel
theorem dX9_isStep_1 : decode cX9_isStep 1 = .ok (.iconst 0, 1) := by decide +kernel
theorem dX9_isStep_2 : decode cX9_isStep 2 = .ok (.aload_n 0, 1) := by decide +kernel
theorem dX9_isStep_3 : decode cX9_isStep 3 = .ok (.getfield 7, 3) := by decide +kernel
theorem dX9_isStep_6 : decode cX9_isStep 6 = .ok (.iconst 1, 1) := by decide +kernel
theorem dX9_isStep_7 : decode cX9_isStep 7 = .ok (.isub, 1) := by decide +kernel
theorem dX9_isStep_8 : decode cX9_isStep 8 = .ok (.invokestatic 156, 3) := by decide +kernel
theorem dX9_isStep_11 : decode cX9_isStep 11 = .ok (.ireturn, 1) := by decide +kernel
theorem dX9_price_0 : decode cX9_price 0 = .ok (.aload_n 0, 1) := by decide +kernel
theorem dX9_price_1 : decode cX9_price 1 = .ok (.getfield 13, 3) := by decide +kernel
theorem dX9_price_4 : decode cX9_price 4 = .ok (.iload_n 1, 1) := by decide +kernel
theorem dX9_price_5 : decode cX9_price 5 = .ok (.aload_n 0, 1) := by decide +kernel
theorem dX9_price_6 : decode cX9_price 6 = .ok (.getfield 16, 3) := by decide +kernel
theorem dX9_price_9 : decode cX9_price 9 = .ok (.imul, 1) := by decide +kernel
theorem dX9_price_10 : decode cX9_price 10 = .ok (.iadd, 1) := by decide +kernel
theorem dX9_price_11 : decode cX9_price 11 = .ok (.ireturn, 1) := by decide +kernel
theorem dX9_cost_0 : decode cX9_cost 0 = .ok (.aload_n 0, 1) := by decide +kernel
theorem dX9_cost_1 : decode cX9_cost 1 = .ok (.iload_n 1, 1) := by decide +kernel
theorem dX9_cost_2 : decode cX9_cost 2 = .ok (.invokevirtual 287, 3) := by decide +kernel
theorem dX9_cost_5 : decode cX9_cost 5 = .ok (.ifCond .eq 13, 3) := by decide +kernel
theorem dX9_cost_8 : decode cX9_cost 8 = .ok (.iload_n 2, 1) := by decide +kernel
theorem dX9_cost_9 : decode cX9_cost 9 = .ok (.iconst 0, 1) := by decide +kernel
theorem dX9_cost_10 : decode cX9_cost 10 = .ok (.bipush 99, 2) := by decide +kernel
theorem dX9_cost_12 : decode cX9_cost 12 = .ok (.invokestatic 156, 3) := by decide +kernel
theorem dX9_cost_15 : decode cX9_cost 15 = .ok (.ifCond .ne 5, 3) := by decide +kernel
theorem dX9_cost_18 : decode cX9_cost 18 = .ok (.iconst 0, 1) := by decide +kernel
theorem dX9_cost_19 : decode cX9_cost 19 = .ok (.ireturn, 1) := by decide +kernel
theorem dX9_cost_20 : decode cX9_cost 20 = .ok (.aload_n 0, 1) := by decide +kernel
theorem dX9_cost_21 : decode cX9_cost 21 = .ok (.getfield 23, 3) := by decide +kernel
theorem dX9_cost_24 : decode cX9_cost 24 = .ok (.iload_n 1, 1) := by decide +kernel
theorem dX9_cost_25 : decode cX9_cost 25 = .ok (.iload_n 2, 1) := by decide +kernel
theorem dX9_cost_26 : decode cX9_cost 26 = .ok (.iastore, 1) := by decide +kernel
theorem dX9_cost_27 : decode cX9_cost 27 = .ok (.iconst 1, 1) := by decide +kernel
theorem dX9_cost_28 : decode cX9_cost 28 = .ok (.ireturn, 1) := by decide +kernel
theorem dX9_promise_0 : decode cX9_promise 0 = .ok (.aload_n 0, 1) := by decide +kernel
theorem dX9_promise_1 : decode cX9_promise 1 = .ok (.iload_n 1, 1) := by decide +kernel
theorem dX9_promise_2 : decode cX9_promise 2 = .ok (.invokevirtual 287, 3) := by decide +kernel
theorem dX9_promise_5 : decode cX9_promise 5 = .ok (.ifCond .ne 5, 3) := by decide +kernel
theorem dX9_promise_8 : decode cX9_promise 8 = .ok (.iconst 0, 1) := by decide +kernel
theorem dX9_promise_9 : decode cX9_promise 9 = .ok (.ireturn, 1) := by decide +kernel
theorem dX9_promise_10 : decode cX9_promise 10 = .ok (.aload_n 0, 1) := by decide +kernel
theorem dX9_promise_11 : decode cX9_promise 11 = .ok (.iload_n 2, 1) := by decide +kernel
theorem dX9_promise_12 : decode cX9_promise 12 = .ok (.ifCond .eq 14, 3) := by decide +kernel
theorem dX9_promise_15 : decode cX9_promise 15 = .ok (.aload_n 0, 1) := by decide +kernel
theorem dX9_promise_16 : decode cX9_promise 16 = .ok (.getfield 275, 3) := by decide +kernel
theorem dX9_promise_19 : decode cX9_promise 19 = .ok (.iconst 1, 1) := by decide +kernel
theorem dX9_promise_20 : decode cX9_promise 20 = .ok (.iload_n 1, 1) := by decide +kernel
theorem dX9_promise_21 : decode cX9_promise 21 = .ok (.ishl, 1) := by decide +kernel
theorem dX9_promise_22 : decode cX9_promise 22 = .ok (.ior, 1) := by decide +kernel
theorem dX9_promise_23 : decode cX9_promise 23 = .ok (.goto 13, 3) := by decide +kernel
theorem dX9_promise_26 : decode cX9_promise 26 = .ok (.aload_n 0, 1) := by decide +kernel
theorem dX9_promise_27 : decode cX9_promise 27 = .ok (.getfield 275, 3) := by decide +kernel
theorem dX9_promise_30 : decode cX9_promise 30 = .ok (.iconst 1, 1) := by decide +kernel
theorem dX9_promise_31 : decode cX9_promise 31 = .ok (.iload_n 1, 1) := by decide +kernel
theorem dX9_promise_32 : decode cX9_promise 32 = .ok (.ishl, 1) := by decide +kernel
theorem dX9_promise_33 : decode cX9_promise 33 = .ok (.iconst (-1), 1) := by decide +kernel
theorem dX9_promise_34 : decode cX9_promise 34 = .ok (.ixor, 1) := by decide +kernel
theorem dX9_promise_35 : decode cX9_promise 35 = .ok (.iand, 1) := by decide +kernel
theorem dX9_promise_36 : decode cX9_promise 36 = .ok (.putfield 275, 3) := by decide +kernel
theorem dX9_promise_39 : decode cX9_promise 39 = .ok (.iconst 1, 1) := by decide +kernel
theorem dX9_promise_40 : decode cX9_promise 40 = .ok (.ireturn, 1) := by decide +kernel
theorem dX9_sure_0 : decode cX9_sure 0 = .ok (.aload_n 0, 1) := by decide +kernel
theorem dX9_sure_1 : decode cX9_sure 1 = .ok (.iload_n 1, 1) := by decide +kernel
theorem dX9_sure_2 : decode cX9_sure 2 = .ok (.invokevirtual 287, 3) := by decide +kernel
theorem dX9_sure_5 : decode cX9_sure 5 = .ok (.ifCond .eq 11, 3) := by decide +kernel
theorem dX9_sure_8 : decode cX9_sure 8 = .ok (.aload_n 0, 1) := by decide +kernel
theorem dX9_sure_9 : decode cX9_sure 9 = .ok (.iload_n 2, 1) := by decide +kernel
theorem dX9_sure_10 : decode cX9_sure 10 = .ok (.invokevirtual 290, 3) := by decide +kernel
theorem dX9_sure_13 : decode cX9_sure 13 = .ok (.ifCond .ne 5, 3) := by decide +kernel
theorem dX9_sure_16 : decode cX9_sure 16 = .ok (.iconst 0, 1) := by decide +kernel
theorem dX9_sure_17 : decode cX9_sure 17 = .ok (.ireturn, 1) := by decide +kernel
theorem dX9_sure_18 : decode cX9_sure 18 = .ok (.aload_n 0, 1) := by decide +kernel
theorem dX9_sure_19 : decode cX9_sure 19 = .ok (.getfield 70, 3) := by decide +kernel
theorem dX9_sure_22 : decode cX9_sure 22 = .ok (.iload_n 1, 1) := by decide +kernel
theorem dX9_sure_23 : decode cX9_sure 23 = .ok (.iconst 1, 1) := by decide +kernel
theorem dX9_sure_24 : decode cX9_sure 24 = .ok (.iastore, 1) := by decide +kernel
theorem dX9_sure_25 : decode cX9_sure 25 = .ok (.aload_n 0, 1) := by decide +kernel
theorem dX9_sure_26 : decode cX9_sure 26 = .ok (.getfield 73, 3) := by decide +kernel
theorem dX9_sure_29 : decode cX9_sure 29 = .ok (.iload_n 1, 1) := by decide +kernel
theorem dX9_sure_30 : decode cX9_sure 30 = .ok (.iload_n 2, 1) := by decide +kernel
theorem dX9_sure_31 : decode cX9_sure 31 = .ok (.iastore, 1) := by decide +kernel
theorem dX9_sure_32 : decode cX9_sure 32 = .ok (.iconst 1, 1) := by decide +kernel
theorem dX9_sure_33 : decode cX9_sure 33 = .ok (.ireturn, 1) := by decide +kernel
theorem dX9_lot_0 : decode cX9_lot 0 = .ok (.aload_n 0, 1) := by decide +kernel
theorem dX9_lot_1 : decode cX9_lot 1 = .ok (.iload_n 1, 1) := by decide +kernel
theorem dX9_lot_2 : decode cX9_lot 2 = .ok (.invokevirtual 287, 3) := by decide +kernel
theorem dX9_lot_5 : decode cX9_lot 5 = .ok (.ifCond .eq 23, 3) := by decide +kernel
theorem dX9_lot_8 : decode cX9_lot 8 = .ok (.iload_n 2, 1) := by decide +kernel
theorem dX9_lot_9 : decode cX9_lot 9 = .ok (.iconst 0, 1) := by decide +kernel
theorem dX9_lot_10 : decode cX9_lot 10 = .ok (.bipush 7, 2) := by decide +kernel
theorem dX9_lot_12 : decode cX9_lot 12 = .ok (.invokestatic 156, 3) := by decide +kernel
theorem dX9_lot_15 : decode cX9_lot 15 = .ok (.ifCond .eq 13, 3) := by decide +kernel
theorem dX9_lot_18 : decode cX9_lot 18 = .ok (.iload_n 3, 1) := by decide +kernel
theorem dX9_lot_19 : decode cX9_lot 19 = .ok (.iconst 0, 1) := by decide +kernel
theorem dX9_lot_20 : decode cX9_lot 20 = .ok (.bipush 100, 2) := by decide +kernel
theorem dX9_lot_22 : decode cX9_lot 22 = .ok (.invokestatic 156, 3) := by decide +kernel
theorem dX9_lot_25 : decode cX9_lot 25 = .ok (.ifCond .ne 5, 3) := by decide +kernel
theorem dX9_lot_28 : decode cX9_lot 28 = .ok (.iconst 0, 1) := by decide +kernel
theorem dX9_lot_29 : decode cX9_lot 29 = .ok (.ireturn, 1) := by decide +kernel
theorem dX9_lot_30 : decode cX9_lot 30 = .ok (.iconst 0, 1) := by decide +kernel
theorem dX9_lot_31 : decode cX9_lot 31 = .ok (.istore 4, 2) := by decide +kernel
theorem dX9_lot_33 : decode cX9_lot 33 = .ok (.iload 4, 2) := by decide +kernel
theorem dX9_lot_35 : decode cX9_lot 35 = .ok (.bipush 8, 2) := by decide +kernel
theorem dX9_lot_37 : decode cX9_lot 37 = .ok (.if_icmp .ge 32, 3) := by decide +kernel
theorem dX9_lot_40 : decode cX9_lot 40 = .ok (.aload_n 0, 1) := by decide +kernel
theorem dX9_lot_41 : decode cX9_lot 41 = .ok (.getfield 70, 3) := by decide +kernel
theorem dX9_lot_44 : decode cX9_lot 44 = .ok (.iload_n 1, 1) := by decide +kernel
theorem dX9_lot_45 : decode cX9_lot 45 = .ok (.iaload, 1) := by decide +kernel
theorem dX9_lot_46 : decode cX9_lot 46 = .ok (.iconst 2, 1) := by decide +kernel
theorem dX9_lot_47 : decode cX9_lot 47 = .ok (.if_icmp .eq 22, 3) := by decide +kernel
theorem dX9_lot_50 : decode cX9_lot 50 = .ok (.aload_n 0, 1) := by decide +kernel
theorem dX9_lot_51 : decode cX9_lot 51 = .ok (.getfield 76, 3) := by decide +kernel
theorem dX9_lot_54 : decode cX9_lot 54 = .ok (.bipush 8, 2) := by decide +kernel
theorem dX9_lot_56 : decode cX9_lot 56 = .ok (.iload_n 1, 1) := by decide +kernel
theorem dX9_lot_57 : decode cX9_lot 57 = .ok (.imul, 1) := by decide +kernel
theorem dX9_lot_58 : decode cX9_lot 58 = .ok (.iload 4, 2) := by decide +kernel
theorem dX9_lot_60 : decode cX9_lot 60 = .ok (.iadd, 1) := by decide +kernel
theorem dX9_lot_61 : decode cX9_lot 61 = .ok (.iconst 0, 1) := by decide +kernel
theorem dX9_lot_62 : decode cX9_lot 62 = .ok (.iastore, 1) := by decide +kernel
theorem dX9_lot_63 : decode cX9_lot 63 = .ok (.iinc 4 1, 3) := by decide +kernel
theorem dX9_lot_66 : decode cX9_lot 66 = .ok (.goto (-33), 3) := by decide +kernel
theorem dX9_lot_69 : decode cX9_lot 69 = .ok (.aload_n 0, 1) := by decide +kernel
theorem dX9_lot_70 : decode cX9_lot 70 = .ok (.getfield 70, 3) := by decide +kernel
theorem dX9_lot_73 : decode cX9_lot 73 = .ok (.iload_n 1, 1) := by decide +kernel
theorem dX9_lot_74 : decode cX9_lot 74 = .ok (.iconst 2, 1) := by decide +kernel
theorem dX9_lot_75 : decode cX9_lot 75 = .ok (.iastore, 1) := by decide +kernel
theorem dX9_lot_76 : decode cX9_lot 76 = .ok (.aload_n 0, 1) := by decide +kernel
theorem dX9_lot_77 : decode cX9_lot 77 = .ok (.getfield 76, 3) := by decide +kernel
theorem dX9_lot_80 : decode cX9_lot 80 = .ok (.bipush 8, 2) := by decide +kernel
theorem dX9_lot_82 : decode cX9_lot 82 = .ok (.iload_n 1, 1) := by decide +kernel
theorem dX9_lot_83 : decode cX9_lot 83 = .ok (.imul, 1) := by decide +kernel
theorem dX9_lot_84 : decode cX9_lot 84 = .ok (.iload_n 2, 1) := by decide +kernel
theorem dX9_lot_85 : decode cX9_lot 85 = .ok (.iadd, 1) := by decide +kernel
theorem dX9_lot_86 : decode cX9_lot 86 = .ok (.iload_n 3, 1) := by decide +kernel
theorem dX9_lot_87 : decode cX9_lot 87 = .ok (.iastore, 1) := by decide +kernel
theorem dX9_lot_88 : decode cX9_lot 88 = .ok (.iconst 1, 1) := by decide +kernel
theorem dX9_lot_89 : decode cX9_lot 89 = .ok (.ireturn, 1) := by decide +kernel
theorem dX9_answer_0 : decode cX9_answer 0 = .ok (.aload_n 0, 1) := by decide +kernel
theorem dX9_answer_1 : decode cX9_answer 1 = .ok (.iload_n 1, 1) := by decide +kernel
theorem dX9_answer_2 : decode cX9_answer 2 = .ok (.invokevirtual 287, 3) := by decide +kernel
theorem dX9_answer_5 : decode cX9_answer 5 = .ok (.ifCond .ne 5, 3) := by decide +kernel
theorem dX9_answer_8 : decode cX9_answer 8 = .ok (.iconst 0, 1) := by decide +kernel
theorem dX9_answer_9 : decode cX9_answer 9 = .ok (.ireturn, 1) := by decide +kernel
theorem dX9_answer_10 : decode cX9_answer 10 = .ok (.aload_n 0, 1) := by decide +kernel
theorem dX9_answer_11 : decode cX9_answer 11 = .ok (.getfield 70, 3) := by decide +kernel
theorem dX9_answer_14 : decode cX9_answer 14 = .ok (.iload_n 1, 1) := by decide +kernel
theorem dX9_answer_15 : decode cX9_answer 15 = .ok (.iconst 3, 1) := by decide +kernel
theorem dX9_answer_16 : decode cX9_answer 16 = .ok (.iastore, 1) := by decide +kernel
theorem dX9_answer_17 : decode cX9_answer 17 = .ok (.iconst 1, 1) := by decide +kernel
theorem dX9_answer_18 : decode cX9_answer 18 = .ok (.ireturn, 1) := by decide +kernel
theorem dX9_ask_0 : decode cX9_ask 0 = .ok (.aload_n 0, 1) := by decide +kernel
theorem dX9_ask_1 : decode cX9_ask 1 = .ok (.iload_n 1, 1) := by decide +kernel
theorem dX9_ask_2 : decode cX9_ask 2 = .ok (.invokevirtual 287, 3) := by decide +kernel
theorem dX9_ask_5 : decode cX9_ask 5 = .ok (.ifCond .eq 12, 3) := by decide +kernel
theorem dX9_ask_8 : decode cX9_ask 8 = .ok (.aload_n 0, 1) := by decide +kernel
theorem dX9_ask_9 : decode cX9_ask 9 = .ok (.getfield 70, 3) := by decide +kernel
theorem dX9_ask_12 : decode cX9_ask 12 = .ok (.iload_n 1, 1) := by decide +kernel
theorem dX9_ask_13 : decode cX9_ask 13 = .ok (.iaload, 1) := by decide +kernel
theorem dX9_ask_14 : decode cX9_ask 14 = .ok (.goto 4, 3) := by decide +kernel
theorem dX9_ask_17 : decode cX9_ask 17 = .ok (.iconst (-1), 1) := by decide +kernel
theorem dX9_ask_18 : decode cX9_ask 18 = .ok (.ireturn, 1) := by decide +kernel
theorem dX9_law_0 : decode cX9_law 0 = .ok (.iload_n 1, 1) := by decide +kernel
theorem dX9_law_1 : decode cX9_law 1 = .ok (.iconst 0, 1) := by decide +kernel
theorem dX9_law_2 : decode cX9_law 2 = .ok (.iconst 2, 1) := by decide +kernel
theorem dX9_law_3 : decode cX9_law 3 = .ok (.invokestatic 156, 3) := by decide +kernel
theorem dX9_law_6 : decode cX9_law 6 = .ok (.ifCond .eq 22, 3) := by decide +kernel
theorem dX9_law_9 : decode cX9_law 9 = .ok (.iload_n 2, 1) := by decide +kernel
theorem dX9_law_10 : decode cX9_law 10 = .ok (.iconst 0, 1) := by decide +kernel
theorem dX9_law_11 : decode cX9_law 11 = .ok (.bipush 7, 2) := by decide +kernel
theorem dX9_law_13 : decode cX9_law 13 = .ok (.invokestatic 156, 3) := by decide +kernel
theorem dX9_law_16 : decode cX9_law 16 = .ok (.ifCond .eq 12, 3) := by decide +kernel
theorem dX9_law_19 : decode cX9_law 19 = .ok (.aload_n 0, 1) := by decide +kernel
theorem dX9_law_20 : decode cX9_law 20 = .ok (.getfield 278, 3) := by decide +kernel
theorem dX9_law_23 : decode cX9_law 23 = .ok (.bipush 6, 2) := by decide +kernel
theorem dX9_law_25 : decode cX9_law 25 = .ok (.if_icmp .ne 5, 3) := by decide +kernel
theorem dX9_law_28 : decode cX9_law 28 = .ok (.iconst (-1), 1) := by decide +kernel
theorem dX9_law_29 : decode cX9_law 29 = .ok (.ireturn, 1) := by decide +kernel
theorem dX9_law_30 : decode cX9_law 30 = .ok (.aload_n 0, 1) := by decide +kernel
theorem dX9_law_31 : decode cX9_law 31 = .ok (.getfield 82, 3) := by decide +kernel
theorem dX9_law_34 : decode cX9_law 34 = .ok (.aload_n 0, 1) := by decide +kernel
theorem dX9_law_35 : decode cX9_law 35 = .ok (.getfield 278, 3) := by decide +kernel
theorem dX9_law_38 : decode cX9_law 38 = .ok (.iload_n 1, 1) := by decide +kernel
theorem dX9_law_39 : decode cX9_law 39 = .ok (.iastore, 1) := by decide +kernel
theorem dX9_law_40 : decode cX9_law 40 = .ok (.aload_n 0, 1) := by decide +kernel
theorem dX9_law_41 : decode cX9_law 41 = .ok (.getfield 85, 3) := by decide +kernel
theorem dX9_law_44 : decode cX9_law 44 = .ok (.aload_n 0, 1) := by decide +kernel
theorem dX9_law_45 : decode cX9_law 45 = .ok (.getfield 278, 3) := by decide +kernel
theorem dX9_law_48 : decode cX9_law 48 = .ok (.iload_n 2, 1) := by decide +kernel
theorem dX9_law_49 : decode cX9_law 49 = .ok (.iastore, 1) := by decide +kernel
theorem dX9_law_50 : decode cX9_law 50 = .ok (.aload_n 0, 1) := by decide +kernel
theorem dX9_law_51 : decode cX9_law 51 = .ok (.dup, 1) := by decide +kernel
theorem dX9_law_52 : decode cX9_law 52 = .ok (.getfield 278, 3) := by decide +kernel
theorem dX9_law_55 : decode cX9_law 55 = .ok (.iconst 1, 1) := by decide +kernel
theorem dX9_law_56 : decode cX9_law 56 = .ok (.iadd, 1) := by decide +kernel
theorem dX9_law_57 : decode cX9_law 57 = .ok (.putfield 278, 3) := by decide +kernel
theorem dX9_law_60 : decode cX9_law 60 = .ok (.aload_n 0, 1) := by decide +kernel
theorem dX9_law_61 : decode cX9_law 61 = .ok (.getfield 278, 3) := by decide +kernel
theorem dX9_law_64 : decode cX9_law 64 = .ok (.iconst 1, 1) := by decide +kernel
theorem dX9_law_65 : decode cX9_law 65 = .ok (.isub, 1) := by decide +kernel
theorem dX9_law_66 : decode cX9_law 66 = .ok (.ireturn, 1) := by decide +kernel
theorem dX9_force_0 : decode cX9_force 0 = .ok (.iload_n 1, 1) := by decide +kernel
theorem dX9_force_1 : decode cX9_force 1 = .ok (.iconst (-1), 1) := by decide +kernel
theorem dX9_force_2 : decode cX9_force 2 = .ok (.aload_n 0, 1) := by decide +kernel
theorem dX9_force_3 : decode cX9_force 3 = .ok (.getfield 278, 3) := by decide +kernel
theorem dX9_force_6 : decode cX9_force 6 = .ok (.iconst 1, 1) := by decide +kernel
theorem dX9_force_7 : decode cX9_force 7 = .ok (.isub, 1) := by decide +kernel
theorem dX9_force_8 : decode cX9_force 8 = .ok (.invokestatic 156, 3) := by decide +kernel
theorem dX9_force_11 : decode cX9_force 11 = .ok (.ifCond .ne 5, 3) := by decide +kernel
theorem dX9_force_14 : decode cX9_force 14 = .ok (.iconst 0, 1) := by decide +kernel
theorem dX9_force_15 : decode cX9_force 15 = .ok (.ireturn, 1) := by decide +kernel
theorem dX9_force_16 : decode cX9_force 16 = .ok (.aload_n 0, 1) := by decide +kernel
theorem dX9_force_17 : decode cX9_force 17 = .ok (.iload_n 1, 1) := by decide +kernel
theorem dX9_force_18 : decode cX9_force 18 = .ok (.putfield 67, 3) := by decide +kernel
theorem dX9_force_21 : decode cX9_force 21 = .ok (.iconst 1, 1) := by decide +kernel
theorem dX9_force_22 : decode cX9_force 22 = .ok (.ireturn, 1) := by decide +kernel
theorem dX9_isBarred_0 : decode cX9_isBarred 0 = .ok (.aload_n 0, 1) := by decide +kernel
theorem dX9_isBarred_1 : decode cX9_isBarred 1 = .ok (.getfield 67, 3) := by decide +kernel
theorem dX9_isBarred_4 : decode cX9_isBarred 4 = .ok (.iconst (-1), 1) := by decide +kernel
theorem dX9_isBarred_5 : decode cX9_isBarred 5 = .ok (.if_icmp .eq 58, 3) := by decide +kernel
theorem dX9_isBarred_8 : decode cX9_isBarred 8 = .ok (.aload_n 0, 1) := by decide +kernel
theorem dX9_isBarred_9 : decode cX9_isBarred 9 = .ok (.getfield 82, 3) := by decide +kernel
theorem dX9_isBarred_12 : decode cX9_isBarred 12 = .ok (.aload_n 0, 1) := by decide +kernel
theorem dX9_isBarred_13 : decode cX9_isBarred 13 = .ok (.getfield 67, 3) := by decide +kernel
theorem dX9_isBarred_16 : decode cX9_isBarred 16 = .ok (.iaload, 1) := by decide +kernel
theorem dX9_isBarred_17 : decode cX9_isBarred 17 = .ok (.ifCond .ne 16, 3) := by decide +kernel
theorem dX9_isBarred_20 : decode cX9_isBarred 20 = .ok (.iload_n 1, 1) := by decide +kernel
theorem dX9_isBarred_21 : decode cX9_isBarred 21 = .ok (.aload_n 0, 1) := by decide +kernel
theorem dX9_isBarred_22 : decode cX9_isBarred 22 = .ok (.getfield 85, 3) := by decide +kernel
theorem dX9_isBarred_25 : decode cX9_isBarred 25 = .ok (.aload_n 0, 1) := by decide +kernel
theorem dX9_isBarred_26 : decode cX9_isBarred 26 = .ok (.getfield 67, 3) := by decide +kernel
theorem dX9_isBarred_29 : decode cX9_isBarred 29 = .ok (.iaload, 1) := by decide +kernel
theorem dX9_isBarred_30 : decode cX9_isBarred 30 = .ok (.if_icmp .gt 29, 3) := by decide +kernel
theorem dX9_isBarred_33 : decode cX9_isBarred 33 = .ok (.aload_n 0, 1) := by decide +kernel
theorem dX9_isBarred_34 : decode cX9_isBarred 34 = .ok (.getfield 82, 3) := by decide +kernel
theorem dX9_isBarred_37 : decode cX9_isBarred 37 = .ok (.aload_n 0, 1) := by decide +kernel
theorem dX9_isBarred_38 : decode cX9_isBarred 38 = .ok (.getfield 67, 3) := by decide +kernel
theorem dX9_isBarred_41 : decode cX9_isBarred 41 = .ok (.iaload, 1) := by decide +kernel
theorem dX9_isBarred_42 : decode cX9_isBarred 42 = .ok (.iconst 1, 1) := by decide +kernel
theorem dX9_isBarred_43 : decode cX9_isBarred 43 = .ok (.if_icmp .ne 20, 3) := by decide +kernel
theorem dX9_isBarred_46 : decode cX9_isBarred 46 = .ok (.iload_n 1, 1) := by decide +kernel
theorem dX9_isBarred_47 : decode cX9_isBarred 47 = .ok (.aload_n 0, 1) := by decide +kernel
theorem dX9_isBarred_48 : decode cX9_isBarred 48 = .ok (.getfield 85, 3) := by decide +kernel
theorem dX9_isBarred_51 : decode cX9_isBarred 51 = .ok (.aload_n 0, 1) := by decide +kernel
theorem dX9_isBarred_52 : decode cX9_isBarred 52 = .ok (.getfield 67, 3) := by decide +kernel
theorem dX9_isBarred_55 : decode cX9_isBarred 55 = .ok (.iaload, 1) := by decide +kernel
theorem dX9_isBarred_56 : decode cX9_isBarred 56 = .ok (.if_icmp .ge 7, 3) := by decide +kernel
theorem dX9_isBarred_59 : decode cX9_isBarred 59 = .ok (.iconst 1, 1) := by decide +kernel
theorem dX9_isBarred_60 : decode cX9_isBarred 60 = .ok (.goto 4, 3) := by decide +kernel
theorem dX9_isBarred_63 : decode cX9_isBarred 63 = .ok (.iconst 0, 1) := by decide +kernel
theorem dX9_isBarred_64 : decode cX9_isBarred 64 = .ok (.ireturn, 1) := by decide +kernel
theorem dX9_isShouted_0 : decode cX9_isShouted 0 = .ok (.aload_n 0, 1) := by decide +kernel
theorem dX9_isShouted_1 : decode cX9_isShouted 1 = .ok (.getfield 67, 3) := by decide +kernel
theorem dX9_isShouted_4 : decode cX9_isShouted 4 = .ok (.iconst (-1), 1) := by decide +kernel
theorem dX9_isShouted_5 : decode cX9_isShouted 5 = .ok (.if_icmp .eq 20, 3) := by decide +kernel
theorem dX9_isShouted_8 : decode cX9_isShouted 8 = .ok (.aload_n 0, 1) := by decide +kernel
theorem dX9_isShouted_9 : decode cX9_isShouted 9 = .ok (.getfield 82, 3) := by decide +kernel
theorem dX9_isShouted_12 : decode cX9_isShouted 12 = .ok (.aload_n 0, 1) := by decide +kernel
theorem dX9_isShouted_13 : decode cX9_isShouted 13 = .ok (.getfield 67, 3) := by decide +kernel
theorem dX9_isShouted_16 : decode cX9_isShouted 16 = .ok (.iaload, 1) := by decide +kernel
theorem dX9_isShouted_17 : decode cX9_isShouted 17 = .ok (.iconst 2, 1) := by decide +kernel
theorem dX9_isShouted_18 : decode cX9_isShouted 18 = .ok (.if_icmp .ne 7, 3) := by decide +kernel
theorem dX9_isShouted_21 : decode cX9_isShouted 21 = .ok (.iconst 1, 1) := by decide +kernel
theorem dX9_isShouted_22 : decode cX9_isShouted 22 = .ok (.goto 4, 3) := by decide +kernel
theorem dX9_isShouted_25 : decode cX9_isShouted 25 = .ok (.iconst 0, 1) := by decide +kernel
theorem dX9_isShouted_26 : decode cX9_isShouted 26 = .ok (.ireturn, 1) := by decide +kernel
theorem dX9_isAllBarred_0 : decode cX9_isAllBarred 0 = .ok (.iconst 1, 1) := by decide +kernel
theorem dX9_isAllBarred_1 : decode cX9_isAllBarred 1 = .ok (.istore_n 1, 1) := by decide +kernel
theorem dX9_isAllBarred_2 : decode cX9_isAllBarred 2 = .ok (.iconst 0, 1) := by decide +kernel
theorem dX9_isAllBarred_3 : decode cX9_isAllBarred 3 = .ok (.istore_n 2, 1) := by decide +kernel
theorem dX9_isAllBarred_4 : decode cX9_isAllBarred 4 = .ok (.iload_n 2, 1) := by decide +kernel
theorem dX9_isAllBarred_5 : decode cX9_isAllBarred 5 = .ok (.aload_n 0, 1) := by decide +kernel
theorem dX9_isAllBarred_6 : decode cX9_isAllBarred 6 = .ok (.getfield 7, 3) := by decide +kernel
theorem dX9_isAllBarred_9 : decode cX9_isAllBarred 9 = .ok (.if_icmp .ge 27, 3) := by decide +kernel
theorem dX9_isAllBarred_12 : decode cX9_isAllBarred 12 = .ok (.iload_n 1, 1) := by decide +kernel
theorem dX9_isAllBarred_13 : decode cX9_isAllBarred 13 = .ok (.ifCond .eq 15, 3) := by decide +kernel
theorem dX9_isAllBarred_16 : decode cX9_isAllBarred 16 = .ok (.aload_n 0, 1) := by decide +kernel
theorem dX9_isAllBarred_17 : decode cX9_isAllBarred 17 = .ok (.iload_n 2, 1) := by decide +kernel
theorem dX9_isAllBarred_18 : decode cX9_isAllBarred 18 = .ok (.invokevirtual 293, 3) := by decide +kernel
theorem dX9_isAllBarred_21 : decode cX9_isAllBarred 21 = .ok (.ifCond .eq 7, 3) := by decide +kernel
theorem dX9_isAllBarred_24 : decode cX9_isAllBarred 24 = .ok (.iconst 1, 1) := by decide +kernel
theorem dX9_isAllBarred_25 : decode cX9_isAllBarred 25 = .ok (.goto 4, 3) := by decide +kernel
theorem dX9_isAllBarred_28 : decode cX9_isAllBarred 28 = .ok (.iconst 0, 1) := by decide +kernel
theorem dX9_isAllBarred_29 : decode cX9_isAllBarred 29 = .ok (.istore_n 1, 1) := by decide +kernel
theorem dX9_isAllBarred_30 : decode cX9_isAllBarred 30 = .ok (.iinc 2 1, 3) := by decide +kernel
theorem dX9_isAllBarred_33 : decode cX9_isAllBarred 33 = .ok (.goto (-29), 3) := by decide +kernel
theorem dX9_isAllBarred_36 : decode cX9_isAllBarred 36 = .ok (.iload_n 1, 1) := by decide +kernel
theorem dX9_isAllBarred_37 : decode cX9_isAllBarred 37 = .ok (.ireturn, 1) := by decide +kernel
theorem dX9_puts_0 : decode cX9_puts 0 = .ok (.iconst 0, 1) := by decide +kernel
theorem dX9_puts_1 : decode cX9_puts 1 = .ok (.istore_n 3, 1) := by decide +kernel
theorem dX9_puts_2 : decode cX9_puts 2 = .ok (.iload_n 3, 1) := by decide +kernel
theorem dX9_puts_3 : decode cX9_puts 3 = .ok (.bipush 8, 2) := by decide +kernel
theorem dX9_puts_5 : decode cX9_puts 5 = .ok (.if_icmp .ge 31, 3) := by decide +kernel
theorem dX9_puts_8 : decode cX9_puts 8 = .ok (.aload_n 0, 1) := by decide +kernel
theorem dX9_puts_9 : decode cX9_puts 9 = .ok (.getfield 79, 3) := by decide +kernel
theorem dX9_puts_12 : decode cX9_puts 12 = .ok (.bipush 8, 2) := by decide +kernel
theorem dX9_puts_14 : decode cX9_puts 14 = .ok (.iload_n 1, 1) := by decide +kernel
theorem dX9_puts_15 : decode cX9_puts 15 = .ok (.imul, 1) := by decide +kernel
theorem dX9_puts_16 : decode cX9_puts 16 = .ok (.iload_n 3, 1) := by decide +kernel
theorem dX9_puts_17 : decode cX9_puts 17 = .ok (.iadd, 1) := by decide +kernel
theorem dX9_puts_18 : decode cX9_puts 18 = .ok (.iload_n 3, 1) := by decide +kernel
theorem dX9_puts_19 : decode cX9_puts 19 = .ok (.iload_n 2, 1) := by decide +kernel
theorem dX9_puts_20 : decode cX9_puts 20 = .ok (.if_icmp .ne 8, 3) := by decide +kernel
theorem dX9_puts_23 : decode cX9_puts 23 = .ok (.bipush 100, 2) := by decide +kernel
theorem dX9_puts_25 : decode cX9_puts 25 = .ok (.goto 4, 3) := by decide +kernel
theorem dX9_puts_28 : decode cX9_puts 28 = .ok (.iconst 0, 1) := by decide +kernel
theorem dX9_puts_29 : decode cX9_puts 29 = .ok (.iastore, 1) := by decide +kernel
theorem dX9_puts_30 : decode cX9_puts 30 = .ok (.iinc 3 1, 3) := by decide +kernel
theorem dX9_puts_33 : decode cX9_puts 33 = .ok (.goto (-31), 3) := by decide +kernel
theorem dX9_puts_36 : decode cX9_puts 36 = .ok (.return_, 1) := by decide +kernel
theorem dX9_lays_0 : decode cX9_lays 0 = .ok (.iconst 0, 1) := by decide +kernel
theorem dX9_lays_1 : decode cX9_lays 1 = .ok (.istore_n 2, 1) := by decide +kernel
theorem dX9_lays_2 : decode cX9_lays 2 = .ok (.iconst 1, 1) := by decide +kernel
theorem dX9_lays_3 : decode cX9_lays 3 = .ok (.istore_n 3, 1) := by decide +kernel
theorem dX9_lays_4 : decode cX9_lays 4 = .ok (.iconst 0, 1) := by decide +kernel
theorem dX9_lays_5 : decode cX9_lays 5 = .ok (.istore 4, 2) := by decide +kernel
theorem dX9_lays_7 : decode cX9_lays 7 = .ok (.iload 4, 2) := by decide +kernel
theorem dX9_lays_9 : decode cX9_lays 9 = .ok (.bipush 8, 2) := by decide +kernel
theorem dX9_lays_11 : decode cX9_lays 11 = .ok (.if_icmp .ge 119, 3) := by decide +kernel
theorem dX9_lays_14 : decode cX9_lays 14 = .ok (.aload_n 0, 1) := by decide +kernel
theorem dX9_lays_15 : decode cX9_lays 15 = .ok (.getfield 70, 3) := by decide +kernel
theorem dX9_lays_18 : decode cX9_lays 18 = .ok (.iload_n 1, 1) := by decide +kernel
theorem dX9_lays_19 : decode cX9_lays 19 = .ok (.iaload, 1) := by decide +kernel
theorem dX9_lays_20 : decode cX9_lays 20 = .ok (.iconst 1, 1) := by decide +kernel
theorem dX9_lays_21 : decode cX9_lays 21 = .ok (.if_icmp .ne 23, 3) := by decide +kernel
theorem dX9_lays_24 : decode cX9_lays 24 = .ok (.iload 4, 2) := by decide +kernel
theorem dX9_lays_26 : decode cX9_lays 26 = .ok (.aload_n 0, 1) := by decide +kernel
theorem dX9_lays_27 : decode cX9_lays 27 = .ok (.getfield 73, 3) := by decide +kernel
theorem dX9_lays_30 : decode cX9_lays 30 = .ok (.iload_n 1, 1) := by decide +kernel
theorem dX9_lays_31 : decode cX9_lays 31 = .ok (.iaload, 1) := by decide +kernel
theorem dX9_lays_32 : decode cX9_lays 32 = .ok (.if_icmp .ne 8, 3) := by decide +kernel
theorem dX9_lays_35 : decode cX9_lays 35 = .ok (.bipush 100, 2) := by decide +kernel
theorem dX9_lays_37 : decode cX9_lays 37 = .ok (.goto 33, 3) := by decide +kernel
theorem dX9_lays_40 : decode cX9_lays 40 = .ok (.iconst 0, 1) := by decide +kernel
theorem dX9_lays_41 : decode cX9_lays 41 = .ok (.goto 29, 3) := by decide +kernel
theorem dX9_lays_44 : decode cX9_lays 44 = .ok (.aload_n 0, 1) := by decide +kernel
theorem dX9_lays_45 : decode cX9_lays 45 = .ok (.getfield 70, 3) := by decide +kernel
theorem dX9_lays_48 : decode cX9_lays 48 = .ok (.iload_n 1, 1) := by decide +kernel
theorem dX9_lays_49 : decode cX9_lays 49 = .ok (.iaload, 1) := by decide +kernel
theorem dX9_lays_50 : decode cX9_lays 50 = .ok (.iconst 2, 1) := by decide +kernel
theorem dX9_lays_51 : decode cX9_lays 51 = .ok (.if_icmp .ne 18, 3) := by decide +kernel
theorem dX9_lays_54 : decode cX9_lays 54 = .ok (.aload_n 0, 1) := by decide +kernel
theorem dX9_lays_55 : decode cX9_lays 55 = .ok (.getfield 76, 3) := by decide +kernel
theorem dX9_lays_58 : decode cX9_lays 58 = .ok (.bipush 8, 2) := by decide +kernel
theorem dX9_lays_60 : decode cX9_lays 60 = .ok (.iload_n 1, 1) := by decide +kernel
theorem dX9_lays_61 : decode cX9_lays 61 = .ok (.imul, 1) := by decide +kernel
theorem dX9_lays_62 : decode cX9_lays 62 = .ok (.iload 4, 2) := by decide +kernel
theorem dX9_lays_64 : decode cX9_lays 64 = .ok (.iadd, 1) := by decide +kernel
theorem dX9_lays_65 : decode cX9_lays 65 = .ok (.iaload, 1) := by decide +kernel
theorem dX9_lays_66 : decode cX9_lays 66 = .ok (.goto 4, 3) := by decide +kernel
theorem dX9_lays_69 : decode cX9_lays 69 = .ok (.iconst 0, 1) := by decide +kernel
theorem dX9_lays_70 : decode cX9_lays 70 = .ok (.istore 5, 2) := by decide +kernel
theorem dX9_lays_72 : decode cX9_lays 72 = .ok (.aload_n 0, 1) := by decide +kernel
theorem dX9_lays_73 : decode cX9_lays 73 = .ok (.getfield 79, 3) := by decide +kernel
theorem dX9_lays_76 : decode cX9_lays 76 = .ok (.bipush 8, 2) := by decide +kernel
theorem dX9_lays_78 : decode cX9_lays 78 = .ok (.iload_n 1, 1) := by decide +kernel
theorem dX9_lays_79 : decode cX9_lays 79 = .ok (.imul, 1) := by decide +kernel
theorem dX9_lays_80 : decode cX9_lays 80 = .ok (.iload 4, 2) := by decide +kernel
theorem dX9_lays_82 : decode cX9_lays 82 = .ok (.iadd, 1) := by decide +kernel
theorem dX9_lays_83 : decode cX9_lays 83 = .ok (.iload 5, 2) := by decide +kernel
theorem dX9_lays_85 : decode cX9_lays 85 = .ok (.iastore, 1) := by decide +kernel
theorem dX9_lays_86 : decode cX9_lays 86 = .ok (.iload_n 2, 1) := by decide +kernel
theorem dX9_lays_87 : decode cX9_lays 87 = .ok (.iload 5, 2) := by decide +kernel
theorem dX9_lays_89 : decode cX9_lays 89 = .ok (.iadd, 1) := by decide +kernel
theorem dX9_lays_90 : decode cX9_lays 90 = .ok (.istore_n 2, 1) := by decide +kernel
theorem dX9_lays_91 : decode cX9_lays 91 = .ok (.iload_n 3, 1) := by decide +kernel
theorem dX9_lays_92 : decode cX9_lays 92 = .ok (.ifCond .eq 30, 3) := by decide +kernel
theorem dX9_lays_95 : decode cX9_lays 95 = .ok (.iload 5, 2) := by decide +kernel
theorem dX9_lays_97 : decode cX9_lays 97 = .ok (.ifCond .eq 21, 3) := by decide +kernel
theorem dX9_lays_100 : decode cX9_lays 100 = .ok (.aload_n 0, 1) := by decide +kernel
theorem dX9_lays_101 : decode cX9_lays 101 = .ok (.iload 4, 2) := by decide +kernel
theorem dX9_lays_103 : decode cX9_lays 103 = .ok (.invokevirtual 290, 3) := by decide +kernel
theorem dX9_lays_106 : decode cX9_lays 106 = .ok (.ifCond .eq 16, 3) := by decide +kernel
theorem dX9_lays_109 : decode cX9_lays 109 = .ok (.aload_n 0, 1) := by decide +kernel
theorem dX9_lays_110 : decode cX9_lays 110 = .ok (.iload 4, 2) := by decide +kernel
theorem dX9_lays_112 : decode cX9_lays 112 = .ok (.invokevirtual 293, 3) := by decide +kernel
theorem dX9_lays_115 : decode cX9_lays 115 = .ok (.ifCond .ne 7, 3) := by decide +kernel
theorem dX9_lays_118 : decode cX9_lays 118 = .ok (.iconst 1, 1) := by decide +kernel
theorem dX9_lays_119 : decode cX9_lays 119 = .ok (.goto 4, 3) := by decide +kernel
theorem dX9_lays_122 : decode cX9_lays 122 = .ok (.iconst 0, 1) := by decide +kernel
theorem dX9_lays_123 : decode cX9_lays 123 = .ok (.istore_n 3, 1) := by decide +kernel
theorem dX9_lays_124 : decode cX9_lays 124 = .ok (.iinc 4 1, 3) := by decide +kernel
theorem dX9_lays_127 : decode cX9_lays 127 = .ok (.goto (-120), 3) := by decide +kernel
theorem dX9_lays_130 : decode cX9_lays 130 = .ok (.iload_n 3, 1) := by decide +kernel
theorem dX9_lays_131 : decode cX9_lays 131 = .ok (.ifCond .eq 13, 3) := by decide +kernel
theorem dX9_lays_134 : decode cX9_lays 134 = .ok (.iload_n 2, 1) := by decide +kernel
theorem dX9_lays_135 : decode cX9_lays 135 = .ok (.bipush 100, 2) := by decide +kernel
theorem dX9_lays_137 : decode cX9_lays 137 = .ok (.if_icmp .ne 7, 3) := by decide +kernel
theorem dX9_lays_140 : decode cX9_lays 140 = .ok (.iconst 1, 1) := by decide +kernel
theorem dX9_lays_141 : decode cX9_lays 141 = .ok (.goto 4, 3) := by decide +kernel
theorem dX9_lays_144 : decode cX9_lays 144 = .ok (.iconst 0, 1) := by decide +kernel
theorem dX9_lays_145 : decode cX9_lays 145 = .ok (.ireturn, 1) := by decide +kernel
theorem dX9_areWhole_0 : decode cX9_areWhole 0 = .ok (.iconst (-1), 1) := by decide +kernel
theorem dX9_areWhole_1 : decode cX9_areWhole 1 = .ok (.istore_n 1, 1) := by decide +kernel
theorem dX9_areWhole_2 : decode cX9_areWhole 2 = .ok (.iconst 0, 1) := by decide +kernel
theorem dX9_areWhole_3 : decode cX9_areWhole 3 = .ok (.istore_n 2, 1) := by decide +kernel
theorem dX9_areWhole_4 : decode cX9_areWhole 4 = .ok (.iload_n 2, 1) := by decide +kernel
theorem dX9_areWhole_5 : decode cX9_areWhole 5 = .ok (.aload_n 0, 1) := by decide +kernel
theorem dX9_areWhole_6 : decode cX9_areWhole 6 = .ok (.getfield 260, 3) := by decide +kernel
theorem dX9_areWhole_9 : decode cX9_areWhole 9 = .ok (.if_icmp .ge 41, 3) := by decide +kernel
theorem dX9_areWhole_12 : decode cX9_areWhole 12 = .ok (.aload_n 0, 1) := by decide +kernel
theorem dX9_areWhole_13 : decode cX9_areWhole 13 = .ok (.getfield 70, 3) := by decide +kernel
theorem dX9_areWhole_16 : decode cX9_areWhole 16 = .ok (.iload_n 2, 1) := by decide +kernel
theorem dX9_areWhole_17 : decode cX9_areWhole 17 = .ok (.iaload, 1) := by decide +kernel
theorem dX9_areWhole_18 : decode cX9_areWhole 18 = .ok (.iconst 3, 1) := by decide +kernel
theorem dX9_areWhole_19 : decode cX9_areWhole 19 = .ok (.if_icmp .ne 15, 3) := by decide +kernel
theorem dX9_areWhole_22 : decode cX9_areWhole 22 = .ok (.iload_n 1, 1) := by decide +kernel
theorem dX9_areWhole_23 : decode cX9_areWhole 23 = .ok (.iconst (-1), 1) := by decide +kernel
theorem dX9_areWhole_24 : decode cX9_areWhole 24 = .ok (.if_icmp .eq 5, 3) := by decide +kernel
theorem dX9_areWhole_27 : decode cX9_areWhole 27 = .ok (.iconst 0, 1) := by decide +kernel
theorem dX9_areWhole_28 : decode cX9_areWhole 28 = .ok (.ireturn, 1) := by decide +kernel
theorem dX9_areWhole_29 : decode cX9_areWhole 29 = .ok (.iload_n 2, 1) := by decide +kernel
theorem dX9_areWhole_30 : decode cX9_areWhole 30 = .ok (.istore_n 1, 1) := by decide +kernel
theorem dX9_areWhole_31 : decode cX9_areWhole 31 = .ok (.goto 13, 3) := by decide +kernel
theorem dX9_areWhole_34 : decode cX9_areWhole 34 = .ok (.aload_n 0, 1) := by decide +kernel
theorem dX9_areWhole_35 : decode cX9_areWhole 35 = .ok (.iload_n 2, 1) := by decide +kernel
theorem dX9_areWhole_36 : decode cX9_areWhole 36 = .ok (.invokevirtual 296, 3) := by decide +kernel
theorem dX9_areWhole_39 : decode cX9_areWhole 39 = .ok (.ifCond .ne 5, 3) := by decide +kernel
theorem dX9_areWhole_42 : decode cX9_areWhole 42 = .ok (.iconst 0, 1) := by decide +kernel
theorem dX9_areWhole_43 : decode cX9_areWhole 43 = .ok (.ireturn, 1) := by decide +kernel
theorem dX9_areWhole_44 : decode cX9_areWhole 44 = .ok (.iinc 2 1, 3) := by decide +kernel
theorem dX9_areWhole_47 : decode cX9_areWhole 47 = .ok (.goto (-43), 3) := by decide +kernel
theorem dX9_areWhole_50 : decode cX9_areWhole 50 = .ok (.iload_n 1, 1) := by decide +kernel
theorem dX9_areWhole_51 : decode cX9_areWhole 51 = .ok (.iconst (-1), 1) := by decide +kernel
theorem dX9_areWhole_52 : decode cX9_areWhole 52 = .ok (.if_icmp .ne 16, 3) := by decide +kernel
theorem dX9_areWhole_55 : decode cX9_areWhole 55 = .ok (.aload_n 0, 1) := by decide +kernel
theorem dX9_areWhole_56 : decode cX9_areWhole 56 = .ok (.getfield 260, 3) := by decide +kernel
theorem dX9_areWhole_59 : decode cX9_areWhole 59 = .ok (.ifCond .le 7, 3) := by decide +kernel
theorem dX9_areWhole_62 : decode cX9_areWhole 62 = .ok (.iconst 1, 1) := by decide +kernel
theorem dX9_areWhole_63 : decode cX9_areWhole 63 = .ok (.goto 4, 3) := by decide +kernel
theorem dX9_areWhole_66 : decode cX9_areWhole 66 = .ok (.iconst 0, 1) := by decide +kernel
theorem dX9_areWhole_67 : decode cX9_areWhole 67 = .ok (.ireturn, 1) := by decide +kernel
theorem dX9_areWhole_68 : decode cX9_areWhole 68 = .ok (.aload_n 0, 1) := by decide +kernel
theorem dX9_areWhole_69 : decode cX9_areWhole 69 = .ok (.invokevirtual 299, 3) := by decide +kernel
theorem dX9_areWhole_72 : decode cX9_areWhole 72 = .ok (.ifCond .eq 5, 3) := by decide +kernel
theorem dX9_areWhole_75 : decode cX9_areWhole 75 = .ok (.iconst 0, 1) := by decide +kernel
theorem dX9_areWhole_76 : decode cX9_areWhole 76 = .ok (.ireturn, 1) := by decide +kernel
theorem dX9_areWhole_77 : decode cX9_areWhole 77 = .ok (.aload_n 0, 1) := by decide +kernel
theorem dX9_areWhole_78 : decode cX9_areWhole 78 = .ok (.iload_n 1, 1) := by decide +kernel
theorem dX9_areWhole_79 : decode cX9_areWhole 79 = .ok (.aload_n 0, 1) := by decide +kernel
theorem dX9_areWhole_80 : decode cX9_areWhole 80 = .ok (.iload_n 1, 1) := by decide +kernel
theorem dX9_areWhole_81 : decode cX9_areWhole 81 = .ok (.invokevirtual 302, 3) := by decide +kernel
theorem dX9_areWhole_84 : decode cX9_areWhole 84 = .ok (.invokevirtual 305, 3) := by decide +kernel
theorem dX9_areWhole_87 : decode cX9_areWhole 87 = .ok (.iconst 1, 1) := by decide +kernel
theorem dX9_areWhole_88 : decode cX9_areWhole 88 = .ok (.ireturn, 1) := by decide +kernel
theorem dX9_clears_0 : decode cX9_clears 0 = .ok (.iconst 0, 1) := by decide +kernel
theorem dX9_clears_1 : decode cX9_clears 1 = .ok (.istore_n 1, 1) := by decide +kernel
theorem dX9_clears_2 : decode cX9_clears 2 = .ok (.iload_n 1, 1) := by decide +kernel
theorem dX9_clears_3 : decode cX9_clears 3 = .ok (.iconst 4, 1) := by decide +kernel
theorem dX9_clears_4 : decode cX9_clears 4 = .ok (.if_icmp .ge 23, 3) := by decide +kernel
theorem dX9_clears_7 : decode cX9_clears 7 = .ok (.aload_n 0, 1) := by decide +kernel
theorem dX9_clears_8 : decode cX9_clears 8 = .ok (.getfield 91, 3) := by decide +kernel
theorem dX9_clears_11 : decode cX9_clears 11 = .ok (.iload_n 1, 1) := by decide +kernel
theorem dX9_clears_12 : decode cX9_clears 12 = .ok (.lconst 0, 1) := by decide +kernel
theorem dX9_clears_13 : decode cX9_clears 13 = .ok (.lastore, 1) := by decide +kernel
theorem dX9_clears_14 : decode cX9_clears 14 = .ok (.aload_n 0, 1) := by decide +kernel
theorem dX9_clears_15 : decode cX9_clears 15 = .ok (.getfield 94, 3) := by decide +kernel
theorem dX9_clears_18 : decode cX9_clears 18 = .ok (.iload_n 1, 1) := by decide +kernel
theorem dX9_clears_19 : decode cX9_clears 19 = .ok (.lconst 0, 1) := by decide +kernel
theorem dX9_clears_20 : decode cX9_clears 20 = .ok (.lastore, 1) := by decide +kernel
theorem dX9_clears_21 : decode cX9_clears 21 = .ok (.iinc 1 1, 3) := by decide +kernel
theorem dX9_clears_24 : decode cX9_clears 24 = .ok (.goto (-22), 3) := by decide +kernel
theorem dX9_clears_27 : decode cX9_clears 27 = .ok (.iconst 0, 1) := by decide +kernel
theorem dX9_clears_28 : decode cX9_clears 28 = .ok (.istore_n 1, 1) := by decide +kernel
theorem dX9_clears_29 : decode cX9_clears 29 = .ok (.iload_n 1, 1) := by decide +kernel
theorem dX9_clears_30 : decode cX9_clears 30 = .ok (.bipush 12, 2) := by decide +kernel
theorem dX9_clears_32 : decode cX9_clears 32 = .ok (.if_icmp .ge 30, 3) := by decide +kernel
theorem dX9_clears_35 : decode cX9_clears 35 = .ok (.aload_n 0, 1) := by decide +kernel
theorem dX9_clears_36 : decode cX9_clears 36 = .ok (.getfield 97, 3) := by decide +kernel
theorem dX9_clears_39 : decode cX9_clears 39 = .ok (.iload_n 1, 1) := by decide +kernel
theorem dX9_clears_40 : decode cX9_clears 40 = .ok (.lconst 0, 1) := by decide +kernel
theorem dX9_clears_41 : decode cX9_clears 41 = .ok (.lastore, 1) := by decide +kernel
theorem dX9_clears_42 : decode cX9_clears 42 = .ok (.aload_n 0, 1) := by decide +kernel
theorem dX9_clears_43 : decode cX9_clears 43 = .ok (.getfield 100, 3) := by decide +kernel
theorem dX9_clears_46 : decode cX9_clears 46 = .ok (.iload_n 1, 1) := by decide +kernel
theorem dX9_clears_47 : decode cX9_clears 47 = .ok (.lconst 0, 1) := by decide +kernel
theorem dX9_clears_48 : decode cX9_clears 48 = .ok (.lastore, 1) := by decide +kernel
theorem dX9_clears_49 : decode cX9_clears 49 = .ok (.aload_n 0, 1) := by decide +kernel
theorem dX9_clears_50 : decode cX9_clears 50 = .ok (.getfield 103, 3) := by decide +kernel
theorem dX9_clears_53 : decode cX9_clears 53 = .ok (.iload_n 1, 1) := by decide +kernel
theorem dX9_clears_54 : decode cX9_clears 54 = .ok (.lconst 0, 1) := by decide +kernel
theorem dX9_clears_55 : decode cX9_clears 55 = .ok (.lastore, 1) := by decide +kernel
theorem dX9_clears_56 : decode cX9_clears 56 = .ok (.iinc 1 1, 3) := by decide +kernel
theorem dX9_clears_59 : decode cX9_clears 59 = .ok (.goto (-30), 3) := by decide +kernel
theorem dX9_clears_62 : decode cX9_clears 62 = .ok (.return_, 1) := by decide +kernel
theorem dX9_leastStep_0 : decode cX9_leastStep 0 = .ok (.iconst (-1), 1) := by decide +kernel
theorem dX9_leastStep_1 : decode cX9_leastStep 1 = .ok (.istore_n 2, 1) := by decide +kernel
theorem dX9_leastStep_2 : decode cX9_leastStep 2 = .ok (.iconst 0, 1) := by decide +kernel
theorem dX9_leastStep_3 : decode cX9_leastStep 3 = .ok (.istore_n 3, 1) := by decide +kernel
theorem dX9_leastStep_4 : decode cX9_leastStep 4 = .ok (.iload_n 3, 1) := by decide +kernel
theorem dX9_leastStep_5 : decode cX9_leastStep 5 = .ok (.aload_n 0, 1) := by decide +kernel
theorem dX9_leastStep_6 : decode cX9_leastStep 6 = .ok (.getfield 260, 3) := by decide +kernel
theorem dX9_leastStep_9 : decode cX9_leastStep 9 = .ok (.if_icmp .ge 39, 3) := by decide +kernel
theorem dX9_leastStep_12 : decode cX9_leastStep 12 = .ok (.iload_n 1, 1) := by decide +kernel
theorem dX9_leastStep_13 : decode cX9_leastStep 13 = .ok (.iload_n 3, 1) := by decide +kernel
theorem dX9_leastStep_14 : decode cX9_leastStep 14 = .ok (.invokestatic 195, 3) := by decide +kernel
theorem dX9_leastStep_17 : decode cX9_leastStep 17 = .ok (.ifCond .eq 25, 3) := by decide +kernel
theorem dX9_leastStep_20 : decode cX9_leastStep 20 = .ok (.iload_n 2, 1) := by decide +kernel
theorem dX9_leastStep_21 : decode cX9_leastStep 21 = .ok (.iconst (-1), 1) := by decide +kernel
theorem dX9_leastStep_22 : decode cX9_leastStep 22 = .ok (.if_icmp .eq 13, 3) := by decide +kernel
theorem dX9_leastStep_25 : decode cX9_leastStep 25 = .ok (.aload_n 0, 1) := by decide +kernel
theorem dX9_leastStep_26 : decode cX9_leastStep 26 = .ok (.getfield 88, 3) := by decide +kernel
theorem dX9_leastStep_29 : decode cX9_leastStep 29 = .ok (.iload_n 3, 1) := by decide +kernel
theorem dX9_leastStep_30 : decode cX9_leastStep 30 = .ok (.iaload, 1) := by decide +kernel
theorem dX9_leastStep_31 : decode cX9_leastStep 31 = .ok (.iload_n 2, 1) := by decide +kernel
theorem dX9_leastStep_32 : decode cX9_leastStep 32 = .ok (.if_icmp .ge 10, 3) := by decide +kernel
theorem dX9_leastStep_35 : decode cX9_leastStep 35 = .ok (.aload_n 0, 1) := by decide +kernel
theorem dX9_leastStep_36 : decode cX9_leastStep 36 = .ok (.getfield 88, 3) := by decide +kernel
theorem dX9_leastStep_39 : decode cX9_leastStep 39 = .ok (.iload_n 3, 1) := by decide +kernel
theorem dX9_leastStep_40 : decode cX9_leastStep 40 = .ok (.iaload, 1) := by decide +kernel
theorem dX9_leastStep_41 : decode cX9_leastStep 41 = .ok (.istore_n 2, 1) := by decide +kernel
theorem dX9_leastStep_42 : decode cX9_leastStep 42 = .ok (.iinc 3 1, 3) := by decide +kernel
theorem dX9_leastStep_45 : decode cX9_leastStep 45 = .ok (.goto (-41), 3) := by decide +kernel
theorem dX9_leastStep_48 : decode cX9_leastStep 48 = .ok (.iload_n 2, 1) := by decide +kernel
theorem dX9_leastStep_49 : decode cX9_leastStep 49 = .ok (.ireturn, 1) := by decide +kernel
theorem dX9_buy_0 : decode cX9_buy 0 = .ok (.aload_n 0, 1) := by decide +kernel
theorem dX9_buy_1 : decode cX9_buy 1 = .ok (.iload_n 2, 1) := by decide +kernel
theorem dX9_buy_2 : decode cX9_buy 2 = .ok (.invokevirtual 309, 3) := by decide +kernel
theorem dX9_buy_5 : decode cX9_buy 5 = .ok (.istore 5, 2) := by decide +kernel
theorem dX9_buy_7 : decode cX9_buy 7 = .ok (.iload 5, 2) := by decide +kernel
theorem dX9_buy_9 : decode cX9_buy 9 = .ok (.iconst (-1), 1) := by decide +kernel
theorem dX9_buy_10 : decode cX9_buy 10 = .ok (.if_icmp .eq 18, 3) := by decide +kernel
theorem dX9_buy_13 : decode cX9_buy 13 = .ok (.aload_n 0, 1) := by decide +kernel
theorem dX9_buy_14 : decode cX9_buy 14 = .ok (.iload 5, 2) := by decide +kernel
theorem dX9_buy_16 : decode cX9_buy 16 = .ok (.invokevirtual 312, 3) := by decide +kernel
theorem dX9_buy_19 : decode cX9_buy 19 = .ok (.aload_n 0, 1) := by decide +kernel
theorem dX9_buy_20 : decode cX9_buy 20 = .ok (.getfield 36, 3) := by decide +kernel
theorem dX9_buy_23 : decode cX9_buy 23 = .ok (.iload_n 1, 1) := by decide +kernel
theorem dX9_buy_24 : decode cX9_buy 24 = .ok (.iaload, 1) := by decide +kernel
theorem dX9_buy_25 : decode cX9_buy 25 = .ok (.if_icmp .le 18, 3) := by decide +kernel
theorem dX9_buy_28 : decode cX9_buy 28 = .ok (.aload_n 0, 1) := by decide +kernel
theorem dX9_buy_29 : decode cX9_buy 29 = .ok (.getfield 103, 3) := by decide +kernel
theorem dX9_buy_32 : decode cX9_buy 32 = .ok (.iload_n 1, 1) := by decide +kernel
theorem dX9_buy_33 : decode cX9_buy 33 = .ok (.dup2, 1) := by decide +kernel
theorem dX9_buy_34 : decode cX9_buy 34 = .ok (.laload, 1) := by decide +kernel
theorem dX9_buy_35 : decode cX9_buy 35 = .ok (.lload_n 3, 1) := by decide +kernel
theorem dX9_buy_36 : decode cX9_buy 36 = .ok (.ldc2_w 315, 3) := by decide +kernel
theorem dX9_buy_39 : decode cX9_buy 39 = .ok (.lmul, 1) := by decide +kernel
theorem dX9_buy_40 : decode cX9_buy 40 = .ok (.ladd, 1) := by decide +kernel
theorem dX9_buy_41 : decode cX9_buy 41 = .ok (.lastore, 1) := by decide +kernel
theorem dX9_buy_42 : decode cX9_buy 42 = .ok (.return_, 1) := by decide +kernel
theorem dX9_buy_43 : decode cX9_buy 43 = .ok (.iconst 0, 1) := by decide +kernel
theorem dX9_buy_44 : decode cX9_buy 44 = .ok (.istore 6, 2) := by decide +kernel
theorem dX9_buy_46 : decode cX9_buy 46 = .ok (.iconst 0, 1) := by decide +kernel
theorem dX9_buy_47 : decode cX9_buy 47 = .ok (.istore 7, 2) := by decide +kernel
theorem dX9_buy_49 : decode cX9_buy 49 = .ok (.iload 7, 2) := by decide +kernel
theorem dX9_buy_51 : decode cX9_buy 51 = .ok (.aload_n 0, 1) := by decide +kernel
theorem dX9_buy_52 : decode cX9_buy 52 = .ok (.getfield 260, 3) := by decide +kernel
theorem dX9_buy_55 : decode cX9_buy 55 = .ok (.if_icmp .ge 51, 3) := by decide +kernel
theorem dX9_buy_58 : decode cX9_buy 58 = .ok (.iload_n 2, 1) := by decide +kernel
theorem dX9_buy_59 : decode cX9_buy 59 = .ok (.iload 7, 2) := by decide +kernel
theorem dX9_buy_61 : decode cX9_buy 61 = .ok (.invokestatic 195, 3) := by decide +kernel
theorem dX9_buy_64 : decode cX9_buy 64 = .ok (.ifCond .eq 36, 3) := by decide +kernel
theorem dX9_buy_67 : decode cX9_buy 67 = .ok (.aload_n 0, 1) := by decide +kernel
theorem dX9_buy_68 : decode cX9_buy 68 = .ok (.getfield 88, 3) := by decide +kernel
theorem dX9_buy_71 : decode cX9_buy 71 = .ok (.iload 7, 2) := by decide +kernel
theorem dX9_buy_73 : decode cX9_buy 73 = .ok (.iaload, 1) := by decide +kernel
theorem dX9_buy_74 : decode cX9_buy 74 = .ok (.iload 5, 2) := by decide +kernel
theorem dX9_buy_76 : decode cX9_buy 76 = .ok (.if_icmp .eq 15, 3) := by decide +kernel
theorem dX9_buy_79 : decode cX9_buy 79 = .ok (.aload_n 0, 1) := by decide +kernel
theorem dX9_buy_80 : decode cX9_buy 80 = .ok (.getfield 275, 3) := by decide +kernel
theorem dX9_buy_83 : decode cX9_buy 83 = .ok (.iload 7, 2) := by decide +kernel
theorem dX9_buy_85 : decode cX9_buy 85 = .ok (.invokestatic 195, 3) := by decide +kernel
theorem dX9_buy_88 : decode cX9_buy 88 = .ok (.ifCond .eq 12, 3) := by decide +kernel
theorem dX9_buy_91 : decode cX9_buy 91 = .ok (.iload 6, 2) := by decide +kernel
theorem dX9_buy_93 : decode cX9_buy 93 = .ok (.iconst 1, 1) := by decide +kernel
theorem dX9_buy_94 : decode cX9_buy 94 = .ok (.iload 7, 2) := by decide +kernel
theorem dX9_buy_96 : decode cX9_buy 96 = .ok (.ishl, 1) := by decide +kernel
theorem dX9_buy_97 : decode cX9_buy 97 = .ok (.ior, 1) := by decide +kernel
theorem dX9_buy_98 : decode cX9_buy 98 = .ok (.istore 6, 2) := by decide +kernel
theorem dX9_buy_100 : decode cX9_buy 100 = .ok (.iinc 7 1, 3) := by decide +kernel
theorem dX9_buy_103 : decode cX9_buy 103 = .ok (.goto (-54), 3) := by decide +kernel
theorem dX9_buy_106 : decode cX9_buy 106 = .ok (.bipush 12, 2) := by decide +kernel
theorem dX9_buy_108 : decode cX9_buy 108 = .ok (.iload 6, 2) := by decide +kernel
theorem dX9_buy_110 : decode cX9_buy 110 = .ok (.invokestatic 317, 3) := by decide +kernel
theorem dX9_buy_113 : decode cX9_buy 113 = .ok (.idiv, 1) := by decide +kernel
theorem dX9_buy_114 : decode cX9_buy 114 = .ok (.istore 7, 2) := by decide +kernel
theorem dX9_buy_116 : decode cX9_buy 116 = .ok (.iconst 0, 1) := by decide +kernel
theorem dX9_buy_117 : decode cX9_buy 117 = .ok (.istore 8, 2) := by decide +kernel
theorem dX9_buy_119 : decode cX9_buy 119 = .ok (.iload 8, 2) := by decide +kernel
theorem dX9_buy_121 : decode cX9_buy 121 = .ok (.aload_n 0, 1) := by decide +kernel
theorem dX9_buy_122 : decode cX9_buy 122 = .ok (.getfield 260, 3) := by decide +kernel
theorem dX9_buy_125 : decode cX9_buy 125 = .ok (.if_icmp .ge 68, 3) := by decide +kernel
theorem dX9_buy_128 : decode cX9_buy 128 = .ok (.iload 6, 2) := by decide +kernel
theorem dX9_buy_130 : decode cX9_buy 130 = .ok (.iload 8, 2) := by decide +kernel
theorem dX9_buy_132 : decode cX9_buy 132 = .ok (.invokestatic 195, 3) := by decide +kernel
theorem dX9_buy_135 : decode cX9_buy 135 = .ok (.ifCond .ne 6, 3) := by decide +kernel
theorem dX9_buy_138 : decode cX9_buy 138 = .ok (.goto 49, 3) := by decide +kernel
theorem dX9_buy_141 : decode cX9_buy 141 = .ok (.aload_n 0, 1) := by decide +kernel
theorem dX9_buy_142 : decode cX9_buy 142 = .ok (.getfield 91, 3) := by decide +kernel
theorem dX9_buy_145 : decode cX9_buy 145 = .ok (.iload 8, 2) := by decide +kernel
theorem dX9_buy_147 : decode cX9_buy 147 = .ok (.dup2, 1) := by decide +kernel
theorem dX9_buy_148 : decode cX9_buy 148 = .ok (.laload, 1) := by decide +kernel
theorem dX9_buy_149 : decode cX9_buy 149 = .ok (.lload_n 3, 1) := by decide +kernel
theorem dX9_buy_150 : decode cX9_buy 150 = .ok (.iload 7, 2) := by decide +kernel
theorem dX9_buy_152 : decode cX9_buy 152 = .ok (.i2l, 1) := by decide +kernel
theorem dX9_buy_153 : decode cX9_buy 153 = .ok (.lmul, 1) := by decide +kernel
theorem dX9_buy_154 : decode cX9_buy 154 = .ok (.ladd, 1) := by decide +kernel
theorem dX9_buy_155 : decode cX9_buy 155 = .ok (.lastore, 1) := by decide +kernel
theorem dX9_buy_156 : decode cX9_buy 156 = .ok (.aload_n 0, 1) := by decide +kernel
theorem dX9_buy_157 : decode cX9_buy 157 = .ok (.getfield 94, 3) := by decide +kernel
theorem dX9_buy_160 : decode cX9_buy 160 = .ok (.iload 8, 2) := by decide +kernel
theorem dX9_buy_162 : decode cX9_buy 162 = .ok (.dup2, 1) := by decide +kernel
theorem dX9_buy_163 : decode cX9_buy 163 = .ok (.laload, 1) := by decide +kernel
theorem dX9_buy_164 : decode cX9_buy 164 = .ok (.lload_n 3, 1) := by decide +kernel
theorem dX9_buy_165 : decode cX9_buy 165 = .ok (.iload 7, 2) := by decide +kernel
theorem dX9_buy_167 : decode cX9_buy 167 = .ok (.i2l, 1) := by decide +kernel
theorem dX9_buy_168 : decode cX9_buy 168 = .ok (.lmul, 1) := by decide +kernel
theorem dX9_buy_169 : decode cX9_buy 169 = .ok (.aload_n 0, 1) := by decide +kernel
theorem dX9_buy_170 : decode cX9_buy 170 = .ok (.iload 5, 2) := by decide +kernel
theorem dX9_buy_172 : decode cX9_buy 172 = .ok (.invokevirtual 312, 3) := by decide +kernel
theorem dX9_buy_175 : decode cX9_buy 175 = .ok (.aload_n 0, 1) := by decide +kernel
theorem dX9_buy_176 : decode cX9_buy 176 = .ok (.getfield 23, 3) := by decide +kernel
theorem dX9_buy_179 : decode cX9_buy 179 = .ok (.iload 8, 2) := by decide +kernel
theorem dX9_buy_181 : decode cX9_buy 181 = .ok (.iaload, 1) := by decide +kernel
theorem dX9_buy_182 : decode cX9_buy 182 = .ok (.isub, 1) := by decide +kernel
theorem dX9_buy_183 : decode cX9_buy 183 = .ok (.i2l, 1) := by decide +kernel
theorem dX9_buy_184 : decode cX9_buy 184 = .ok (.lmul, 1) := by decide +kernel
theorem dX9_buy_185 : decode cX9_buy 185 = .ok (.ladd, 1) := by decide +kernel
theorem dX9_buy_186 : decode cX9_buy 186 = .ok (.lastore, 1) := by decide +kernel
theorem dX9_buy_187 : decode cX9_buy 187 = .ok (.iinc 8 1, 3) := by decide +kernel
theorem dX9_buy_190 : decode cX9_buy 190 = .ok (.goto (-71), 3) := by decide +kernel
theorem dX9_buy_193 : decode cX9_buy 193 = .ok (.aload_n 0, 1) := by decide +kernel
theorem dX9_buy_194 : decode cX9_buy 194 = .ok (.getfield 97, 3) := by decide +kernel
theorem dX9_buy_197 : decode cX9_buy 197 = .ok (.iload_n 1, 1) := by decide +kernel
theorem dX9_buy_198 : decode cX9_buy 198 = .ok (.dup2, 1) := by decide +kernel
theorem dX9_buy_199 : decode cX9_buy 199 = .ok (.laload, 1) := by decide +kernel
theorem dX9_buy_200 : decode cX9_buy 200 = .ok (.lload_n 3, 1) := by decide +kernel
theorem dX9_buy_201 : decode cX9_buy 201 = .ok (.ldc2_w 315, 3) := by decide +kernel
theorem dX9_buy_204 : decode cX9_buy 204 = .ok (.lmul, 1) := by decide +kernel
theorem dX9_buy_205 : decode cX9_buy 205 = .ok (.aload_n 0, 1) := by decide +kernel
theorem dX9_buy_206 : decode cX9_buy 206 = .ok (.iload 5, 2) := by decide +kernel
theorem dX9_buy_208 : decode cX9_buy 208 = .ok (.invokevirtual 312, 3) := by decide +kernel
theorem dX9_buy_211 : decode cX9_buy 211 = .ok (.i2l, 1) := by decide +kernel
theorem dX9_buy_212 : decode cX9_buy 212 = .ok (.lmul, 1) := by decide +kernel
theorem dX9_buy_213 : decode cX9_buy 213 = .ok (.ladd, 1) := by decide +kernel
theorem dX9_buy_214 : decode cX9_buy 214 = .ok (.lastore, 1) := by decide +kernel
theorem dX9_buy_215 : decode cX9_buy 215 = .ok (.aload_n 0, 1) := by decide +kernel
theorem dX9_buy_216 : decode cX9_buy 216 = .ok (.getfield 100, 3) := by decide +kernel
theorem dX9_buy_219 : decode cX9_buy 219 = .ok (.iload_n 1, 1) := by decide +kernel
theorem dX9_buy_220 : decode cX9_buy 220 = .ok (.dup2, 1) := by decide +kernel
theorem dX9_buy_221 : decode cX9_buy 221 = .ok (.laload, 1) := by decide +kernel
theorem dX9_buy_222 : decode cX9_buy 222 = .ok (.lload_n 3, 1) := by decide +kernel
theorem dX9_buy_223 : decode cX9_buy 223 = .ok (.ldc2_w 315, 3) := by decide +kernel
theorem dX9_buy_226 : decode cX9_buy 226 = .ok (.lmul, 1) := by decide +kernel
theorem dX9_buy_227 : decode cX9_buy 227 = .ok (.ladd, 1) := by decide +kernel
theorem dX9_buy_228 : decode cX9_buy 228 = .ok (.lastore, 1) := by decide +kernel
theorem dX9_buy_229 : decode cX9_buy 229 = .ok (.return_, 1) := by decide +kernel
theorem dX9_everyone_0 : decode cX9_everyone 0 = .ok (.iconst 1, 1) := by decide +kernel
theorem dX9_everyone_1 : decode cX9_everyone 1 = .ok (.aload_n 0, 1) := by decide +kernel
theorem dX9_everyone_2 : decode cX9_everyone 2 = .ok (.getfield 260, 3) := by decide +kernel
theorem dX9_everyone_5 : decode cX9_everyone 5 = .ok (.ishl, 1) := by decide +kernel
theorem dX9_everyone_6 : decode cX9_everyone 6 = .ok (.iconst 1, 1) := by decide +kernel
theorem dX9_everyone_7 : decode cX9_everyone 7 = .ok (.isub, 1) := by decide +kernel
theorem dX9_everyone_8 : decode cX9_everyone 8 = .ok (.ireturn, 1) := by decide +kernel
theorem dX9_sortBuys_0 : decode cX9_sortBuys 0 = .ok (.aload_n 0, 1) := by decide +kernel
theorem dX9_sortBuys_1 : decode cX9_sortBuys 1 = .ok (.getfield 27, 3) := by decide +kernel
theorem dX9_sortBuys_4 : decode cX9_sortBuys 4 = .ok (.iload_n 1, 1) := by decide +kernel
theorem dX9_sortBuys_5 : decode cX9_sortBuys 5 = .ok (.iaload, 1) := by decide +kernel
theorem dX9_sortBuys_6 : decode cX9_sortBuys 6 = .ok (.lookupswitch 82 #[(0, 26), (2, 55)], 26) := by decide +kernel
theorem dX9_sortBuys_32 : decode cX9_sortBuys 32 = .ok (.aload_n 0, 1) := by decide +kernel
theorem dX9_sortBuys_33 : decode cX9_sortBuys 33 = .ok (.iload_n 1, 1) := by decide +kernel
theorem dX9_sortBuys_34 : decode cX9_sortBuys 34 = .ok (.aload_n 0, 1) := by decide +kernel
theorem dX9_sortBuys_35 : decode cX9_sortBuys 35 = .ok (.invokevirtual 320, 3) := by decide +kernel
theorem dX9_sortBuys_38 : decode cX9_sortBuys 38 = .ok (.ifCond .eq 10, 3) := by decide +kernel
theorem dX9_sortBuys_41 : decode cX9_sortBuys 41 = .ok (.aload_n 0, 1) := by decide +kernel
theorem dX9_sortBuys_42 : decode cX9_sortBuys 42 = .ok (.invokevirtual 323, 3) := by decide +kernel
theorem dX9_sortBuys_45 : decode cX9_sortBuys 45 = .ok (.goto 9, 3) := by decide +kernel
theorem dX9_sortBuys_48 : decode cX9_sortBuys 48 = .ok (.aload_n 0, 1) := by decide +kernel
theorem dX9_sortBuys_49 : decode cX9_sortBuys 49 = .ok (.getfield 106, 3) := by decide +kernel
theorem dX9_sortBuys_52 : decode cX9_sortBuys 52 = .ok (.iload_n 1, 1) := by decide +kernel
theorem dX9_sortBuys_53 : decode cX9_sortBuys 53 = .ok (.iaload, 1) := by decide +kernel
theorem dX9_sortBuys_54 : decode cX9_sortBuys 54 = .ok (.lload_n 2, 1) := by decide +kernel
theorem dX9_sortBuys_55 : decode cX9_sortBuys 55 = .ok (.invokevirtual 327, 3) := by decide +kernel
theorem dX9_sortBuys_58 : decode cX9_sortBuys 58 = .ok (.goto 84, 3) := by decide +kernel
theorem dX9_sortBuys_61 : decode cX9_sortBuys 61 = .ok (.aload_n 0, 1) := by decide +kernel
theorem dX9_sortBuys_62 : decode cX9_sortBuys 62 = .ok (.iload_n 1, 1) := by decide +kernel
theorem dX9_sortBuys_63 : decode cX9_sortBuys 63 = .ok (.aload_n 0, 1) := by decide +kernel
theorem dX9_sortBuys_64 : decode cX9_sortBuys 64 = .ok (.invokevirtual 320, 3) := by decide +kernel
theorem dX9_sortBuys_67 : decode cX9_sortBuys 67 = .ok (.ifCond .eq 10, 3) := by decide +kernel
theorem dX9_sortBuys_70 : decode cX9_sortBuys 70 = .ok (.aload_n 0, 1) := by decide +kernel
theorem dX9_sortBuys_71 : decode cX9_sortBuys 71 = .ok (.invokevirtual 323, 3) := by decide +kernel
theorem dX9_sortBuys_74 : decode cX9_sortBuys 74 = .ok (.goto 7, 3) := by decide +kernel
theorem dX9_sortBuys_77 : decode cX9_sortBuys 77 = .ok (.aload_n 0, 1) := by decide +kernel
theorem dX9_sortBuys_78 : decode cX9_sortBuys 78 = .ok (.getfield 269, 3) := by decide +kernel
theorem dX9_sortBuys_81 : decode cX9_sortBuys 81 = .ok (.lload_n 2, 1) := by decide +kernel
theorem dX9_sortBuys_82 : decode cX9_sortBuys 82 = .ok (.invokevirtual 327, 3) := by decide +kernel
theorem dX9_sortBuys_85 : decode cX9_sortBuys 85 = .ok (.goto 57, 3) := by decide +kernel
theorem dX9_sortBuys_88 : decode cX9_sortBuys 88 = .ok (.iconst 1, 1) := by decide +kernel
theorem dX9_sortBuys_89 : decode cX9_sortBuys 89 = .ok (.istore 4, 2) := by decide +kernel
theorem dX9_sortBuys_91 : decode cX9_sortBuys 91 = .ok (.iload 4, 2) := by decide +kernel
theorem dX9_sortBuys_93 : decode cX9_sortBuys 93 = .ok (.aload_n 0, 1) := by decide +kernel
theorem dX9_sortBuys_94 : decode cX9_sortBuys 94 = .ok (.invokevirtual 323, 3) := by decide +kernel
theorem dX9_sortBuys_97 : decode cX9_sortBuys 97 = .ok (.if_icmp .gt 45, 3) := by decide +kernel
theorem dX9_sortBuys_100 : decode cX9_sortBuys 100 = .ok (.iload 4, 2) := by decide +kernel
theorem dX9_sortBuys_102 : decode cX9_sortBuys 102 = .ok (.invokestatic 317, 3) := by decide +kernel
theorem dX9_sortBuys_105 : decode cX9_sortBuys 105 = .ok (.aload_n 0, 1) := by decide +kernel
theorem dX9_sortBuys_106 : decode cX9_sortBuys 106 = .ok (.getfield 33, 3) := by decide +kernel
theorem dX9_sortBuys_109 : decode cX9_sortBuys 109 = .ok (.iload_n 1, 1) := by decide +kernel
theorem dX9_sortBuys_110 : decode cX9_sortBuys 110 = .ok (.iaload, 1) := by decide +kernel
theorem dX9_sortBuys_111 : decode cX9_sortBuys 111 = .ok (.if_icmp .ne 25, 3) := by decide +kernel
theorem dX9_sortBuys_114 : decode cX9_sortBuys 114 = .ok (.aload_n 0, 1) := by decide +kernel
theorem dX9_sortBuys_115 : decode cX9_sortBuys 115 = .ok (.iload_n 1, 1) := by decide +kernel
theorem dX9_sortBuys_116 : decode cX9_sortBuys 116 = .ok (.aload_n 0, 1) := by decide +kernel
theorem dX9_sortBuys_117 : decode cX9_sortBuys 117 = .ok (.invokevirtual 320, 3) := by decide +kernel
theorem dX9_sortBuys_120 : decode cX9_sortBuys 120 = .ok (.ifCond .eq 10, 3) := by decide +kernel
theorem dX9_sortBuys_123 : decode cX9_sortBuys 123 = .ok (.aload_n 0, 1) := by decide +kernel
theorem dX9_sortBuys_124 : decode cX9_sortBuys 124 = .ok (.invokevirtual 323, 3) := by decide +kernel
theorem dX9_sortBuys_127 : decode cX9_sortBuys 127 = .ok (.goto 5, 3) := by decide +kernel
theorem dX9_sortBuys_130 : decode cX9_sortBuys 130 = .ok (.iload 4, 2) := by decide +kernel
theorem dX9_sortBuys_132 : decode cX9_sortBuys 132 = .ok (.lload_n 2, 1) := by decide +kernel
theorem dX9_sortBuys_133 : decode cX9_sortBuys 133 = .ok (.invokevirtual 327, 3) := by decide +kernel
theorem dX9_sortBuys_136 : decode cX9_sortBuys 136 = .ok (.iinc 4 1, 3) := by decide +kernel
theorem dX9_sortBuys_139 : decode cX9_sortBuys 139 = .ok (.goto (-48), 3) := by decide +kernel
theorem dX9_sortBuys_142 : decode cX9_sortBuys 142 = .ok (.return_, 1) := by decide +kernel
theorem dX9_knocks_0 : decode cX9_knocks 0 = .ok (.iconst 0, 1) := by decide +kernel
theorem dX9_knocks_1 : decode cX9_knocks 1 = .ok (.istore_n 1, 1) := by decide +kernel
theorem dX9_knocks_2 : decode cX9_knocks 2 = .ok (.iload_n 1, 1) := by decide +kernel
theorem dX9_knocks_3 : decode cX9_knocks 3 = .ok (.aload_n 0, 1) := by decide +kernel
theorem dX9_knocks_4 : decode cX9_knocks 4 = .ok (.getfield 263, 3) := by decide +kernel
theorem dX9_knocks_7 : decode cX9_knocks 7 = .ok (.if_icmp .ge 21, 3) := by decide +kernel
theorem dX9_knocks_10 : decode cX9_knocks 10 = .ok (.aload_n 0, 1) := by decide +kernel
theorem dX9_knocks_11 : decode cX9_knocks 11 = .ok (.getfield 106, 3) := by decide +kernel
theorem dX9_knocks_14 : decode cX9_knocks 14 = .ok (.iload_n 1, 1) := by decide +kernel
theorem dX9_knocks_15 : decode cX9_knocks 15 = .ok (.aload_n 0, 1) := by decide +kernel
theorem dX9_knocks_16 : decode cX9_knocks 16 = .ok (.getfield 33, 3) := by decide +kernel
theorem dX9_knocks_19 : decode cX9_knocks 19 = .ok (.iload_n 1, 1) := by decide +kernel
theorem dX9_knocks_20 : decode cX9_knocks 20 = .ok (.iaload, 1) := by decide +kernel
theorem dX9_knocks_21 : decode cX9_knocks 21 = .ok (.iastore, 1) := by decide +kernel
theorem dX9_knocks_22 : decode cX9_knocks 22 = .ok (.iinc 1 1, 3) := by decide +kernel
theorem dX9_knocks_25 : decode cX9_knocks 25 = .ok (.goto (-23), 3) := by decide +kernel
theorem dX9_knocks_28 : decode cX9_knocks 28 = .ok (.return_, 1) := by decide +kernel
theorem dX9_rowBuys_0 : decode cX9_rowBuys 0 = .ok (.iconst 0, 1) := by decide +kernel
theorem dX9_rowBuys_1 : decode cX9_rowBuys 1 = .ok (.istore_n 1, 1) := by decide +kernel
theorem dX9_rowBuys_2 : decode cX9_rowBuys 2 = .ok (.iload_n 1, 1) := by decide +kernel
theorem dX9_rowBuys_3 : decode cX9_rowBuys 3 = .ok (.aload_n 0, 1) := by decide +kernel
theorem dX9_rowBuys_4 : decode cX9_rowBuys 4 = .ok (.getfield 263, 3) := by decide +kernel
theorem dX9_rowBuys_7 : decode cX9_rowBuys 7 = .ok (.if_icmp .ge 26, 3) := by decide +kernel
theorem dX9_rowBuys_10 : decode cX9_rowBuys 10 = .ok (.aload_n 0, 1) := by decide +kernel
theorem dX9_rowBuys_11 : decode cX9_rowBuys 11 = .ok (.iload_n 1, 1) := by decide +kernel
theorem dX9_rowBuys_12 : decode cX9_rowBuys 12 = .ok (.aload_n 0, 1) := by decide +kernel
theorem dX9_rowBuys_13 : decode cX9_rowBuys 13 = .ok (.getfield 331, 3) := by decide +kernel
theorem dX9_rowBuys_16 : decode cX9_rowBuys 16 = .ok (.aload_n 0, 1) := by decide +kernel
theorem dX9_rowBuys_17 : decode cX9_rowBuys 17 = .ok (.getfield 30, 3) := by decide +kernel
theorem dX9_rowBuys_20 : decode cX9_rowBuys 20 = .ok (.iload_n 1, 1) := by decide +kernel
theorem dX9_rowBuys_21 : decode cX9_rowBuys 21 = .ok (.iaload, 1) := by decide +kernel
theorem dX9_rowBuys_22 : decode cX9_rowBuys 22 = .ok (.i2l, 1) := by decide +kernel
theorem dX9_rowBuys_23 : decode cX9_rowBuys 23 = .ok (.lmul, 1) := by decide +kernel
theorem dX9_rowBuys_24 : decode cX9_rowBuys 24 = .ok (.invokevirtual 335, 3) := by decide +kernel
theorem dX9_rowBuys_27 : decode cX9_rowBuys 27 = .ok (.iinc 1 1, 3) := by decide +kernel
theorem dX9_rowBuys_30 : decode cX9_rowBuys 30 = .ok (.goto (-28), 3) := by decide +kernel
theorem dX9_rowBuys_33 : decode cX9_rowBuys 33 = .ok (.return_, 1) := by decide +kernel
theorem dX9_rows_0 : decode cX9_rows 0 = .ok (.iconst 1, 1) := by decide +kernel
theorem dX9_rows_1 : decode cX9_rows 1 = .ok (.istore_n 1, 1) := by decide +kernel
theorem dX9_rows_2 : decode cX9_rows 2 = .ok (.iconst 0, 1) := by decide +kernel
theorem dX9_rows_3 : decode cX9_rows 3 = .ok (.istore_n 2, 1) := by decide +kernel
theorem dX9_rows_4 : decode cX9_rows 4 = .ok (.iload_n 2, 1) := by decide +kernel
theorem dX9_rows_5 : decode cX9_rows 5 = .ok (.aload_n 0, 1) := by decide +kernel
theorem dX9_rows_6 : decode cX9_rows 6 = .ok (.getfield 260, 3) := by decide +kernel
theorem dX9_rows_9 : decode cX9_rows 9 = .ok (.if_icmp .ge 14, 3) := by decide +kernel
theorem dX9_rows_12 : decode cX9_rows 12 = .ok (.iload_n 1, 1) := by decide +kernel
theorem dX9_rows_13 : decode cX9_rows 13 = .ok (.bipush 8, 2) := by decide +kernel
theorem dX9_rows_15 : decode cX9_rows 15 = .ok (.imul, 1) := by decide +kernel
theorem dX9_rows_16 : decode cX9_rows 16 = .ok (.istore_n 1, 1) := by decide +kernel
theorem dX9_rows_17 : decode cX9_rows 17 = .ok (.iinc 2 1, 3) := by decide +kernel
theorem dX9_rows_20 : decode cX9_rows 20 = .ok (.goto (-16), 3) := by decide +kernel
theorem dX9_rows_23 : decode cX9_rows 23 = .ok (.iload_n 1, 1) := by decide +kernel
theorem dX9_rows_24 : decode cX9_rows 24 = .ok (.ireturn, 1) := by decide +kernel
theorem dX9_lays__0 : decode cX9_lays_ 0 = .ok (.aload_n 0, 1) := by decide +kernel
theorem dX9_lays__1 : decode cX9_lays_ 1 = .ok (.lconst 1, 1) := by decide +kernel
theorem dX9_lays__2 : decode cX9_lays_ 2 = .ok (.putfield 331, 3) := by decide +kernel
theorem dX9_lays__5 : decode cX9_lays_ 5 = .ok (.iconst 0, 1) := by decide +kernel
theorem dX9_lays__6 : decode cX9_lays_ 6 = .ok (.istore_n 3, 1) := by decide +kernel
theorem dX9_lays__7 : decode cX9_lays_ 7 = .ok (.iload_n 3, 1) := by decide +kernel
theorem dX9_lays__8 : decode cX9_lays_ 8 = .ok (.aload_n 0, 1) := by decide +kernel
theorem dX9_lays__9 : decode cX9_lays_ 9 = .ok (.getfield 260, 3) := by decide +kernel
theorem dX9_lays__12 : decode cX9_lays_ 12 = .ok (.if_icmp .ge 57, 3) := by decide +kernel
theorem dX9_lays__15 : decode cX9_lays_ 15 = .ok (.aload_n 0, 1) := by decide +kernel
theorem dX9_lays__16 : decode cX9_lays_ 16 = .ok (.getfield 88, 3) := by decide +kernel
theorem dX9_lays__19 : decode cX9_lays_ 19 = .ok (.iload_n 3, 1) := by decide +kernel
theorem dX9_lays__20 : decode cX9_lays_ 20 = .ok (.iload_n 1, 1) := by decide +kernel
theorem dX9_lays__21 : decode cX9_lays_ 21 = .ok (.iconst 3, 1) := by decide +kernel
theorem dX9_lays__22 : decode cX9_lays_ 22 = .ok (.iload_n 3, 1) := by decide +kernel
theorem dX9_lays__23 : decode cX9_lays_ 23 = .ok (.imul, 1) := by decide +kernel
theorem dX9_lays__24 : decode cX9_lays_ 24 = .ok (.ishr, 1) := by decide +kernel
theorem dX9_lays__25 : decode cX9_lays_ 25 = .ok (.bipush 7, 2) := by decide +kernel
theorem dX9_lays__27 : decode cX9_lays_ 27 = .ok (.iand, 1) := by decide +kernel
theorem dX9_lays__28 : decode cX9_lays_ 28 = .ok (.iastore, 1) := by decide +kernel
theorem dX9_lays__29 : decode cX9_lays_ 29 = .ok (.aload_n 0, 1) := by decide +kernel
theorem dX9_lays__30 : decode cX9_lays_ 30 = .ok (.dup, 1) := by decide +kernel
theorem dX9_lays__31 : decode cX9_lays_ 31 = .ok (.getfield 331, 3) := by decide +kernel
theorem dX9_lays__34 : decode cX9_lays_ 34 = .ok (.iload_n 2, 1) := by decide +kernel
theorem dX9_lays__35 : decode cX9_lays_ 35 = .ok (.ifCond .eq 7, 3) := by decide +kernel
theorem dX9_lays__38 : decode cX9_lays_ 38 = .ok (.lconst 1, 1) := by decide +kernel
theorem dX9_lays__39 : decode cX9_lays_ 39 = .ok (.goto 20, 3) := by decide +kernel
theorem dX9_lays__42 : decode cX9_lays_ 42 = .ok (.aload_n 0, 1) := by decide +kernel
theorem dX9_lays__43 : decode cX9_lays_ 43 = .ok (.getfield 79, 3) := by decide +kernel
theorem dX9_lays__46 : decode cX9_lays_ 46 = .ok (.bipush 8, 2) := by decide +kernel
theorem dX9_lays__48 : decode cX9_lays_ 48 = .ok (.iload_n 3, 1) := by decide +kernel
theorem dX9_lays__49 : decode cX9_lays_ 49 = .ok (.imul, 1) := by decide +kernel
theorem dX9_lays__50 : decode cX9_lays_ 50 = .ok (.aload_n 0, 1) := by decide +kernel
theorem dX9_lays__51 : decode cX9_lays_ 51 = .ok (.getfield 88, 3) := by decide +kernel
theorem dX9_lays__54 : decode cX9_lays_ 54 = .ok (.iload_n 3, 1) := by decide +kernel
theorem dX9_lays__55 : decode cX9_lays_ 55 = .ok (.iaload, 1) := by decide +kernel
theorem dX9_lays__56 : decode cX9_lays_ 56 = .ok (.iadd, 1) := by decide +kernel
theorem dX9_lays__57 : decode cX9_lays_ 57 = .ok (.iaload, 1) := by decide +kernel
theorem dX9_lays__58 : decode cX9_lays_ 58 = .ok (.i2l, 1) := by decide +kernel
theorem dX9_lays__59 : decode cX9_lays_ 59 = .ok (.lmul, 1) := by decide +kernel
theorem dX9_lays__60 : decode cX9_lays_ 60 = .ok (.putfield 331, 3) := by decide +kernel
theorem dX9_lays__63 : decode cX9_lays_ 63 = .ok (.iinc 3 1, 3) := by decide +kernel
theorem dX9_lays__66 : decode cX9_lays_ 66 = .ok (.goto (-59), 3) := by decide +kernel
theorem dX9_lays__69 : decode cX9_lays_ 69 = .ok (.return_, 1) := by decide +kernel
theorem dX9_sells_0 : decode cX9_sells 0 = .ok (.aload_n 0, 1) := by decide +kernel
theorem dX9_sells_1 : decode cX9_sells 1 = .ok (.invokevirtual 339, 3) := by decide +kernel
theorem dX9_sells_4 : decode cX9_sells 4 = .ok (.iconst 0, 1) := by decide +kernel
theorem dX9_sells_5 : decode cX9_sells 5 = .ok (.istore_n 1, 1) := by decide +kernel
theorem dX9_sells_6 : decode cX9_sells 6 = .ok (.iload_n 1, 1) := by decide +kernel
theorem dX9_sells_7 : decode cX9_sells 7 = .ok (.aload_n 0, 1) := by decide +kernel
theorem dX9_sells_8 : decode cX9_sells 8 = .ok (.invokevirtual 342, 3) := by decide +kernel
theorem dX9_sells_11 : decode cX9_sells 11 = .ok (.if_icmp .ge 28, 3) := by decide +kernel
theorem dX9_sells_14 : decode cX9_sells 14 = .ok (.aload_n 0, 1) := by decide +kernel
theorem dX9_sells_15 : decode cX9_sells 15 = .ok (.iload_n 1, 1) := by decide +kernel
theorem dX9_sells_16 : decode cX9_sells 16 = .ok (.iconst 0, 1) := by decide +kernel
theorem dX9_sells_17 : decode cX9_sells 17 = .ok (.invokevirtual 345, 3) := by decide +kernel
theorem dX9_sells_20 : decode cX9_sells 20 = .ok (.aload_n 0, 1) := by decide +kernel
theorem dX9_sells_21 : decode cX9_sells 21 = .ok (.getfield 331, 3) := by decide +kernel
theorem dX9_sells_24 : decode cX9_sells 24 = .ok (.lconst 0, 1) := by decide +kernel
theorem dX9_sells_25 : decode cX9_sells 25 = .ok (.lcmp, 1) := by decide +kernel
theorem dX9_sells_26 : decode cX9_sells 26 = .ok (.ifCond .le 7, 3) := by decide +kernel
theorem dX9_sells_29 : decode cX9_sells 29 = .ok (.aload_n 0, 1) := by decide +kernel
theorem dX9_sells_30 : decode cX9_sells 30 = .ok (.invokevirtual 348, 3) := by decide +kernel
theorem dX9_sells_33 : decode cX9_sells 33 = .ok (.iinc 1 1, 3) := by decide +kernel
theorem dX9_sells_36 : decode cX9_sells 36 = .ok (.goto (-30), 3) := by decide +kernel
theorem dX9_sells_39 : decode cX9_sells 39 = .ok (.return_, 1) := by decide +kernel
theorem dX9_earnsAt_0 : decode cX9_earnsAt 0 = .ok (.iconst 0, 1) := by decide +kernel
theorem dX9_earnsAt_1 : decode cX9_earnsAt 1 = .ok (.istore_n 3, 1) := by decide +kernel
theorem dX9_earnsAt_2 : decode cX9_earnsAt 2 = .ok (.iload_n 3, 1) := by decide +kernel
theorem dX9_earnsAt_3 : decode cX9_earnsAt 3 = .ok (.bipush 8, 2) := by decide +kernel
theorem dX9_earnsAt_5 : decode cX9_earnsAt 5 = .ok (.if_icmp .ge 26, 3) := by decide +kernel
theorem dX9_earnsAt_8 : decode cX9_earnsAt 8 = .ok (.aload_n 0, 1) := by decide +kernel
theorem dX9_earnsAt_9 : decode cX9_earnsAt 9 = .ok (.getfield 109, 3) := by decide +kernel
theorem dX9_earnsAt_12 : decode cX9_earnsAt 12 = .ok (.iload_n 3, 1) := by decide +kernel
theorem dX9_earnsAt_13 : decode cX9_earnsAt 13 = .ok (.aload_n 0, 1) := by decide +kernel
theorem dX9_earnsAt_14 : decode cX9_earnsAt 14 = .ok (.getfield 79, 3) := by decide +kernel
theorem dX9_earnsAt_17 : decode cX9_earnsAt 17 = .ok (.bipush 8, 2) := by decide +kernel
theorem dX9_earnsAt_19 : decode cX9_earnsAt 19 = .ok (.iload_n 1, 1) := by decide +kernel
theorem dX9_earnsAt_20 : decode cX9_earnsAt 20 = .ok (.imul, 1) := by decide +kernel
theorem dX9_earnsAt_21 : decode cX9_earnsAt 21 = .ok (.iload_n 3, 1) := by decide +kernel
theorem dX9_earnsAt_22 : decode cX9_earnsAt 22 = .ok (.iadd, 1) := by decide +kernel
theorem dX9_earnsAt_23 : decode cX9_earnsAt 23 = .ok (.iaload, 1) := by decide +kernel
theorem dX9_earnsAt_24 : decode cX9_earnsAt 24 = .ok (.iastore, 1) := by decide +kernel
theorem dX9_earnsAt_25 : decode cX9_earnsAt 25 = .ok (.iinc 3 1, 3) := by decide +kernel
theorem dX9_earnsAt_28 : decode cX9_earnsAt 28 = .ok (.goto (-26), 3) := by decide +kernel
theorem dX9_earnsAt_31 : decode cX9_earnsAt 31 = .ok (.aload_n 0, 1) := by decide +kernel
theorem dX9_earnsAt_32 : decode cX9_earnsAt 32 = .ok (.iload_n 1, 1) := by decide +kernel
theorem dX9_earnsAt_33 : decode cX9_earnsAt 33 = .ok (.iload_n 2, 1) := by decide +kernel
theorem dX9_earnsAt_34 : decode cX9_earnsAt 34 = .ok (.invokevirtual 305, 3) := by decide +kernel
theorem dX9_earnsAt_37 : decode cX9_earnsAt 37 = .ok (.aload_n 0, 1) := by decide +kernel
theorem dX9_earnsAt_38 : decode cX9_earnsAt 38 = .ok (.invokevirtual 351, 3) := by decide +kernel
theorem dX9_earnsAt_41 : decode cX9_earnsAt 41 = .ok (.iconst 0, 1) := by decide +kernel
theorem dX9_earnsAt_42 : decode cX9_earnsAt 42 = .ok (.istore_n 3, 1) := by decide +kernel
theorem dX9_earnsAt_43 : decode cX9_earnsAt 43 = .ok (.iload_n 3, 1) := by decide +kernel
theorem dX9_earnsAt_44 : decode cX9_earnsAt 44 = .ok (.bipush 8, 2) := by decide +kernel
theorem dX9_earnsAt_46 : decode cX9_earnsAt 46 = .ok (.if_icmp .ge 26, 3) := by decide +kernel
theorem dX9_earnsAt_49 : decode cX9_earnsAt 49 = .ok (.aload_n 0, 1) := by decide +kernel
theorem dX9_earnsAt_50 : decode cX9_earnsAt 50 = .ok (.getfield 79, 3) := by decide +kernel
theorem dX9_earnsAt_53 : decode cX9_earnsAt 53 = .ok (.bipush 8, 2) := by decide +kernel
theorem dX9_earnsAt_55 : decode cX9_earnsAt 55 = .ok (.iload_n 1, 1) := by decide +kernel
theorem dX9_earnsAt_56 : decode cX9_earnsAt 56 = .ok (.imul, 1) := by decide +kernel
theorem dX9_earnsAt_57 : decode cX9_earnsAt 57 = .ok (.iload_n 3, 1) := by decide +kernel
theorem dX9_earnsAt_58 : decode cX9_earnsAt 58 = .ok (.iadd, 1) := by decide +kernel
theorem dX9_earnsAt_59 : decode cX9_earnsAt 59 = .ok (.aload_n 0, 1) := by decide +kernel
theorem dX9_earnsAt_60 : decode cX9_earnsAt 60 = .ok (.getfield 109, 3) := by decide +kernel
theorem dX9_earnsAt_63 : decode cX9_earnsAt 63 = .ok (.iload_n 3, 1) := by decide +kernel
theorem dX9_earnsAt_64 : decode cX9_earnsAt 64 = .ok (.iaload, 1) := by decide +kernel
theorem dX9_earnsAt_65 : decode cX9_earnsAt 65 = .ok (.iastore, 1) := by decide +kernel
theorem dX9_earnsAt_66 : decode cX9_earnsAt 66 = .ok (.iinc 3 1, 3) := by decide +kernel
theorem dX9_earnsAt_69 : decode cX9_earnsAt 69 = .ok (.goto (-26), 3) := by decide +kernel
theorem dX9_earnsAt_72 : decode cX9_earnsAt 72 = .ok (.aload_n 0, 1) := by decide +kernel
theorem dX9_earnsAt_73 : decode cX9_earnsAt 73 = .ok (.getfield 94, 3) := by decide +kernel
theorem dX9_earnsAt_76 : decode cX9_earnsAt 76 = .ok (.iload_n 1, 1) := by decide +kernel
theorem dX9_earnsAt_77 : decode cX9_earnsAt 77 = .ok (.laload, 1) := by decide +kernel
theorem dX9_earnsAt_78 : decode cX9_earnsAt 78 = .ok (.lreturn, 1) := by decide +kernel
theorem dX9_bestOf_0 : decode cX9_bestOf 0 = .ok (.iconst (-1), 1) := by decide +kernel
theorem dX9_bestOf_1 : decode cX9_bestOf 1 = .ok (.istore_n 2, 1) := by decide +kernel
theorem dX9_bestOf_2 : decode cX9_bestOf 2 = .ok (.aload_n 0, 1) := by decide +kernel
theorem dX9_bestOf_3 : decode cX9_bestOf 3 = .ok (.lconst 0, 1) := by decide +kernel
theorem dX9_bestOf_4 : decode cX9_bestOf 4 = .ok (.putfield 354, 3) := by decide +kernel
theorem dX9_bestOf_7 : decode cX9_bestOf 7 = .ok (.iconst 0, 1) := by decide +kernel
theorem dX9_bestOf_8 : decode cX9_bestOf 8 = .ok (.istore_n 3, 1) := by decide +kernel
theorem dX9_bestOf_9 : decode cX9_bestOf 9 = .ok (.iload_n 3, 1) := by decide +kernel
theorem dX9_bestOf_10 : decode cX9_bestOf 10 = .ok (.aload_n 0, 1) := by decide +kernel
theorem dX9_bestOf_11 : decode cX9_bestOf 11 = .ok (.getfield 7, 3) := by decide +kernel
theorem dX9_bestOf_14 : decode cX9_bestOf 14 = .ok (.if_icmp .ge 54, 3) := by decide +kernel
theorem dX9_bestOf_17 : decode cX9_bestOf 17 = .ok (.aload_n 0, 1) := by decide +kernel
theorem dX9_bestOf_18 : decode cX9_bestOf 18 = .ok (.iload_n 3, 1) := by decide +kernel
theorem dX9_bestOf_19 : decode cX9_bestOf 19 = .ok (.invokevirtual 293, 3) := by decide +kernel
theorem dX9_bestOf_22 : decode cX9_bestOf 22 = .ok (.ifCond .eq 6, 3) := by decide +kernel
theorem dX9_bestOf_25 : decode cX9_bestOf 25 = .ok (.goto 37, 3) := by decide +kernel
theorem dX9_bestOf_28 : decode cX9_bestOf 28 = .ok (.aload_n 0, 1) := by decide +kernel
theorem dX9_bestOf_29 : decode cX9_bestOf 29 = .ok (.iload_n 1, 1) := by decide +kernel
theorem dX9_bestOf_30 : decode cX9_bestOf 30 = .ok (.iload_n 3, 1) := by decide +kernel
theorem dX9_bestOf_31 : decode cX9_bestOf 31 = .ok (.invokevirtual 357, 3) := by decide +kernel
theorem dX9_bestOf_34 : decode cX9_bestOf 34 = .ok (.lstore 4, 2) := by decide +kernel
theorem dX9_bestOf_36 : decode cX9_bestOf 36 = .ok (.iload_n 2, 1) := by decide +kernel
theorem dX9_bestOf_37 : decode cX9_bestOf 37 = .ok (.iconst (-1), 1) := by decide +kernel
theorem dX9_bestOf_38 : decode cX9_bestOf 38 = .ok (.if_icmp .eq 16, 3) := by decide +kernel
theorem dX9_bestOf_41 : decode cX9_bestOf 41 = .ok (.lload 4, 2) := by decide +kernel
theorem dX9_bestOf_43 : decode cX9_bestOf 43 = .ok (.aload_n 0, 1) := by decide +kernel
theorem dX9_bestOf_44 : decode cX9_bestOf 44 = .ok (.getfield 354, 3) := by decide +kernel
theorem dX9_bestOf_47 : decode cX9_bestOf 47 = .ok (.lcmp, 1) := by decide +kernel
theorem dX9_bestOf_48 : decode cX9_bestOf 48 = .ok (.ifCond .gt 6, 3) := by decide +kernel
theorem dX9_bestOf_51 : decode cX9_bestOf 51 = .ok (.goto 11, 3) := by decide +kernel
theorem dX9_bestOf_54 : decode cX9_bestOf 54 = .ok (.iload_n 3, 1) := by decide +kernel
theorem dX9_bestOf_55 : decode cX9_bestOf 55 = .ok (.istore_n 2, 1) := by decide +kernel
theorem dX9_bestOf_56 : decode cX9_bestOf 56 = .ok (.aload_n 0, 1) := by decide +kernel
theorem dX9_bestOf_57 : decode cX9_bestOf 57 = .ok (.lload 4, 2) := by decide +kernel
theorem dX9_bestOf_59 : decode cX9_bestOf 59 = .ok (.putfield 354, 3) := by decide +kernel
theorem dX9_bestOf_62 : decode cX9_bestOf 62 = .ok (.iinc 3 1, 3) := by decide +kernel
theorem dX9_bestOf_65 : decode cX9_bestOf 65 = .ok (.goto (-56), 3) := by decide +kernel
theorem dX9_bestOf_68 : decode cX9_bestOf 68 = .ok (.iload_n 2, 1) := by decide +kernel
theorem dX9_bestOf_69 : decode cX9_bestOf 69 = .ok (.ireturn, 1) := by decide +kernel
theorem dX9_areReady_0 : decode cX9_areReady 0 = .ok (.aload_n 0, 1) := by decide +kernel
theorem dX9_areReady_1 : decode cX9_areReady 1 = .ok (.invokevirtual 361, 3) := by decide +kernel
theorem dX9_areReady_4 : decode cX9_areReady 4 = .ok (.aload_n 0, 1) := by decide +kernel
theorem dX9_areReady_5 : decode cX9_areReady 5 = .ok (.invokevirtual 364, 3) := by decide +kernel
theorem dX9_areReady_8 : decode cX9_areReady 8 = .ok (.ireturn, 1) := by decide +kernel
theorem dX9_part_0 : decode cX9_part 0 = .ok (.aload_n 0, 1) := by decide +kernel
theorem dX9_part_1 : decode cX9_part 1 = .ok (.iload_n 1, 1) := by decide +kernel
theorem dX9_part_2 : decode cX9_part 2 = .ok (.invokevirtual 287, 3) := by decide +kernel
theorem dX9_part_5 : decode cX9_part 5 = .ok (.ifCond .eq 34, 3) := by decide +kernel
theorem dX9_part_8 : decode cX9_part 8 = .ok (.iload_n 2, 1) := by decide +kernel
theorem dX9_part_9 : decode cX9_part 9 = .ok (.iconst 0, 1) := by decide +kernel
theorem dX9_part_10 : decode cX9_part 10 = .ok (.bipush 7, 2) := by decide +kernel
theorem dX9_part_12 : decode cX9_part 12 = .ok (.invokestatic 156, 3) := by decide +kernel
theorem dX9_part_15 : decode cX9_part 15 = .ok (.ifCond .eq 24, 3) := by decide +kernel
theorem dX9_part_18 : decode cX9_part 18 = .ok (.aload_n 0, 1) := by decide +kernel
theorem dX9_part_19 : decode cX9_part 19 = .ok (.invokevirtual 367, 3) := by decide +kernel
theorem dX9_part_22 : decode cX9_part 22 = .ok (.ifCond .eq 17, 3) := by decide +kernel
theorem dX9_part_25 : decode cX9_part 25 = .ok (.aload_n 0, 1) := by decide +kernel
theorem dX9_part_26 : decode cX9_part 26 = .ok (.getfield 79, 3) := by decide +kernel
theorem dX9_part_29 : decode cX9_part 29 = .ok (.bipush 8, 2) := by decide +kernel
theorem dX9_part_31 : decode cX9_part 31 = .ok (.iload_n 1, 1) := by decide +kernel
theorem dX9_part_32 : decode cX9_part 32 = .ok (.imul, 1) := by decide +kernel
theorem dX9_part_33 : decode cX9_part 33 = .ok (.iload_n 2, 1) := by decide +kernel
theorem dX9_part_34 : decode cX9_part 34 = .ok (.iadd, 1) := by decide +kernel
theorem dX9_part_35 : decode cX9_part 35 = .ok (.iaload, 1) := by decide +kernel
theorem dX9_part_36 : decode cX9_part 36 = .ok (.goto 4, 3) := by decide +kernel
theorem dX9_part_39 : decode cX9_part 39 = .ok (.iconst (-1), 1) := by decide +kernel
theorem dX9_part_40 : decode cX9_part 40 = .ok (.ireturn, 1) := by decide +kernel
theorem dX9_sold_0 : decode cX9_sold 0 = .ok (.aload_n 0, 1) := by decide +kernel
theorem dX9_sold_1 : decode cX9_sold 1 = .ok (.iload_n 1, 1) := by decide +kernel
theorem dX9_sold_2 : decode cX9_sold 2 = .ok (.invokevirtual 287, 3) := by decide +kernel
theorem dX9_sold_5 : decode cX9_sold 5 = .ok (.ifCond .eq 10, 3) := by decide +kernel
theorem dX9_sold_8 : decode cX9_sold 8 = .ok (.aload_n 0, 1) := by decide +kernel
theorem dX9_sold_9 : decode cX9_sold 9 = .ok (.invokevirtual 367, 3) := by decide +kernel
theorem dX9_sold_12 : decode cX9_sold 12 = .ok (.ifCond .ne 7, 3) := by decide +kernel
theorem dX9_sold_15 : decode cX9_sold 15 = .ok (.ldc2_w 370, 3) := by decide +kernel
theorem dX9_sold_18 : decode cX9_sold 18 = .ok (.lreturn, 1) := by decide +kernel
theorem dX9_sold_19 : decode cX9_sold 19 = .ok (.aload_n 0, 1) := by decide +kernel
theorem dX9_sold_20 : decode cX9_sold 20 = .ok (.invokevirtual 351, 3) := by decide +kernel
theorem dX9_sold_23 : decode cX9_sold 23 = .ok (.aload_n 0, 1) := by decide +kernel
theorem dX9_sold_24 : decode cX9_sold 24 = .ok (.getfield 91, 3) := by decide +kernel
theorem dX9_sold_27 : decode cX9_sold 27 = .ok (.iload_n 1, 1) := by decide +kernel
theorem dX9_sold_28 : decode cX9_sold 28 = .ok (.laload, 1) := by decide +kernel
theorem dX9_sold_29 : decode cX9_sold 29 = .ok (.lreturn, 1) := by decide +kernel
theorem dX9_earns_0 : decode cX9_earns 0 = .ok (.aload_n 0, 1) := by decide +kernel
theorem dX9_earns_1 : decode cX9_earns 1 = .ok (.iload_n 1, 1) := by decide +kernel
theorem dX9_earns_2 : decode cX9_earns 2 = .ok (.invokevirtual 287, 3) := by decide +kernel
theorem dX9_earns_5 : decode cX9_earns 5 = .ok (.ifCond .eq 10, 3) := by decide +kernel
theorem dX9_earns_8 : decode cX9_earns 8 = .ok (.aload_n 0, 1) := by decide +kernel
theorem dX9_earns_9 : decode cX9_earns 9 = .ok (.invokevirtual 367, 3) := by decide +kernel
theorem dX9_earns_12 : decode cX9_earns 12 = .ok (.ifCond .ne 7, 3) := by decide +kernel
theorem dX9_earns_15 : decode cX9_earns 15 = .ok (.ldc2_w 372, 3) := by decide +kernel
theorem dX9_earns_18 : decode cX9_earns 18 = .ok (.lreturn, 1) := by decide +kernel
theorem dX9_earns_19 : decode cX9_earns 19 = .ok (.aload_n 0, 1) := by decide +kernel
theorem dX9_earns_20 : decode cX9_earns 20 = .ok (.invokevirtual 351, 3) := by decide +kernel
theorem dX9_earns_23 : decode cX9_earns 23 = .ok (.aload_n 0, 1) := by decide +kernel
theorem dX9_earns_24 : decode cX9_earns 24 = .ok (.getfield 94, 3) := by decide +kernel
theorem dX9_earns_27 : decode cX9_earns 27 = .ok (.iload_n 1, 1) := by decide +kernel
theorem dX9_earns_28 : decode cX9_earns 28 = .ok (.laload, 1) := by decide +kernel
theorem dX9_earns_29 : decode cX9_earns 29 = .ok (.lreturn, 1) := by decide +kernel
theorem dX9_at_0 : decode cX9_at 0 = .ok (.aload_n 0, 1) := by decide +kernel
theorem dX9_at_1 : decode cX9_at 1 = .ok (.iload_n 1, 1) := by decide +kernel
theorem dX9_at_2 : decode cX9_at 2 = .ok (.invokevirtual 287, 3) := by decide +kernel
theorem dX9_at_5 : decode cX9_at 5 = .ok (.ifCond .eq 27, 3) := by decide +kernel
theorem dX9_at_8 : decode cX9_at 8 = .ok (.aload_n 0, 1) := by decide +kernel
theorem dX9_at_9 : decode cX9_at 9 = .ok (.iload_n 2, 1) := by decide +kernel
theorem dX9_at_10 : decode cX9_at 10 = .ok (.invokevirtual 290, 3) := by decide +kernel
theorem dX9_at_13 : decode cX9_at 13 = .ok (.ifCond .eq 19, 3) := by decide +kernel
theorem dX9_at_16 : decode cX9_at 16 = .ok (.aload_n 0, 1) := by decide +kernel
theorem dX9_at_17 : decode cX9_at 17 = .ok (.invokevirtual 367, 3) := by decide +kernel
theorem dX9_at_20 : decode cX9_at 20 = .ok (.ifCond .eq 12, 3) := by decide +kernel
theorem dX9_at_23 : decode cX9_at 23 = .ok (.aload_n 0, 1) := by decide +kernel
theorem dX9_at_24 : decode cX9_at 24 = .ok (.iload_n 1, 1) := by decide +kernel
theorem dX9_at_25 : decode cX9_at 25 = .ok (.iload_n 2, 1) := by decide +kernel
theorem dX9_at_26 : decode cX9_at 26 = .ok (.invokevirtual 357, 3) := by decide +kernel
theorem dX9_at_29 : decode cX9_at 29 = .ok (.goto 6, 3) := by decide +kernel
theorem dX9_at_32 : decode cX9_at 32 = .ok (.ldc2_w 372, 3) := by decide +kernel
theorem dX9_at_35 : decode cX9_at 35 = .ok (.lreturn, 1) := by decide +kernel
theorem dX9_best_0 : decode cX9_best 0 = .ok (.aload_n 0, 1) := by decide +kernel
theorem dX9_best_1 : decode cX9_best 1 = .ok (.iload_n 1, 1) := by decide +kernel
theorem dX9_best_2 : decode cX9_best 2 = .ok (.invokevirtual 287, 3) := by decide +kernel
theorem dX9_best_5 : decode cX9_best 5 = .ok (.ifCond .eq 18, 3) := by decide +kernel
theorem dX9_best_8 : decode cX9_best 8 = .ok (.aload_n 0, 1) := by decide +kernel
theorem dX9_best_9 : decode cX9_best 9 = .ok (.invokevirtual 367, 3) := by decide +kernel
theorem dX9_best_12 : decode cX9_best 12 = .ok (.ifCond .eq 11, 3) := by decide +kernel
theorem dX9_best_15 : decode cX9_best 15 = .ok (.aload_n 0, 1) := by decide +kernel
theorem dX9_best_16 : decode cX9_best 16 = .ok (.iload_n 1, 1) := by decide +kernel
theorem dX9_best_17 : decode cX9_best 17 = .ok (.invokevirtual 302, 3) := by decide +kernel
theorem dX9_best_20 : decode cX9_best 20 = .ok (.goto 4, 3) := by decide +kernel
theorem dX9_best_23 : decode cX9_best 23 = .ok (.iconst (-1), 1) := by decide +kernel
theorem dX9_best_24 : decode cX9_best 24 = .ok (.ireturn, 1) := by decide +kernel
theorem dX9_wouldRather_0 : decode cX9_wouldRather 0 = .ok (.aload_n 0, 1) := by decide +kernel
theorem dX9_wouldRather_1 : decode cX9_wouldRather 1 = .ok (.invokevirtual 351, 3) := by decide +kernel
theorem dX9_wouldRather_4 : decode cX9_wouldRather 4 = .ok (.aload_n 0, 1) := by decide +kernel
theorem dX9_wouldRather_5 : decode cX9_wouldRather 5 = .ok (.getfield 94, 3) := by decide +kernel
theorem dX9_wouldRather_8 : decode cX9_wouldRather 8 = .ok (.iload_n 1, 1) := by decide +kernel
theorem dX9_wouldRather_9 : decode cX9_wouldRather 9 = .ok (.laload, 1) := by decide +kernel
theorem dX9_wouldRather_10 : decode cX9_wouldRather 10 = .ok (.lstore_n 2, 1) := by decide +kernel
theorem dX9_wouldRather_11 : decode cX9_wouldRather 11 = .ok (.aload_n 0, 1) := by decide +kernel
theorem dX9_wouldRather_12 : decode cX9_wouldRather 12 = .ok (.iload_n 1, 1) := by decide +kernel
theorem dX9_wouldRather_13 : decode cX9_wouldRather 13 = .ok (.invokevirtual 302, 3) := by decide +kernel
theorem dX9_wouldRather_16 : decode cX9_wouldRather 16 = .ok (.iconst (-1), 1) := by decide +kernel
theorem dX9_wouldRather_17 : decode cX9_wouldRather 17 = .ok (.if_icmp .eq 16, 3) := by decide +kernel
theorem dX9_wouldRather_20 : decode cX9_wouldRather 20 = .ok (.aload_n 0, 1) := by decide +kernel
theorem dX9_wouldRather_21 : decode cX9_wouldRather 21 = .ok (.getfield 354, 3) := by decide +kernel
theorem dX9_wouldRather_24 : decode cX9_wouldRather 24 = .ok (.lload_n 2, 1) := by decide +kernel
theorem dX9_wouldRather_25 : decode cX9_wouldRather 25 = .ok (.lcmp, 1) := by decide +kernel
theorem dX9_wouldRather_26 : decode cX9_wouldRather 26 = .ok (.ifCond .le 7, 3) := by decide +kernel
theorem dX9_wouldRather_29 : decode cX9_wouldRather 29 = .ok (.iconst 1, 1) := by decide +kernel
theorem dX9_wouldRather_30 : decode cX9_wouldRather 30 = .ok (.goto 4, 3) := by decide +kernel
theorem dX9_wouldRather_33 : decode cX9_wouldRather 33 = .ok (.iconst 0, 1) := by decide +kernel
theorem dX9_wouldRather_34 : decode cX9_wouldRather 34 = .ok (.ireturn, 1) := by decide +kernel
theorem dX9_judge_0 : decode cX9_judge 0 = .ok (.aload_n 0, 1) := by decide +kernel
theorem dX9_judge_1 : decode cX9_judge 1 = .ok (.invokevirtual 367, 3) := by decide +kernel
theorem dX9_judge_4 : decode cX9_judge 4 = .ok (.ifCond .ne 6, 3) := by decide +kernel
theorem dX9_judge_7 : decode cX9_judge 7 = .ok (.bipush (-2), 2) := by decide +kernel
theorem dX9_judge_9 : decode cX9_judge 9 = .ok (.ireturn, 1) := by decide +kernel
theorem dX9_judge_10 : decode cX9_judge 10 = .ok (.iconst 0, 1) := by decide +kernel
theorem dX9_judge_11 : decode cX9_judge 11 = .ok (.istore_n 1, 1) := by decide +kernel
theorem dX9_judge_12 : decode cX9_judge 12 = .ok (.iload_n 1, 1) := by decide +kernel
theorem dX9_judge_13 : decode cX9_judge 13 = .ok (.aload_n 0, 1) := by decide +kernel
theorem dX9_judge_14 : decode cX9_judge 14 = .ok (.getfield 260, 3) := by decide +kernel
theorem dX9_judge_17 : decode cX9_judge 17 = .ok (.if_icmp .ge 28, 3) := by decide +kernel
theorem dX9_judge_20 : decode cX9_judge 20 = .ok (.aload_n 0, 1) := by decide +kernel
theorem dX9_judge_21 : decode cX9_judge 21 = .ok (.iload_n 1, 1) := by decide +kernel
theorem dX9_judge_22 : decode cX9_judge 22 = .ok (.invokevirtual 374, 3) := by decide +kernel
theorem dX9_judge_25 : decode cX9_judge 25 = .ok (.ifCond .eq 14, 3) := by decide +kernel
theorem dX9_judge_28 : decode cX9_judge 28 = .ok (.bipush 10, 2) := by decide +kernel
theorem dX9_judge_30 : decode cX9_judge 30 = .ok (.iload_n 1, 1) := by decide +kernel
theorem dX9_judge_31 : decode cX9_judge 31 = .ok (.imul, 1) := by decide +kernel
theorem dX9_judge_32 : decode cX9_judge 32 = .ok (.aload_n 0, 1) := by decide +kernel
theorem dX9_judge_33 : decode cX9_judge 33 = .ok (.iload_n 1, 1) := by decide +kernel
theorem dX9_judge_34 : decode cX9_judge 34 = .ok (.invokevirtual 302, 3) := by decide +kernel
theorem dX9_judge_37 : decode cX9_judge 37 = .ok (.iadd, 1) := by decide +kernel
theorem dX9_judge_38 : decode cX9_judge 38 = .ok (.ireturn, 1) := by decide +kernel
theorem dX9_judge_39 : decode cX9_judge 39 = .ok (.iinc 1 1, 3) := by decide +kernel
theorem dX9_judge_42 : decode cX9_judge 42 = .ok (.goto (-30), 3) := by decide +kernel
theorem dX9_judge_45 : decode cX9_judge 45 = .ok (.iconst (-1), 1) := by decide +kernel
theorem dX9_judge_46 : decode cX9_judge 46 = .ok (.ireturn, 1) := by decide +kernel
theorem dX9_isLet_0 : decode cX9_isLet 0 = .ok (.iconst 1, 1) := by decide +kernel
theorem dX9_isLet_1 : decode cX9_isLet 1 = .ok (.istore_n 2, 1) := by decide +kernel
theorem dX9_isLet_2 : decode cX9_isLet 2 = .ok (.iconst 0, 1) := by decide +kernel
theorem dX9_isLet_3 : decode cX9_isLet 3 = .ok (.istore_n 3, 1) := by decide +kernel
theorem dX9_isLet_4 : decode cX9_isLet 4 = .ok (.iload_n 3, 1) := by decide +kernel
theorem dX9_isLet_5 : decode cX9_isLet 5 = .ok (.aload_n 0, 1) := by decide +kernel
theorem dX9_isLet_6 : decode cX9_isLet 6 = .ok (.getfield 260, 3) := by decide +kernel
theorem dX9_isLet_9 : decode cX9_isLet 9 = .ok (.if_icmp .ge 49, 3) := by decide +kernel
theorem dX9_isLet_12 : decode cX9_isLet 12 = .ok (.iload_n 2, 1) := by decide +kernel
theorem dX9_isLet_13 : decode cX9_isLet 13 = .ok (.ifCond .eq 37, 3) := by decide +kernel
theorem dX9_isLet_16 : decode cX9_isLet 16 = .ok (.aload_n 0, 1) := by decide +kernel
theorem dX9_isLet_17 : decode cX9_isLet 17 = .ok (.iload_n 1, 1) := by decide +kernel
theorem dX9_isLet_18 : decode cX9_isLet 18 = .ok (.iconst 3, 1) := by decide +kernel
theorem dX9_isLet_19 : decode cX9_isLet 19 = .ok (.iload_n 3, 1) := by decide +kernel
theorem dX9_isLet_20 : decode cX9_isLet 20 = .ok (.imul, 1) := by decide +kernel
theorem dX9_isLet_21 : decode cX9_isLet 21 = .ok (.ishr, 1) := by decide +kernel
theorem dX9_isLet_22 : decode cX9_isLet 22 = .ok (.bipush 7, 2) := by decide +kernel
theorem dX9_isLet_24 : decode cX9_isLet 24 = .ok (.iand, 1) := by decide +kernel
theorem dX9_isLet_25 : decode cX9_isLet 25 = .ok (.invokevirtual 290, 3) := by decide +kernel
theorem dX9_isLet_28 : decode cX9_isLet 28 = .ok (.ifCond .eq 22, 3) := by decide +kernel
theorem dX9_isLet_31 : decode cX9_isLet 31 = .ok (.aload_n 0, 1) := by decide +kernel
theorem dX9_isLet_32 : decode cX9_isLet 32 = .ok (.iload_n 1, 1) := by decide +kernel
theorem dX9_isLet_33 : decode cX9_isLet 33 = .ok (.iconst 3, 1) := by decide +kernel
theorem dX9_isLet_34 : decode cX9_isLet 34 = .ok (.iload_n 3, 1) := by decide +kernel
theorem dX9_isLet_35 : decode cX9_isLet 35 = .ok (.imul, 1) := by decide +kernel
theorem dX9_isLet_36 : decode cX9_isLet 36 = .ok (.ishr, 1) := by decide +kernel
theorem dX9_isLet_37 : decode cX9_isLet 37 = .ok (.bipush 7, 2) := by decide +kernel
theorem dX9_isLet_39 : decode cX9_isLet 39 = .ok (.iand, 1) := by decide +kernel
theorem dX9_isLet_40 : decode cX9_isLet 40 = .ok (.invokevirtual 293, 3) := by decide +kernel
theorem dX9_isLet_43 : decode cX9_isLet 43 = .ok (.ifCond .ne 7, 3) := by decide +kernel
theorem dX9_isLet_46 : decode cX9_isLet 46 = .ok (.iconst 1, 1) := by decide +kernel
theorem dX9_isLet_47 : decode cX9_isLet 47 = .ok (.goto 4, 3) := by decide +kernel
theorem dX9_isLet_50 : decode cX9_isLet 50 = .ok (.iconst 0, 1) := by decide +kernel
theorem dX9_isLet_51 : decode cX9_isLet 51 = .ok (.istore_n 2, 1) := by decide +kernel
theorem dX9_isLet_52 : decode cX9_isLet 52 = .ok (.iinc 3 1, 3) := by decide +kernel
theorem dX9_isLet_55 : decode cX9_isLet 55 = .ok (.goto (-51), 3) := by decide +kernel
theorem dX9_isLet_58 : decode cX9_isLet 58 = .ok (.iload_n 2, 1) := by decide +kernel
theorem dX9_isLet_59 : decode cX9_isLet 59 = .ok (.ireturn, 1) := by decide +kernel
theorem dX9_plays_0 : decode cX9_plays 0 = .ok (.iconst 0, 1) := by decide +kernel
theorem dX9_plays_1 : decode cX9_plays 1 = .ok (.istore_n 1, 1) := by decide +kernel
theorem dX9_plays_2 : decode cX9_plays 2 = .ok (.iload_n 1, 1) := by decide +kernel
theorem dX9_plays_3 : decode cX9_plays 3 = .ok (.aload_n 0, 1) := by decide +kernel
theorem dX9_plays_4 : decode cX9_plays 4 = .ok (.invokevirtual 342, 3) := by decide +kernel
theorem dX9_plays_7 : decode cX9_plays 7 = .ok (.if_icmp .ge 66, 3) := by decide +kernel
theorem dX9_plays_10 : decode cX9_plays 10 = .ok (.aload_n 0, 1) := by decide +kernel
theorem dX9_plays_11 : decode cX9_plays 11 = .ok (.iload_n 1, 1) := by decide +kernel
theorem dX9_plays_12 : decode cX9_plays 12 = .ok (.invokevirtual 377, 3) := by decide +kernel
theorem dX9_plays_15 : decode cX9_plays 15 = .ok (.ifCond .ne 6, 3) := by decide +kernel
theorem dX9_plays_18 : decode cX9_plays 18 = .ok (.goto 49, 3) := by decide +kernel
theorem dX9_plays_21 : decode cX9_plays 21 = .ok (.aload_n 0, 1) := by decide +kernel
theorem dX9_plays_22 : decode cX9_plays 22 = .ok (.invokevirtual 339, 3) := by decide +kernel
theorem dX9_plays_25 : decode cX9_plays 25 = .ok (.aload_n 0, 1) := by decide +kernel
theorem dX9_plays_26 : decode cX9_plays 26 = .ok (.iload_n 1, 1) := by decide +kernel
theorem dX9_plays_27 : decode cX9_plays 27 = .ok (.iconst 1, 1) := by decide +kernel
theorem dX9_plays_28 : decode cX9_plays 28 = .ok (.invokevirtual 345, 3) := by decide +kernel
theorem dX9_plays_31 : decode cX9_plays 31 = .ok (.aload_n 0, 1) := by decide +kernel
theorem dX9_plays_32 : decode cX9_plays 32 = .ok (.invokevirtual 348, 3) := by decide +kernel
theorem dX9_plays_35 : decode cX9_plays 35 = .ok (.iconst 0, 1) := by decide +kernel
theorem dX9_plays_36 : decode cX9_plays 36 = .ok (.istore_n 2, 1) := by decide +kernel
theorem dX9_plays_37 : decode cX9_plays 37 = .ok (.iload_n 2, 1) := by decide +kernel
theorem dX9_plays_38 : decode cX9_plays 38 = .ok (.aload_n 0, 1) := by decide +kernel
theorem dX9_plays_39 : decode cX9_plays 39 = .ok (.getfield 260, 3) := by decide +kernel
theorem dX9_plays_42 : decode cX9_plays 42 = .ok (.if_icmp .ge 25, 3) := by decide +kernel
theorem dX9_plays_45 : decode cX9_plays 45 = .ok (.aload_n 0, 1) := by decide +kernel
theorem dX9_plays_46 : decode cX9_plays 46 = .ok (.getfield 112, 3) := by decide +kernel
theorem dX9_plays_49 : decode cX9_plays 49 = .ok (.iconst 4, 1) := by decide +kernel
theorem dX9_plays_50 : decode cX9_plays 50 = .ok (.iload_n 1, 1) := by decide +kernel
theorem dX9_plays_51 : decode cX9_plays 51 = .ok (.imul, 1) := by decide +kernel
theorem dX9_plays_52 : decode cX9_plays 52 = .ok (.iload_n 2, 1) := by decide +kernel
theorem dX9_plays_53 : decode cX9_plays 53 = .ok (.iadd, 1) := by decide +kernel
theorem dX9_plays_54 : decode cX9_plays 54 = .ok (.aload_n 0, 1) := by decide +kernel
theorem dX9_plays_55 : decode cX9_plays 55 = .ok (.getfield 94, 3) := by decide +kernel
theorem dX9_plays_58 : decode cX9_plays 58 = .ok (.iload_n 2, 1) := by decide +kernel
theorem dX9_plays_59 : decode cX9_plays 59 = .ok (.laload, 1) := by decide +kernel
theorem dX9_plays_60 : decode cX9_plays 60 = .ok (.lastore, 1) := by decide +kernel
theorem dX9_plays_61 : decode cX9_plays 61 = .ok (.iinc 2 1, 3) := by decide +kernel
theorem dX9_plays_64 : decode cX9_plays 64 = .ok (.goto (-27), 3) := by decide +kernel
theorem dX9_plays_67 : decode cX9_plays 67 = .ok (.iinc 1 1, 3) := by decide +kernel
theorem dX9_plays_70 : decode cX9_plays 70 = .ok (.goto (-68), 3) := by decide +kernel
theorem dX9_plays_73 : decode cX9_plays 73 = .ok (.return_, 1) := by decide +kernel
theorem dX9_isRest_0 : decode cX9_isRest 0 = .ok (.aload_n 0, 1) := by decide +kernel
theorem dX9_isRest_1 : decode cX9_isRest 1 = .ok (.iload_n 1, 1) := by decide +kernel
theorem dX9_isRest_2 : decode cX9_isRest 2 = .ok (.invokevirtual 377, 3) := by decide +kernel
theorem dX9_isRest_5 : decode cX9_isRest 5 = .ok (.ifCond .ne 5, 3) := by decide +kernel
theorem dX9_isRest_8 : decode cX9_isRest 8 = .ok (.iconst 0, 1) := by decide +kernel
theorem dX9_isRest_9 : decode cX9_isRest 9 = .ok (.ireturn, 1) := by decide +kernel
theorem dX9_isRest_10 : decode cX9_isRest 10 = .ok (.iconst 0, 1) := by decide +kernel
theorem dX9_isRest_11 : decode cX9_isRest 11 = .ok (.istore_n 2, 1) := by decide +kernel
theorem dX9_isRest_12 : decode cX9_isRest 12 = .ok (.iload_n 2, 1) := by decide +kernel
theorem dX9_isRest_13 : decode cX9_isRest 13 = .ok (.aload_n 0, 1) := by decide +kernel
theorem dX9_isRest_14 : decode cX9_isRest 14 = .ok (.getfield 260, 3) := by decide +kernel
theorem dX9_isRest_17 : decode cX9_isRest 17 = .ok (.if_icmp .ge 78, 3) := by decide +kernel
theorem dX9_isRest_20 : decode cX9_isRest 20 = .ok (.iconst 0, 1) := by decide +kernel
theorem dX9_isRest_21 : decode cX9_isRest 21 = .ok (.istore_n 3, 1) := by decide +kernel
theorem dX9_isRest_22 : decode cX9_isRest 22 = .ok (.iload_n 3, 1) := by decide +kernel
theorem dX9_isRest_23 : decode cX9_isRest 23 = .ok (.aload_n 0, 1) := by decide +kernel
theorem dX9_isRest_24 : decode cX9_isRest 24 = .ok (.getfield 7, 3) := by decide +kernel
theorem dX9_isRest_27 : decode cX9_isRest 27 = .ok (.if_icmp .ge 62, 3) := by decide +kernel
theorem dX9_isRest_30 : decode cX9_isRest 30 = .ok (.iload_n 1, 1) := by decide +kernel
theorem dX9_isRest_31 : decode cX9_isRest 31 = .ok (.iload_n 3, 1) := by decide +kernel
theorem dX9_isRest_32 : decode cX9_isRest 32 = .ok (.iload_n 1, 1) := by decide +kernel
theorem dX9_isRest_33 : decode cX9_isRest 33 = .ok (.iconst 3, 1) := by decide +kernel
theorem dX9_isRest_34 : decode cX9_isRest 34 = .ok (.iload_n 2, 1) := by decide +kernel
theorem dX9_isRest_35 : decode cX9_isRest 35 = .ok (.imul, 1) := by decide +kernel
theorem dX9_isRest_36 : decode cX9_isRest 36 = .ok (.ishr, 1) := by decide +kernel
theorem dX9_isRest_37 : decode cX9_isRest 37 = .ok (.bipush 7, 2) := by decide +kernel
theorem dX9_isRest_39 : decode cX9_isRest 39 = .ok (.iand, 1) := by decide +kernel
theorem dX9_isRest_40 : decode cX9_isRest 40 = .ok (.isub, 1) := by decide +kernel
theorem dX9_isRest_41 : decode cX9_isRest 41 = .ok (.iconst 3, 1) := by decide +kernel
theorem dX9_isRest_42 : decode cX9_isRest 42 = .ok (.iload_n 2, 1) := by decide +kernel
theorem dX9_isRest_43 : decode cX9_isRest 43 = .ok (.imul, 1) := by decide +kernel
theorem dX9_isRest_44 : decode cX9_isRest 44 = .ok (.ishl, 1) := by decide +kernel
theorem dX9_isRest_45 : decode cX9_isRest 45 = .ok (.iadd, 1) := by decide +kernel
theorem dX9_isRest_46 : decode cX9_isRest 46 = .ok (.istore 4, 2) := by decide +kernel
theorem dX9_isRest_48 : decode cX9_isRest 48 = .ok (.aload_n 0, 1) := by decide +kernel
theorem dX9_isRest_49 : decode cX9_isRest 49 = .ok (.iload_n 3, 1) := by decide +kernel
theorem dX9_isRest_50 : decode cX9_isRest 50 = .ok (.invokevirtual 293, 3) := by decide +kernel
theorem dX9_isRest_53 : decode cX9_isRest 53 = .ok (.ifCond .ne 30, 3) := by decide +kernel
theorem dX9_isRest_56 : decode cX9_isRest 56 = .ok (.aload_n 0, 1) := by decide +kernel
theorem dX9_isRest_57 : decode cX9_isRest 57 = .ok (.getfield 112, 3) := by decide +kernel
theorem dX9_isRest_60 : decode cX9_isRest 60 = .ok (.iconst 4, 1) := by decide +kernel
theorem dX9_isRest_61 : decode cX9_isRest 61 = .ok (.iload 4, 2) := by decide +kernel
theorem dX9_isRest_63 : decode cX9_isRest 63 = .ok (.imul, 1) := by decide +kernel
theorem dX9_isRest_64 : decode cX9_isRest 64 = .ok (.iload_n 2, 1) := by decide +kernel
theorem dX9_isRest_65 : decode cX9_isRest 65 = .ok (.iadd, 1) := by decide +kernel
theorem dX9_isRest_66 : decode cX9_isRest 66 = .ok (.laload, 1) := by decide +kernel
theorem dX9_isRest_67 : decode cX9_isRest 67 = .ok (.aload_n 0, 1) := by decide +kernel
theorem dX9_isRest_68 : decode cX9_isRest 68 = .ok (.getfield 112, 3) := by decide +kernel
theorem dX9_isRest_71 : decode cX9_isRest 71 = .ok (.iconst 4, 1) := by decide +kernel
theorem dX9_isRest_72 : decode cX9_isRest 72 = .ok (.iload_n 1, 1) := by decide +kernel
theorem dX9_isRest_73 : decode cX9_isRest 73 = .ok (.imul, 1) := by decide +kernel
theorem dX9_isRest_74 : decode cX9_isRest 74 = .ok (.iload_n 2, 1) := by decide +kernel
theorem dX9_isRest_75 : decode cX9_isRest 75 = .ok (.iadd, 1) := by decide +kernel
theorem dX9_isRest_76 : decode cX9_isRest 76 = .ok (.laload, 1) := by decide +kernel
theorem dX9_isRest_77 : decode cX9_isRest 77 = .ok (.lcmp, 1) := by decide +kernel
theorem dX9_isRest_78 : decode cX9_isRest 78 = .ok (.ifCond .le 5, 3) := by decide +kernel
theorem dX9_isRest_81 : decode cX9_isRest 81 = .ok (.iconst 0, 1) := by decide +kernel
theorem dX9_isRest_82 : decode cX9_isRest 82 = .ok (.ireturn, 1) := by decide +kernel
theorem dX9_isRest_83 : decode cX9_isRest 83 = .ok (.iinc 3 1, 3) := by decide +kernel
theorem dX9_isRest_86 : decode cX9_isRest 86 = .ok (.goto (-64), 3) := by decide +kernel
theorem dX9_isRest_89 : decode cX9_isRest 89 = .ok (.iinc 2 1, 3) := by decide +kernel
theorem dX9_isRest_92 : decode cX9_isRest 92 = .ok (.goto (-80), 3) := by decide +kernel
theorem dX9_isRest_95 : decode cX9_isRest 95 = .ok (.iconst 1, 1) := by decide +kernel
theorem dX9_isRest_96 : decode cX9_isRest 96 = .ok (.ireturn, 1) := by decide +kernel
theorem dX9_countRests_0 : decode cX9_countRests 0 = .ok (.aload_n 0, 1) := by decide +kernel
theorem dX9_countRests_1 : decode cX9_countRests 1 = .ok (.invokevirtual 380, 3) := by decide +kernel
theorem dX9_countRests_4 : decode cX9_countRests 4 = .ok (.aload_n 0, 1) := by decide +kernel
theorem dX9_countRests_5 : decode cX9_countRests 5 = .ok (.iconst (-1), 1) := by decide +kernel
theorem dX9_countRests_6 : decode cX9_countRests 6 = .ok (.putfield 383, 3) := by decide +kernel
theorem dX9_countRests_9 : decode cX9_countRests 9 = .ok (.iconst 0, 1) := by decide +kernel
theorem dX9_countRests_10 : decode cX9_countRests 10 = .ok (.istore_n 1, 1) := by decide +kernel
theorem dX9_countRests_11 : decode cX9_countRests 11 = .ok (.iconst 0, 1) := by decide +kernel
theorem dX9_countRests_12 : decode cX9_countRests 12 = .ok (.istore_n 2, 1) := by decide +kernel
theorem dX9_countRests_13 : decode cX9_countRests 13 = .ok (.iload_n 2, 1) := by decide +kernel
theorem dX9_countRests_14 : decode cX9_countRests 14 = .ok (.aload_n 0, 1) := by decide +kernel
theorem dX9_countRests_15 : decode cX9_countRests 15 = .ok (.invokevirtual 342, 3) := by decide +kernel
theorem dX9_countRests_18 : decode cX9_countRests 18 = .ok (.if_icmp .ge 32, 3) := by decide +kernel
theorem dX9_countRests_21 : decode cX9_countRests 21 = .ok (.aload_n 0, 1) := by decide +kernel
theorem dX9_countRests_22 : decode cX9_countRests 22 = .ok (.iload_n 2, 1) := by decide +kernel
theorem dX9_countRests_23 : decode cX9_countRests 23 = .ok (.invokevirtual 386, 3) := by decide +kernel
theorem dX9_countRests_26 : decode cX9_countRests 26 = .ok (.ifCond .ne 6, 3) := by decide +kernel
theorem dX9_countRests_29 : decode cX9_countRests 29 = .ok (.goto 15, 3) := by decide +kernel
theorem dX9_countRests_32 : decode cX9_countRests 32 = .ok (.iload_n 1, 1) := by decide +kernel
theorem dX9_countRests_33 : decode cX9_countRests 33 = .ok (.ifCond .ne 8, 3) := by decide +kernel
theorem dX9_countRests_36 : decode cX9_countRests 36 = .ok (.aload_n 0, 1) := by decide +kernel
theorem dX9_countRests_37 : decode cX9_countRests 37 = .ok (.iload_n 2, 1) := by decide +kernel
theorem dX9_countRests_38 : decode cX9_countRests 38 = .ok (.putfield 383, 3) := by decide +kernel
theorem dX9_countRests_41 : decode cX9_countRests 41 = .ok (.iinc 1 1, 3) := by decide +kernel
theorem dX9_countRests_44 : decode cX9_countRests 44 = .ok (.iinc 2 1, 3) := by decide +kernel
theorem dX9_countRests_47 : decode cX9_countRests 47 = .ok (.goto (-34), 3) := by decide +kernel
theorem dX9_countRests_50 : decode cX9_countRests 50 = .ok (.iload_n 1, 1) := by decide +kernel
theorem dX9_countRests_51 : decode cX9_countRests 51 = .ok (.ireturn, 1) := by decide +kernel
theorem dX9_rests_0 : decode cX9_rests 0 = .ok (.aload_n 0, 1) := by decide +kernel
theorem dX9_rests_1 : decode cX9_rests 1 = .ok (.getfield 260, 3) := by decide +kernel
theorem dX9_rests_4 : decode cX9_rests 4 = .ok (.ifCond .eq 8, 3) := by decide +kernel
theorem dX9_rests_7 : decode cX9_rests 7 = .ok (.iload_n 1, 1) := by decide +kernel
theorem dX9_rests_8 : decode cX9_rests 8 = .ok (.iconst (-1), 1) := by decide +kernel
theorem dX9_rests_9 : decode cX9_rests 9 = .ok (.if_icmp .ge 5, 3) := by decide +kernel
theorem dX9_rests_12 : decode cX9_rests 12 = .ok (.iconst (-1), 1) := by decide +kernel
theorem dX9_rests_13 : decode cX9_rests 13 = .ok (.ireturn, 1) := by decide +kernel
theorem dX9_rests_14 : decode cX9_rests 14 = .ok (.aload_n 0, 1) := by decide +kernel
theorem dX9_rests_15 : decode cX9_rests 15 = .ok (.invokevirtual 361, 3) := by decide +kernel
theorem dX9_rests_18 : decode cX9_rests 18 = .ok (.aload_n 0, 1) := by decide +kernel
theorem dX9_rests_19 : decode cX9_rests 19 = .ok (.invokevirtual 389, 3) := by decide +kernel
theorem dX9_rests_22 : decode cX9_rests 22 = .ok (.istore_n 2, 1) := by decide +kernel
theorem dX9_rests_23 : decode cX9_rests 23 = .ok (.iload_n 1, 1) := by decide +kernel
theorem dX9_rests_24 : decode cX9_rests 24 = .ok (.iconst (-1), 1) := by decide +kernel
theorem dX9_rests_25 : decode cX9_rests 25 = .ok (.if_icmp .ne 5, 3) := by decide +kernel
theorem dX9_rests_28 : decode cX9_rests 28 = .ok (.iload_n 2, 1) := by decide +kernel
theorem dX9_rests_29 : decode cX9_rests 29 = .ok (.ireturn, 1) := by decide +kernel
theorem dX9_rests_30 : decode cX9_rests 30 = .ok (.iload_n 1, 1) := by decide +kernel
theorem dX9_rests_31 : decode cX9_rests 31 = .ok (.istore_n 3, 1) := by decide +kernel
theorem dX9_rests_32 : decode cX9_rests 32 = .ok (.iconst 0, 1) := by decide +kernel
theorem dX9_rests_33 : decode cX9_rests 33 = .ok (.istore 4, 2) := by decide +kernel
theorem dX9_rests_35 : decode cX9_rests 35 = .ok (.iload 4, 2) := by decide +kernel
theorem dX9_rests_37 : decode cX9_rests 37 = .ok (.aload_n 0, 1) := by decide +kernel
theorem dX9_rests_38 : decode cX9_rests 38 = .ok (.invokevirtual 342, 3) := by decide +kernel
theorem dX9_rests_41 : decode cX9_rests 41 = .ok (.if_icmp .ge 36, 3) := by decide +kernel
theorem dX9_rests_44 : decode cX9_rests 44 = .ok (.iload_n 1, 1) := by decide +kernel
theorem dX9_rests_45 : decode cX9_rests 45 = .ok (.iload_n 2, 1) := by decide +kernel
theorem dX9_rests_46 : decode cX9_rests 46 = .ok (.if_icmp .ge 31, 3) := by decide +kernel
theorem dX9_rests_49 : decode cX9_rests 49 = .ok (.aload_n 0, 1) := by decide +kernel
theorem dX9_rests_50 : decode cX9_rests 50 = .ok (.iload 4, 2) := by decide +kernel
theorem dX9_rests_52 : decode cX9_rests 52 = .ok (.invokevirtual 386, 3) := by decide +kernel
theorem dX9_rests_55 : decode cX9_rests 55 = .ok (.ifCond .ne 6, 3) := by decide +kernel
theorem dX9_rests_58 : decode cX9_rests 58 = .ok (.goto 13, 3) := by decide +kernel
theorem dX9_rests_61 : decode cX9_rests 61 = .ok (.iload_n 3, 1) := by decide +kernel
theorem dX9_rests_62 : decode cX9_rests 62 = .ok (.ifCond .ne 6, 3) := by decide +kernel
theorem dX9_rests_65 : decode cX9_rests 65 = .ok (.iload 4, 2) := by decide +kernel
theorem dX9_rests_67 : decode cX9_rests 67 = .ok (.ireturn, 1) := by decide +kernel
theorem dX9_rests_68 : decode cX9_rests 68 = .ok (.iinc 3 (-1), 3) := by decide +kernel
theorem dX9_rests_71 : decode cX9_rests 71 = .ok (.iinc 4 1, 3) := by decide +kernel
theorem dX9_rests_74 : decode cX9_rests 74 = .ok (.goto (-39), 3) := by decide +kernel
theorem dX9_rests_77 : decode cX9_rests 77 = .ok (.iconst (-1), 1) := by decide +kernel
theorem dX9_rests_78 : decode cX9_rests 78 = .ok (.ireturn, 1) := by decide +kernel
theorem dX9_pays_0 : decode cX9_pays 0 = .ok (.aload_n 0, 1) := by decide +kernel
theorem dX9_pays_1 : decode cX9_pays 1 = .ok (.iload_n 1, 1) := by decide +kernel
theorem dX9_pays_2 : decode cX9_pays 2 = .ok (.invokevirtual 392, 3) := by decide +kernel
theorem dX9_pays_5 : decode cX9_pays 5 = .ok (.ifCond .eq 19, 3) := by decide +kernel
theorem dX9_pays_8 : decode cX9_pays 8 = .ok (.iload_n 2, 1) := by decide +kernel
theorem dX9_pays_9 : decode cX9_pays 9 = .ok (.iconst 0, 1) := by decide +kernel
theorem dX9_pays_10 : decode cX9_pays 10 = .ok (.iconst 2, 1) := by decide +kernel
theorem dX9_pays_11 : decode cX9_pays 11 = .ok (.invokestatic 156, 3) := by decide +kernel
theorem dX9_pays_14 : decode cX9_pays 14 = .ok (.ifCond .eq 10, 3) := by decide +kernel
theorem dX9_pays_17 : decode cX9_pays 17 = .ok (.aload_n 0, 1) := by decide +kernel
theorem dX9_pays_18 : decode cX9_pays 18 = .ok (.invokevirtual 367, 3) := by decide +kernel
theorem dX9_pays_21 : decode cX9_pays 21 = .ok (.ifCond .ne 7, 3) := by decide +kernel
theorem dX9_pays_24 : decode cX9_pays 24 = .ok (.ldc2_w 370, 3) := by decide +kernel
theorem dX9_pays_27 : decode cX9_pays 27 = .ok (.lreturn, 1) := by decide +kernel
theorem dX9_pays_28 : decode cX9_pays 28 = .ok (.aload_n 0, 1) := by decide +kernel
theorem dX9_pays_29 : decode cX9_pays 29 = .ok (.invokevirtual 351, 3) := by decide +kernel
theorem dX9_pays_32 : decode cX9_pays 32 = .ok (.iload_n 2, 1) := by decide +kernel
theorem dX9_pays_33 : decode cX9_pays 33 = .ok (.ifCond .ne 12, 3) := by decide +kernel
theorem dX9_pays_36 : decode cX9_pays 36 = .ok (.aload_n 0, 1) := by decide +kernel
theorem dX9_pays_37 : decode cX9_pays 37 = .ok (.getfield 97, 3) := by decide +kernel
theorem dX9_pays_40 : decode cX9_pays 40 = .ok (.iload_n 1, 1) := by decide +kernel
theorem dX9_pays_41 : decode cX9_pays 41 = .ok (.laload, 1) := by decide +kernel
theorem dX9_pays_42 : decode cX9_pays 42 = .ok (.goto 23, 3) := by decide +kernel
theorem dX9_pays_45 : decode cX9_pays 45 = .ok (.iload_n 2, 1) := by decide +kernel
theorem dX9_pays_46 : decode cX9_pays 46 = .ok (.iconst 1, 1) := by decide +kernel
theorem dX9_pays_47 : decode cX9_pays 47 = .ok (.if_icmp .ne 12, 3) := by decide +kernel
theorem dX9_pays_50 : decode cX9_pays 50 = .ok (.aload_n 0, 1) := by decide +kernel
theorem dX9_pays_51 : decode cX9_pays 51 = .ok (.getfield 100, 3) := by decide +kernel
theorem dX9_pays_54 : decode cX9_pays 54 = .ok (.iload_n 1, 1) := by decide +kernel
theorem dX9_pays_55 : decode cX9_pays 55 = .ok (.laload, 1) := by decide +kernel
theorem dX9_pays_56 : decode cX9_pays 56 = .ok (.goto 9, 3) := by decide +kernel
theorem dX9_pays_59 : decode cX9_pays 59 = .ok (.aload_n 0, 1) := by decide +kernel
theorem dX9_pays_60 : decode cX9_pays 60 = .ok (.getfield 103, 3) := by decide +kernel
theorem dX9_pays_63 : decode cX9_pays 63 = .ok (.iload_n 1, 1) := by decide +kernel
theorem dX9_pays_64 : decode cX9_pays 64 = .ok (.laload, 1) := by decide +kernel
theorem dX9_pays_65 : decode cX9_pays 65 = .ok (.lreturn, 1) := by decide +kernel
theorem dX9_meanNow_0 : decode cX9_meanNow 0 = .ok (.aload_n 0, 1) := by decide +kernel
theorem dX9_meanNow_1 : decode cX9_meanNow 1 = .ok (.getfield 100, 3) := by decide +kernel
theorem dX9_meanNow_4 : decode cX9_meanNow 4 = .ok (.iload_n 1, 1) := by decide +kernel
theorem dX9_meanNow_5 : decode cX9_meanNow 5 = .ok (.laload, 1) := by decide +kernel
theorem dX9_meanNow_6 : decode cX9_meanNow 6 = .ok (.lconst 0, 1) := by decide +kernel
theorem dX9_meanNow_7 : decode cX9_meanNow 7 = .ok (.lcmp, 1) := by decide +kernel
theorem dX9_meanNow_8 : decode cX9_meanNow 8 = .ok (.ifCond .ne 7, 3) := by decide +kernel
theorem dX9_meanNow_11 : decode cX9_meanNow 11 = .ok (.iconst (-1), 1) := by decide +kernel
theorem dX9_meanNow_12 : decode cX9_meanNow 12 = .ok (.goto 21, 3) := by decide +kernel
theorem dX9_meanNow_15 : decode cX9_meanNow 15 = .ok (.aload_n 0, 1) := by decide +kernel
theorem dX9_meanNow_16 : decode cX9_meanNow 16 = .ok (.getfield 97, 3) := by decide +kernel
theorem dX9_meanNow_19 : decode cX9_meanNow 19 = .ok (.iload_n 1, 1) := by decide +kernel
theorem dX9_meanNow_20 : decode cX9_meanNow 20 = .ok (.laload, 1) := by decide +kernel
theorem dX9_meanNow_21 : decode cX9_meanNow 21 = .ok (.ldc2_w 395, 3) := by decide +kernel
theorem dX9_meanNow_24 : decode cX9_meanNow 24 = .ok (.lmul, 1) := by decide +kernel
theorem dX9_meanNow_25 : decode cX9_meanNow 25 = .ok (.aload_n 0, 1) := by decide +kernel
theorem dX9_meanNow_26 : decode cX9_meanNow 26 = .ok (.getfield 100, 3) := by decide +kernel
theorem dX9_meanNow_29 : decode cX9_meanNow 29 = .ok (.iload_n 1, 1) := by decide +kernel
theorem dX9_meanNow_30 : decode cX9_meanNow 30 = .ok (.laload, 1) := by decide +kernel
theorem dX9_meanNow_31 : decode cX9_meanNow 31 = .ok (.ldiv, 1) := by decide +kernel
theorem dX9_meanNow_32 : decode cX9_meanNow 32 = .ok (.l2i, 1) := by decide +kernel
theorem dX9_meanNow_33 : decode cX9_meanNow 33 = .ok (.ireturn, 1) := by decide +kernel
theorem dX9_mean_0 : decode cX9_mean 0 = .ok (.aload_n 0, 1) := by decide +kernel
theorem dX9_mean_1 : decode cX9_mean 1 = .ok (.iload_n 1, 1) := by decide +kernel
theorem dX9_mean_2 : decode cX9_mean 2 = .ok (.invokevirtual 392, 3) := by decide +kernel
theorem dX9_mean_5 : decode cX9_mean 5 = .ok (.ifCond .eq 10, 3) := by decide +kernel
theorem dX9_mean_8 : decode cX9_mean 8 = .ok (.aload_n 0, 1) := by decide +kernel
theorem dX9_mean_9 : decode cX9_mean 9 = .ok (.invokevirtual 367, 3) := by decide +kernel
theorem dX9_mean_12 : decode cX9_mean 12 = .ok (.ifCond .ne 5, 3) := by decide +kernel
theorem dX9_mean_15 : decode cX9_mean 15 = .ok (.iconst (-1), 1) := by decide +kernel
theorem dX9_mean_16 : decode cX9_mean 16 = .ok (.ireturn, 1) := by decide +kernel
theorem dX9_mean_17 : decode cX9_mean 17 = .ok (.aload_n 0, 1) := by decide +kernel
theorem dX9_mean_18 : decode cX9_mean 18 = .ok (.invokevirtual 351, 3) := by decide +kernel
theorem dX9_mean_21 : decode cX9_mean 21 = .ok (.aload_n 0, 1) := by decide +kernel
theorem dX9_mean_22 : decode cX9_mean 22 = .ok (.iload_n 1, 1) := by decide +kernel
theorem dX9_mean_23 : decode cX9_mean 23 = .ok (.invokevirtual 397, 3) := by decide +kernel
theorem dX9_mean_26 : decode cX9_mean 26 = .ok (.ireturn, 1) := by decide +kernel
theorem dX9_gap_0 : decode cX9_gap 0 = .ok (.aload_n 0, 1) := by decide +kernel
theorem dX9_gap_1 : decode cX9_gap 1 = .ok (.invokevirtual 367, 3) := by decide +kernel
theorem dX9_gap_4 : decode cX9_gap 4 = .ok (.ifCond .ne 7, 3) := by decide +kernel
theorem dX9_gap_7 : decode cX9_gap 7 = .ok (.ldc2_w 370, 3) := by decide +kernel
theorem dX9_gap_10 : decode cX9_gap 10 = .ok (.lreturn, 1) := by decide +kernel
theorem dX9_gap_11 : decode cX9_gap 11 = .ok (.lconst 0, 1) := by decide +kernel
theorem dX9_gap_12 : decode cX9_gap 12 = .ok (.lstore_n 1, 1) := by decide +kernel
theorem dX9_gap_13 : decode cX9_gap 13 = .ok (.iconst 0, 1) := by decide +kernel
theorem dX9_gap_14 : decode cX9_gap 14 = .ok (.istore_n 3, 1) := by decide +kernel
theorem dX9_gap_15 : decode cX9_gap 15 = .ok (.iload_n 3, 1) := by decide +kernel
theorem dX9_gap_16 : decode cX9_gap 16 = .ok (.aload_n 0, 1) := by decide +kernel
theorem dX9_gap_17 : decode cX9_gap 17 = .ok (.invokevirtual 342, 3) := by decide +kernel
theorem dX9_gap_20 : decode cX9_gap 20 = .ok (.if_icmp .ge 111, 3) := by decide +kernel
theorem dX9_gap_23 : decode cX9_gap 23 = .ok (.aload_n 0, 1) := by decide +kernel
theorem dX9_gap_24 : decode cX9_gap 24 = .ok (.iload_n 3, 1) := by decide +kernel
theorem dX9_gap_25 : decode cX9_gap 25 = .ok (.iconst 0, 1) := by decide +kernel
theorem dX9_gap_26 : decode cX9_gap 26 = .ok (.invokevirtual 345, 3) := by decide +kernel
theorem dX9_gap_29 : decode cX9_gap 29 = .ok (.aload_n 0, 1) := by decide +kernel
theorem dX9_gap_30 : decode cX9_gap 30 = .ok (.getfield 331, 3) := by decide +kernel
theorem dX9_gap_33 : decode cX9_gap 33 = .ok (.lconst 0, 1) := by decide +kernel
theorem dX9_gap_34 : decode cX9_gap 34 = .ok (.lcmp, 1) := by decide +kernel
theorem dX9_gap_35 : decode cX9_gap 35 = .ok (.ifCond .ne 6, 3) := by decide +kernel
theorem dX9_gap_38 : decode cX9_gap 38 = .ok (.goto 87, 3) := by decide +kernel
theorem dX9_gap_41 : decode cX9_gap 41 = .ok (.aload_n 0, 1) := by decide +kernel
theorem dX9_gap_42 : decode cX9_gap 42 = .ok (.getfield 88, 3) := by decide +kernel
theorem dX9_gap_45 : decode cX9_gap 45 = .ok (.iconst 0, 1) := by decide +kernel
theorem dX9_gap_46 : decode cX9_gap 46 = .ok (.iaload, 1) := by decide +kernel
theorem dX9_gap_47 : decode cX9_gap 47 = .ok (.istore 4, 2) := by decide +kernel
theorem dX9_gap_49 : decode cX9_gap 49 = .ok (.aload_n 0, 1) := by decide +kernel
theorem dX9_gap_50 : decode cX9_gap 50 = .ok (.getfield 88, 3) := by decide +kernel
theorem dX9_gap_53 : decode cX9_gap 53 = .ok (.iconst 0, 1) := by decide +kernel
theorem dX9_gap_54 : decode cX9_gap 54 = .ok (.iaload, 1) := by decide +kernel
theorem dX9_gap_55 : decode cX9_gap 55 = .ok (.istore 5, 2) := by decide +kernel
theorem dX9_gap_57 : decode cX9_gap 57 = .ok (.iconst 1, 1) := by decide +kernel
theorem dX9_gap_58 : decode cX9_gap 58 = .ok (.istore 6, 2) := by decide +kernel
theorem dX9_gap_60 : decode cX9_gap 60 = .ok (.iload 6, 2) := by decide +kernel
theorem dX9_gap_62 : decode cX9_gap 62 = .ok (.aload_n 0, 1) := by decide +kernel
theorem dX9_gap_63 : decode cX9_gap 63 = .ok (.getfield 260, 3) := by decide +kernel
theorem dX9_gap_66 : decode cX9_gap 66 = .ok (.if_icmp .ge 37, 3) := by decide +kernel
theorem dX9_gap_69 : decode cX9_gap 69 = .ok (.iload 4, 2) := by decide +kernel
theorem dX9_gap_71 : decode cX9_gap 71 = .ok (.aload_n 0, 1) := by decide +kernel
theorem dX9_gap_72 : decode cX9_gap 72 = .ok (.getfield 88, 3) := by decide +kernel
theorem dX9_gap_75 : decode cX9_gap 75 = .ok (.iload 6, 2) := by decide +kernel
theorem dX9_gap_77 : decode cX9_gap 77 = .ok (.iaload, 1) := by decide +kernel
theorem dX9_gap_78 : decode cX9_gap 78 = .ok (.invokestatic 400, 3) := by decide +kernel
theorem dX9_gap_81 : decode cX9_gap 81 = .ok (.istore 4, 2) := by decide +kernel
theorem dX9_gap_83 : decode cX9_gap 83 = .ok (.iload 5, 2) := by decide +kernel
theorem dX9_gap_85 : decode cX9_gap 85 = .ok (.aload_n 0, 1) := by decide +kernel
theorem dX9_gap_86 : decode cX9_gap 86 = .ok (.getfield 88, 3) := by decide +kernel
theorem dX9_gap_89 : decode cX9_gap 89 = .ok (.iload 6, 2) := by decide +kernel
theorem dX9_gap_91 : decode cX9_gap 91 = .ok (.iaload, 1) := by decide +kernel
theorem dX9_gap_92 : decode cX9_gap 92 = .ok (.invokestatic 406, 3) := by decide +kernel
theorem dX9_gap_95 : decode cX9_gap 95 = .ok (.istore 5, 2) := by decide +kernel
theorem dX9_gap_97 : decode cX9_gap 97 = .ok (.iinc 6 1, 3) := by decide +kernel
theorem dX9_gap_100 : decode cX9_gap 100 = .ok (.goto (-40), 3) := by decide +kernel
theorem dX9_gap_103 : decode cX9_gap 103 = .ok (.lload_n 1, 1) := by decide +kernel
theorem dX9_gap_104 : decode cX9_gap 104 = .ok (.aload_n 0, 1) := by decide +kernel
theorem dX9_gap_105 : decode cX9_gap 105 = .ok (.getfield 331, 3) := by decide +kernel
theorem dX9_gap_108 : decode cX9_gap 108 = .ok (.aload_n 0, 1) := by decide +kernel
theorem dX9_gap_109 : decode cX9_gap 109 = .ok (.iload 5, 2) := by decide +kernel
theorem dX9_gap_111 : decode cX9_gap 111 = .ok (.invokevirtual 312, 3) := by decide +kernel
theorem dX9_gap_114 : decode cX9_gap 114 = .ok (.aload_n 0, 1) := by decide +kernel
theorem dX9_gap_115 : decode cX9_gap 115 = .ok (.iload 4, 2) := by decide +kernel
theorem dX9_gap_117 : decode cX9_gap 117 = .ok (.invokevirtual 312, 3) := by decide +kernel
theorem dX9_gap_120 : decode cX9_gap 120 = .ok (.isub, 1) := by decide +kernel
theorem dX9_gap_121 : decode cX9_gap 121 = .ok (.i2l, 1) := by decide +kernel
theorem dX9_gap_122 : decode cX9_gap 122 = .ok (.lmul, 1) := by decide +kernel
theorem dX9_gap_123 : decode cX9_gap 123 = .ok (.ladd, 1) := by decide +kernel
theorem dX9_gap_124 : decode cX9_gap 124 = .ok (.lstore_n 1, 1) := by decide +kernel
theorem dX9_gap_125 : decode cX9_gap 125 = .ok (.iinc 3 1, 3) := by decide +kernel
theorem dX9_gap_128 : decode cX9_gap 128 = .ok (.goto (-113), 3) := by decide +kernel
theorem dX9_gap_131 : decode cX9_gap 131 = .ok (.lload_n 1, 1) := by decide +kernel
theorem dX9_gap_132 : decode cX9_gap 132 = .ok (.lreturn, 1) := by decide +kernel
theorem dX9_valueOf_0 : decode cX9_valueOf 0 = .ok (.aload_n 0, 1) := by decide +kernel
theorem dX9_valueOf_1 : decode cX9_valueOf 1 = .ok (.iload_n 2, 1) := by decide +kernel
theorem dX9_valueOf_2 : decode cX9_valueOf 2 = .ok (.invokevirtual 309, 3) := by decide +kernel
theorem dX9_valueOf_5 : decode cX9_valueOf 5 = .ok (.istore_n 3, 1) := by decide +kernel
theorem dX9_valueOf_6 : decode cX9_valueOf 6 = .ok (.iload_n 3, 1) := by decide +kernel
theorem dX9_valueOf_7 : decode cX9_valueOf 7 = .ok (.iconst (-1), 1) := by decide +kernel
theorem dX9_valueOf_8 : decode cX9_valueOf 8 = .ok (.if_icmp .ne 7, 3) := by decide +kernel
theorem dX9_valueOf_11 : decode cX9_valueOf 11 = .ok (.iconst 0, 1) := by decide +kernel
theorem dX9_valueOf_12 : decode cX9_valueOf 12 = .ok (.goto 19, 3) := by decide +kernel
theorem dX9_valueOf_15 : decode cX9_valueOf 15 = .ok (.iconst 0, 1) := by decide +kernel
theorem dX9_valueOf_16 : decode cX9_valueOf 16 = .ok (.aload_n 0, 1) := by decide +kernel
theorem dX9_valueOf_17 : decode cX9_valueOf 17 = .ok (.getfield 36, 3) := by decide +kernel
theorem dX9_valueOf_20 : decode cX9_valueOf 20 = .ok (.iload_n 1, 1) := by decide +kernel
theorem dX9_valueOf_21 : decode cX9_valueOf 21 = .ok (.iaload, 1) := by decide +kernel
theorem dX9_valueOf_22 : decode cX9_valueOf 22 = .ok (.aload_n 0, 1) := by decide +kernel
theorem dX9_valueOf_23 : decode cX9_valueOf 23 = .ok (.iload_n 3, 1) := by decide +kernel
theorem dX9_valueOf_24 : decode cX9_valueOf 24 = .ok (.invokevirtual 312, 3) := by decide +kernel
theorem dX9_valueOf_27 : decode cX9_valueOf 27 = .ok (.isub, 1) := by decide +kernel
theorem dX9_valueOf_28 : decode cX9_valueOf 28 = .ok (.invokestatic 406, 3) := by decide +kernel
theorem dX9_valueOf_31 : decode cX9_valueOf 31 = .ok (.ireturn, 1) := by decide +kernel
theorem dX9_savesNow_0 : decode cX9_savesNow 0 = .ok (.lconst 0, 1) := by decide +kernel
theorem dX9_savesNow_1 : decode cX9_savesNow 1 = .ok (.lstore_n 3, 1) := by decide +kernel
theorem dX9_savesNow_2 : decode cX9_savesNow 2 = .ok (.iconst 0, 1) := by decide +kernel
theorem dX9_savesNow_3 : decode cX9_savesNow 3 = .ok (.istore 5, 2) := by decide +kernel
theorem dX9_savesNow_5 : decode cX9_savesNow 5 = .ok (.iload 5, 2) := by decide +kernel
theorem dX9_savesNow_7 : decode cX9_savesNow 7 = .ok (.aload_n 0, 1) := by decide +kernel
theorem dX9_savesNow_8 : decode cX9_savesNow 8 = .ok (.invokevirtual 342, 3) := by decide +kernel
theorem dX9_savesNow_11 : decode cX9_savesNow 11 = .ok (.if_icmp .ge 61, 3) := by decide +kernel
theorem dX9_savesNow_14 : decode cX9_savesNow 14 = .ok (.aload_n 0, 1) := by decide +kernel
theorem dX9_savesNow_15 : decode cX9_savesNow 15 = .ok (.iload 5, 2) := by decide +kernel
theorem dX9_savesNow_17 : decode cX9_savesNow 17 = .ok (.iconst 0, 1) := by decide +kernel
theorem dX9_savesNow_18 : decode cX9_savesNow 18 = .ok (.invokevirtual 345, 3) := by decide +kernel
theorem dX9_savesNow_21 : decode cX9_savesNow 21 = .ok (.aload_n 0, 1) := by decide +kernel
theorem dX9_savesNow_22 : decode cX9_savesNow 22 = .ok (.getfield 331, 3) := by decide +kernel
theorem dX9_savesNow_25 : decode cX9_savesNow 25 = .ok (.lconst 0, 1) := by decide +kernel
theorem dX9_savesNow_26 : decode cX9_savesNow 26 = .ok (.lcmp, 1) := by decide +kernel
theorem dX9_savesNow_27 : decode cX9_savesNow 27 = .ok (.ifCond .le 39, 3) := by decide +kernel
theorem dX9_savesNow_30 : decode cX9_savesNow 30 = .ok (.lload_n 3, 1) := by decide +kernel
theorem dX9_savesNow_31 : decode cX9_savesNow 31 = .ok (.aload_n 0, 1) := by decide +kernel
theorem dX9_savesNow_32 : decode cX9_savesNow 32 = .ok (.getfield 331, 3) := by decide +kernel
theorem dX9_savesNow_35 : decode cX9_savesNow 35 = .ok (.aload_n 0, 1) := by decide +kernel
theorem dX9_savesNow_36 : decode cX9_savesNow 36 = .ok (.iload_n 1, 1) := by decide +kernel
theorem dX9_savesNow_37 : decode cX9_savesNow 37 = .ok (.aload_n 0, 1) := by decide +kernel
theorem dX9_savesNow_38 : decode cX9_savesNow 38 = .ok (.getfield 106, 3) := by decide +kernel
theorem dX9_savesNow_41 : decode cX9_savesNow 41 = .ok (.iload_n 1, 1) := by decide +kernel
theorem dX9_savesNow_42 : decode cX9_savesNow 42 = .ok (.iaload, 1) := by decide +kernel
theorem dX9_savesNow_43 : decode cX9_savesNow 43 = .ok (.iconst 1, 1) := by decide +kernel
theorem dX9_savesNow_44 : decode cX9_savesNow 44 = .ok (.iload_n 2, 1) := by decide +kernel
theorem dX9_savesNow_45 : decode cX9_savesNow 45 = .ok (.ishl, 1) := by decide +kernel
theorem dX9_savesNow_46 : decode cX9_savesNow 46 = .ok (.ior, 1) := by decide +kernel
theorem dX9_savesNow_47 : decode cX9_savesNow 47 = .ok (.invokevirtual 409, 3) := by decide +kernel
theorem dX9_savesNow_50 : decode cX9_savesNow 50 = .ok (.aload_n 0, 1) := by decide +kernel
theorem dX9_savesNow_51 : decode cX9_savesNow 51 = .ok (.iload_n 1, 1) := by decide +kernel
theorem dX9_savesNow_52 : decode cX9_savesNow 52 = .ok (.aload_n 0, 1) := by decide +kernel
theorem dX9_savesNow_53 : decode cX9_savesNow 53 = .ok (.getfield 106, 3) := by decide +kernel
theorem dX9_savesNow_56 : decode cX9_savesNow 56 = .ok (.iload_n 1, 1) := by decide +kernel
theorem dX9_savesNow_57 : decode cX9_savesNow 57 = .ok (.iaload, 1) := by decide +kernel
theorem dX9_savesNow_58 : decode cX9_savesNow 58 = .ok (.invokevirtual 409, 3) := by decide +kernel
theorem dX9_savesNow_61 : decode cX9_savesNow 61 = .ok (.isub, 1) := by decide +kernel
theorem dX9_savesNow_62 : decode cX9_savesNow 62 = .ok (.i2l, 1) := by decide +kernel
theorem dX9_savesNow_63 : decode cX9_savesNow 63 = .ok (.lmul, 1) := by decide +kernel
theorem dX9_savesNow_64 : decode cX9_savesNow 64 = .ok (.ladd, 1) := by decide +kernel
theorem dX9_savesNow_65 : decode cX9_savesNow 65 = .ok (.lstore_n 3, 1) := by decide +kernel
theorem dX9_savesNow_66 : decode cX9_savesNow 66 = .ok (.iinc 5 1, 3) := by decide +kernel
theorem dX9_savesNow_69 : decode cX9_savesNow 69 = .ok (.goto (-64), 3) := by decide +kernel
theorem dX9_savesNow_72 : decode cX9_savesNow 72 = .ok (.lload_n 3, 1) := by decide +kernel
theorem dX9_savesNow_73 : decode cX9_savesNow 73 = .ok (.lreturn, 1) := by decide +kernel
theorem dX9_mayLook_0 : decode cX9_mayLook 0 = .ok (.aload_n 0, 1) := by decide +kernel
theorem dX9_mayLook_1 : decode cX9_mayLook 1 = .ok (.iload_n 1, 1) := by decide +kernel
theorem dX9_mayLook_2 : decode cX9_mayLook 2 = .ok (.invokevirtual 392, 3) := by decide +kernel
theorem dX9_mayLook_5 : decode cX9_mayLook 5 = .ok (.ifCond .eq 23, 3) := by decide +kernel
theorem dX9_mayLook_8 : decode cX9_mayLook 8 = .ok (.aload_n 0, 1) := by decide +kernel
theorem dX9_mayLook_9 : decode cX9_mayLook 9 = .ok (.getfield 27, 3) := by decide +kernel
theorem dX9_mayLook_12 : decode cX9_mayLook 12 = .ok (.iload_n 1, 1) := by decide +kernel
theorem dX9_mayLook_13 : decode cX9_mayLook 13 = .ok (.iaload, 1) := by decide +kernel
theorem dX9_mayLook_14 : decode cX9_mayLook 14 = .ok (.ifCond .ne 14, 3) := by decide +kernel
theorem dX9_mayLook_17 : decode cX9_mayLook 17 = .ok (.aload_n 0, 1) := by decide +kernel
theorem dX9_mayLook_18 : decode cX9_mayLook 18 = .ok (.invokevirtual 320, 3) := by decide +kernel
theorem dX9_mayLook_21 : decode cX9_mayLook 21 = .ok (.ifCond .ne 7, 3) := by decide +kernel
theorem dX9_mayLook_24 : decode cX9_mayLook 24 = .ok (.iconst 1, 1) := by decide +kernel
theorem dX9_mayLook_25 : decode cX9_mayLook 25 = .ok (.goto 4, 3) := by decide +kernel
theorem dX9_mayLook_28 : decode cX9_mayLook 28 = .ok (.iconst 0, 1) := by decide +kernel
theorem dX9_mayLook_29 : decode cX9_mayLook 29 = .ok (.ireturn, 1) := by decide +kernel
theorem dX9_saves_0 : decode cX9_saves 0 = .ok (.aload_n 0, 1) := by decide +kernel
theorem dX9_saves_1 : decode cX9_saves 1 = .ok (.iload_n 1, 1) := by decide +kernel
theorem dX9_saves_2 : decode cX9_saves 2 = .ok (.invokevirtual 412, 3) := by decide +kernel
theorem dX9_saves_5 : decode cX9_saves 5 = .ok (.ifCond .eq 40, 3) := by decide +kernel
theorem dX9_saves_8 : decode cX9_saves 8 = .ok (.aload_n 0, 1) := by decide +kernel
theorem dX9_saves_9 : decode cX9_saves 9 = .ok (.iload_n 2, 1) := by decide +kernel
theorem dX9_saves_10 : decode cX9_saves 10 = .ok (.invokevirtual 287, 3) := by decide +kernel
theorem dX9_saves_13 : decode cX9_saves 13 = .ok (.ifCond .eq 32, 3) := by decide +kernel
theorem dX9_saves_16 : decode cX9_saves 16 = .ok (.aload_n 0, 1) := by decide +kernel
theorem dX9_saves_17 : decode cX9_saves 17 = .ok (.getfield 33, 3) := by decide +kernel
theorem dX9_saves_20 : decode cX9_saves 20 = .ok (.iload_n 1, 1) := by decide +kernel
theorem dX9_saves_21 : decode cX9_saves 21 = .ok (.iaload, 1) := by decide +kernel
theorem dX9_saves_22 : decode cX9_saves 22 = .ok (.iload_n 2, 1) := by decide +kernel
theorem dX9_saves_23 : decode cX9_saves 23 = .ok (.invokestatic 195, 3) := by decide +kernel
theorem dX9_saves_26 : decode cX9_saves 26 = .ok (.ifCond .ne 19, 3) := by decide +kernel
theorem dX9_saves_29 : decode cX9_saves 29 = .ok (.aload_n 0, 1) := by decide +kernel
theorem dX9_saves_30 : decode cX9_saves 30 = .ok (.invokevirtual 367, 3) := by decide +kernel
theorem dX9_saves_33 : decode cX9_saves 33 = .ok (.ifCond .eq 12, 3) := by decide +kernel
theorem dX9_saves_36 : decode cX9_saves 36 = .ok (.aload_n 0, 1) := by decide +kernel
theorem dX9_saves_37 : decode cX9_saves 37 = .ok (.iload_n 1, 1) := by decide +kernel
theorem dX9_saves_38 : decode cX9_saves 38 = .ok (.iload_n 2, 1) := by decide +kernel
theorem dX9_saves_39 : decode cX9_saves 39 = .ok (.invokevirtual 415, 3) := by decide +kernel
theorem dX9_saves_42 : decode cX9_saves 42 = .ok (.goto 6, 3) := by decide +kernel
theorem dX9_saves_45 : decode cX9_saves 45 = .ok (.ldc2_w 370, 3) := by decide +kernel
theorem dX9_saves_48 : decode cX9_saves 48 = .ok (.lreturn, 1) := by decide +kernel
theorem dX9_wouldTake_0 : decode cX9_wouldTake 0 = .ok (.iconst (-1), 1) := by decide +kernel
theorem dX9_wouldTake_1 : decode cX9_wouldTake 1 = .ok (.istore_n 2, 1) := by decide +kernel
theorem dX9_wouldTake_2 : decode cX9_wouldTake 2 = .ok (.aload_n 0, 1) := by decide +kernel
theorem dX9_wouldTake_3 : decode cX9_wouldTake 3 = .ok (.getfield 266, 3) := by decide +kernel
theorem dX9_wouldTake_6 : decode cX9_wouldTake 6 = .ok (.i2l, 1) := by decide +kernel
theorem dX9_wouldTake_7 : decode cX9_wouldTake 7 = .ok (.lstore_n 3, 1) := by decide +kernel
theorem dX9_wouldTake_8 : decode cX9_wouldTake 8 = .ok (.iconst 0, 1) := by decide +kernel
theorem dX9_wouldTake_9 : decode cX9_wouldTake 9 = .ok (.istore 5, 2) := by decide +kernel
theorem dX9_wouldTake_11 : decode cX9_wouldTake 11 = .ok (.iload 5, 2) := by decide +kernel
theorem dX9_wouldTake_13 : decode cX9_wouldTake 13 = .ok (.aload_n 0, 1) := by decide +kernel
theorem dX9_wouldTake_14 : decode cX9_wouldTake 14 = .ok (.getfield 260, 3) := by decide +kernel
theorem dX9_wouldTake_17 : decode cX9_wouldTake 17 = .ok (.if_icmp .ge 15, 3) := by decide +kernel
theorem dX9_wouldTake_20 : decode cX9_wouldTake 20 = .ok (.lload_n 3, 1) := by decide +kernel
theorem dX9_wouldTake_21 : decode cX9_wouldTake 21 = .ok (.ldc2_w 418, 3) := by decide +kernel
theorem dX9_wouldTake_24 : decode cX9_wouldTake 24 = .ok (.lmul, 1) := by decide +kernel
theorem dX9_wouldTake_25 : decode cX9_wouldTake 25 = .ok (.lstore_n 3, 1) := by decide +kernel
theorem dX9_wouldTake_26 : decode cX9_wouldTake 26 = .ok (.iinc 5 1, 3) := by decide +kernel
theorem dX9_wouldTake_29 : decode cX9_wouldTake 29 = .ok (.goto (-18), 3) := by decide +kernel
theorem dX9_wouldTake_32 : decode cX9_wouldTake 32 = .ok (.iconst 0, 1) := by decide +kernel
theorem dX9_wouldTake_33 : decode cX9_wouldTake 33 = .ok (.istore 5, 2) := by decide +kernel
theorem dX9_wouldTake_35 : decode cX9_wouldTake 35 = .ok (.iload 5, 2) := by decide +kernel
theorem dX9_wouldTake_37 : decode cX9_wouldTake 37 = .ok (.aload_n 0, 1) := by decide +kernel
theorem dX9_wouldTake_38 : decode cX9_wouldTake 38 = .ok (.getfield 260, 3) := by decide +kernel
theorem dX9_wouldTake_41 : decode cX9_wouldTake 41 = .ok (.if_icmp .ge 51, 3) := by decide +kernel
theorem dX9_wouldTake_44 : decode cX9_wouldTake 44 = .ok (.aload_n 0, 1) := by decide +kernel
theorem dX9_wouldTake_45 : decode cX9_wouldTake 45 = .ok (.getfield 106, 3) := by decide +kernel
theorem dX9_wouldTake_48 : decode cX9_wouldTake 48 = .ok (.iload_n 1, 1) := by decide +kernel
theorem dX9_wouldTake_49 : decode cX9_wouldTake 49 = .ok (.iaload, 1) := by decide +kernel
theorem dX9_wouldTake_50 : decode cX9_wouldTake 50 = .ok (.iload 5, 2) := by decide +kernel
theorem dX9_wouldTake_52 : decode cX9_wouldTake 52 = .ok (.invokestatic 195, 3) := by decide +kernel
theorem dX9_wouldTake_55 : decode cX9_wouldTake 55 = .ok (.ifCond .eq 6, 3) := by decide +kernel
theorem dX9_wouldTake_58 : decode cX9_wouldTake 58 = .ok (.goto 28, 3) := by decide +kernel
theorem dX9_wouldTake_61 : decode cX9_wouldTake 61 = .ok (.aload_n 0, 1) := by decide +kernel
theorem dX9_wouldTake_62 : decode cX9_wouldTake 62 = .ok (.iload_n 1, 1) := by decide +kernel
theorem dX9_wouldTake_63 : decode cX9_wouldTake 63 = .ok (.iload 5, 2) := by decide +kernel
theorem dX9_wouldTake_65 : decode cX9_wouldTake 65 = .ok (.invokevirtual 415, 3) := by decide +kernel
theorem dX9_wouldTake_68 : decode cX9_wouldTake 68 = .ok (.lstore 6, 2) := by decide +kernel
theorem dX9_wouldTake_70 : decode cX9_wouldTake 70 = .ok (.lload 6, 2) := by decide +kernel
theorem dX9_wouldTake_72 : decode cX9_wouldTake 72 = .ok (.lload_n 3, 1) := by decide +kernel
theorem dX9_wouldTake_73 : decode cX9_wouldTake 73 = .ok (.lcmp, 1) := by decide +kernel
theorem dX9_wouldTake_74 : decode cX9_wouldTake 74 = .ok (.ifCond .gt 6, 3) := by decide +kernel
theorem dX9_wouldTake_77 : decode cX9_wouldTake 77 = .ok (.goto 9, 3) := by decide +kernel
theorem dX9_wouldTake_80 : decode cX9_wouldTake 80 = .ok (.iload 5, 2) := by decide +kernel
theorem dX9_wouldTake_82 : decode cX9_wouldTake 82 = .ok (.istore_n 2, 1) := by decide +kernel
theorem dX9_wouldTake_83 : decode cX9_wouldTake 83 = .ok (.lload 6, 2) := by decide +kernel
theorem dX9_wouldTake_85 : decode cX9_wouldTake 85 = .ok (.lstore_n 3, 1) := by decide +kernel
theorem dX9_wouldTake_86 : decode cX9_wouldTake 86 = .ok (.iinc 5 1, 3) := by decide +kernel
theorem dX9_wouldTake_89 : decode cX9_wouldTake 89 = .ok (.goto (-54), 3) := by decide +kernel
theorem dX9_wouldTake_92 : decode cX9_wouldTake 92 = .ok (.iload_n 2, 1) := by decide +kernel
theorem dX9_wouldTake_93 : decode cX9_wouldTake 93 = .ok (.ireturn, 1) := by decide +kernel
theorem dX9_would_0 : decode cX9_would 0 = .ok (.aload_n 0, 1) := by decide +kernel
theorem dX9_would_1 : decode cX9_would 1 = .ok (.iload_n 1, 1) := by decide +kernel
theorem dX9_would_2 : decode cX9_would 2 = .ok (.invokevirtual 412, 3) := by decide +kernel
theorem dX9_would_5 : decode cX9_would 5 = .ok (.ifCond .eq 18, 3) := by decide +kernel
theorem dX9_would_8 : decode cX9_would 8 = .ok (.aload_n 0, 1) := by decide +kernel
theorem dX9_would_9 : decode cX9_would 9 = .ok (.invokevirtual 367, 3) := by decide +kernel
theorem dX9_would_12 : decode cX9_would 12 = .ok (.ifCond .eq 11, 3) := by decide +kernel
theorem dX9_would_15 : decode cX9_would 15 = .ok (.aload_n 0, 1) := by decide +kernel
theorem dX9_would_16 : decode cX9_would 16 = .ok (.iload_n 1, 1) := by decide +kernel
theorem dX9_would_17 : decode cX9_would 17 = .ok (.invokevirtual 420, 3) := by decide +kernel
theorem dX9_would_20 : decode cX9_would 20 = .ok (.goto 4, 3) := by decide +kernel
theorem dX9_would_23 : decode cX9_would 23 = .ok (.iconst (-1), 1) := by decide +kernel
theorem dX9_would_24 : decode cX9_would 24 = .ok (.ireturn, 1) := by decide +kernel
theorem dX9_look_0 : decode cX9_look 0 = .ok (.iload_n 1, 1) := by decide +kernel
theorem dX9_look_1 : decode cX9_look 1 = .ok (.iconst 1, 1) := by decide +kernel
theorem dX9_look_2 : decode cX9_look 2 = .ok (.bipush 9, 2) := by decide +kernel
theorem dX9_look_4 : decode cX9_look 4 = .ok (.invokestatic 156, 3) := by decide +kernel
theorem dX9_look_7 : decode cX9_look 7 = .ok (.ifCond .eq 37, 3) := by decide +kernel
theorem dX9_look_10 : decode cX9_look 10 = .ok (.iload_n 2, 1) := by decide +kernel
theorem dX9_look_11 : decode cX9_look 11 = .ok (.ifCond .eq 19, 3) := by decide +kernel
theorem dX9_look_14 : decode cX9_look 14 = .ok (.iload_n 2, 1) := by decide +kernel
theorem dX9_look_15 : decode cX9_look 15 = .ok (.bipush 10, 2) := by decide +kernel
theorem dX9_look_17 : decode cX9_look 17 = .ok (.bipush 9, 2) := by decide +kernel
theorem dX9_look_19 : decode cX9_look 19 = .ok (.aload_n 0, 1) := by decide +kernel
theorem dX9_look_20 : decode cX9_look 20 = .ok (.getfield 263, 3) := by decide +kernel
theorem dX9_look_23 : decode cX9_look 23 = .ok (.iadd, 1) := by decide +kernel
theorem dX9_look_24 : decode cX9_look 24 = .ok (.invokestatic 156, 3) := by decide +kernel
theorem dX9_look_27 : decode cX9_look 27 = .ok (.ifCond .eq 17, 3) := by decide +kernel
theorem dX9_look_30 : decode cX9_look 30 = .ok (.aload_n 0, 1) := by decide +kernel
theorem dX9_look_31 : decode cX9_look 31 = .ok (.invokevirtual 320, 3) := by decide +kernel
theorem dX9_look_34 : decode cX9_look 34 = .ok (.ifCond .ne 10, 3) := by decide +kernel
theorem dX9_look_37 : decode cX9_look 37 = .ok (.aload_n 0, 1) := by decide +kernel
theorem dX9_look_38 : decode cX9_look 38 = .ok (.invokevirtual 367, 3) := by decide +kernel
theorem dX9_look_41 : decode cX9_look 41 = .ok (.ifCond .ne 5, 3) := by decide +kernel
theorem dX9_look_44 : decode cX9_look 44 = .ok (.iconst (-1), 1) := by decide +kernel
theorem dX9_look_45 : decode cX9_look 45 = .ok (.ireturn, 1) := by decide +kernel
theorem dX9_look_46 : decode cX9_look 46 = .ok (.iconst 0, 1) := by decide +kernel
theorem dX9_look_47 : decode cX9_look 47 = .ok (.istore_n 3, 1) := by decide +kernel
theorem dX9_look_48 : decode cX9_look 48 = .ok (.iconst 1, 1) := by decide +kernel
theorem dX9_look_49 : decode cX9_look 49 = .ok (.istore 4, 2) := by decide +kernel
theorem dX9_look_51 : decode cX9_look 51 = .ok (.iload 4, 2) := by decide +kernel
theorem dX9_look_53 : decode cX9_look 53 = .ok (.ifCond .eq 89, 3) := by decide +kernel
theorem dX9_look_56 : decode cX9_look 56 = .ok (.iload_n 3, 1) := by decide +kernel
theorem dX9_look_57 : decode cX9_look 57 = .ok (.iload_n 1, 1) := by decide +kernel
theorem dX9_look_58 : decode cX9_look 58 = .ok (.if_icmp .ge 84, 3) := by decide +kernel
theorem dX9_look_61 : decode cX9_look 61 = .ok (.iconst 0, 1) := by decide +kernel
theorem dX9_look_62 : decode cX9_look 62 = .ok (.istore 4, 2) := by decide +kernel
theorem dX9_look_64 : decode cX9_look 64 = .ok (.iconst 0, 1) := by decide +kernel
theorem dX9_look_65 : decode cX9_look 65 = .ok (.istore 5, 2) := by decide +kernel
theorem dX9_look_67 : decode cX9_look 67 = .ok (.iload 5, 2) := by decide +kernel
theorem dX9_look_69 : decode cX9_look 69 = .ok (.aload_n 0, 1) := by decide +kernel
theorem dX9_look_70 : decode cX9_look 70 = .ok (.getfield 263, 3) := by decide +kernel
theorem dX9_look_73 : decode cX9_look 73 = .ok (.if_icmp .ge 63, 3) := by decide +kernel
theorem dX9_look_76 : decode cX9_look 76 = .ok (.aload_n 0, 1) := by decide +kernel
theorem dX9_look_77 : decode cX9_look 77 = .ok (.getfield 27, 3) := by decide +kernel
theorem dX9_look_80 : decode cX9_look 80 = .ok (.iload 5, 2) := by decide +kernel
theorem dX9_look_82 : decode cX9_look 82 = .ok (.iaload, 1) := by decide +kernel
theorem dX9_look_83 : decode cX9_look 83 = .ok (.ifCond .ne 12, 3) := by decide +kernel
theorem dX9_look_86 : decode cX9_look 86 = .ok (.aload_n 0, 1) := by decide +kernel
theorem dX9_look_87 : decode cX9_look 87 = .ok (.iload 5, 2) := by decide +kernel
theorem dX9_look_89 : decode cX9_look 89 = .ok (.invokevirtual 420, 3) := by decide +kernel
theorem dX9_look_92 : decode cX9_look 92 = .ok (.goto 4, 3) := by decide +kernel
theorem dX9_look_95 : decode cX9_look 95 = .ok (.iconst (-1), 1) := by decide +kernel
theorem dX9_look_96 : decode cX9_look 96 = .ok (.istore 6, 2) := by decide +kernel
theorem dX9_look_98 : decode cX9_look 98 = .ok (.iload 6, 2) := by decide +kernel
theorem dX9_look_100 : decode cX9_look 100 = .ok (.iconst (-1), 1) := by decide +kernel
theorem dX9_look_101 : decode cX9_look 101 = .ok (.if_icmp .ne 6, 3) := by decide +kernel
theorem dX9_look_104 : decode cX9_look 104 = .ok (.goto 26, 3) := by decide +kernel
theorem dX9_look_107 : decode cX9_look 107 = .ok (.aload_n 0, 1) := by decide +kernel
theorem dX9_look_108 : decode cX9_look 108 = .ok (.getfield 106, 3) := by decide +kernel
theorem dX9_look_111 : decode cX9_look 111 = .ok (.iload 5, 2) := by decide +kernel
theorem dX9_look_113 : decode cX9_look 113 = .ok (.dup2, 1) := by decide +kernel
theorem dX9_look_114 : decode cX9_look 114 = .ok (.iaload, 1) := by decide +kernel
theorem dX9_look_115 : decode cX9_look 115 = .ok (.iconst 1, 1) := by decide +kernel
theorem dX9_look_116 : decode cX9_look 116 = .ok (.iload 6, 2) := by decide +kernel
theorem dX9_look_118 : decode cX9_look 118 = .ok (.ishl, 1) := by decide +kernel
theorem dX9_look_119 : decode cX9_look 119 = .ok (.ior, 1) := by decide +kernel
theorem dX9_look_120 : decode cX9_look 120 = .ok (.iastore, 1) := by decide +kernel
theorem dX9_look_121 : decode cX9_look 121 = .ok (.iconst 1, 1) := by decide +kernel
theorem dX9_look_122 : decode cX9_look 122 = .ok (.istore 4, 2) := by decide +kernel
theorem dX9_look_124 : decode cX9_look 124 = .ok (.aload_n 0, 1) := by decide +kernel
theorem dX9_look_125 : decode cX9_look 125 = .ok (.invokevirtual 364, 3) := by decide +kernel
theorem dX9_look_128 : decode cX9_look 128 = .ok (.istore 7, 2) := by decide +kernel
theorem dX9_look_130 : decode cX9_look 130 = .ok (.iinc 5 1, 3) := by decide +kernel
theorem dX9_look_133 : decode cX9_look 133 = .ok (.goto (-66), 3) := by decide +kernel
theorem dX9_look_136 : decode cX9_look 136 = .ok (.iinc 3 1, 3) := by decide +kernel
theorem dX9_look_139 : decode cX9_look 139 = .ok (.goto (-88), 3) := by decide +kernel
theorem dX9_look_142 : decode cX9_look 142 = .ok (.iload_n 2, 1) := by decide +kernel
theorem dX9_look_143 : decode cX9_look 143 = .ok (.ifCond .ne 7, 3) := by decide +kernel
theorem dX9_look_146 : decode cX9_look 146 = .ok (.iload_n 3, 1) := by decide +kernel
theorem dX9_look_147 : decode cX9_look 147 = .ok (.goto 28, 3) := by decide +kernel
theorem dX9_look_150 : decode cX9_look 150 = .ok (.aload_n 0, 1) := by decide +kernel
theorem dX9_look_151 : decode cX9_look 151 = .ok (.getfield 27, 3) := by decide +kernel
theorem dX9_look_154 : decode cX9_look 154 = .ok (.iload_n 2, 1) := by decide +kernel
theorem dX9_look_155 : decode cX9_look 155 = .ok (.bipush 10, 2) := by decide +kernel
theorem dX9_look_157 : decode cX9_look 157 = .ok (.isub, 1) := by decide +kernel
theorem dX9_look_158 : decode cX9_look 158 = .ok (.iaload, 1) := by decide +kernel
theorem dX9_look_159 : decode cX9_look 159 = .ok (.ifCond .ne 15, 3) := by decide +kernel
theorem dX9_look_162 : decode cX9_look 162 = .ok (.aload_n 0, 1) := by decide +kernel
theorem dX9_look_163 : decode cX9_look 163 = .ok (.getfield 106, 3) := by decide +kernel
theorem dX9_look_166 : decode cX9_look 166 = .ok (.iload_n 2, 1) := by decide +kernel
theorem dX9_look_167 : decode cX9_look 167 = .ok (.bipush 10, 2) := by decide +kernel
theorem dX9_look_169 : decode cX9_look 169 = .ok (.isub, 1) := by decide +kernel
theorem dX9_look_170 : decode cX9_look 170 = .ok (.iaload, 1) := by decide +kernel
theorem dX9_look_171 : decode cX9_look 171 = .ok (.goto 4, 3) := by decide +kernel
theorem dX9_look_174 : decode cX9_look 174 = .ok (.iconst (-1), 1) := by decide +kernel
theorem dX9_look_175 : decode cX9_look 175 = .ok (.ireturn, 1) := by decide +kernel
theorem dX9_divisor_0 : decode cX9_divisor 0 = .ok (.lload_n 0, 1) := by decide +kernel
theorem dX9_divisor_1 : decode cX9_divisor 1 = .ok (.invokestatic 423, 3) := by decide +kernel
theorem dX9_divisor_4 : decode cX9_divisor 4 = .ok (.lstore 4, 2) := by decide +kernel
theorem dX9_divisor_6 : decode cX9_divisor 6 = .ok (.lload_n 2, 1) := by decide +kernel
theorem dX9_divisor_7 : decode cX9_divisor 7 = .ok (.invokestatic 423, 3) := by decide +kernel
theorem dX9_divisor_10 : decode cX9_divisor 10 = .ok (.lstore 6, 2) := by decide +kernel
theorem dX9_divisor_12 : decode cX9_divisor 12 = .ok (.lload 6, 2) := by decide +kernel
theorem dX9_divisor_14 : decode cX9_divisor 14 = .ok (.lconst 0, 1) := by decide +kernel
theorem dX9_divisor_15 : decode cX9_divisor 15 = .ok (.lcmp, 1) := by decide +kernel
theorem dX9_divisor_16 : decode cX9_divisor 16 = .ok (.ifCond .le 21, 3) := by decide +kernel
theorem dX9_divisor_19 : decode cX9_divisor 19 = .ok (.lload 4, 2) := by decide +kernel
theorem dX9_divisor_21 : decode cX9_divisor 21 = .ok (.lload 6, 2) := by decide +kernel
theorem dX9_divisor_23 : decode cX9_divisor 23 = .ok (.lrem, 1) := by decide +kernel
theorem dX9_divisor_24 : decode cX9_divisor 24 = .ok (.lstore 8, 2) := by decide +kernel
theorem dX9_divisor_26 : decode cX9_divisor 26 = .ok (.lload 6, 2) := by decide +kernel
theorem dX9_divisor_28 : decode cX9_divisor 28 = .ok (.lstore 4, 2) := by decide +kernel
theorem dX9_divisor_30 : decode cX9_divisor 30 = .ok (.lload 8, 2) := by decide +kernel
theorem dX9_divisor_32 : decode cX9_divisor 32 = .ok (.lstore 6, 2) := by decide +kernel
theorem dX9_divisor_34 : decode cX9_divisor 34 = .ok (.goto (-22), 3) := by decide +kernel
theorem dX9_divisor_37 : decode cX9_divisor 37 = .ok (.lload 4, 2) := by decide +kernel
theorem dX9_divisor_39 : decode cX9_divisor 39 = .ok (.lreturn, 1) := by decide +kernel
theorem dX9_isUnrest_0 : decode cX9_isUnrest 0 = .ok (.iconst 1, 1) := by decide +kernel
theorem dX9_isUnrest_1 : decode cX9_isUnrest 1 = .ok (.istore_n 1, 1) := by decide +kernel
theorem dX9_isUnrest_2 : decode cX9_isUnrest 2 = .ok (.iconst 0, 1) := by decide +kernel
theorem dX9_isUnrest_3 : decode cX9_isUnrest 3 = .ok (.istore_n 2, 1) := by decide +kernel
theorem dX9_isUnrest_4 : decode cX9_isUnrest 4 = .ok (.iload_n 2, 1) := by decide +kernel
theorem dX9_isUnrest_5 : decode cX9_isUnrest 5 = .ok (.iconst 4, 1) := by decide +kernel
theorem dX9_isUnrest_6 : decode cX9_isUnrest 6 = .ok (.if_icmp .ge 55, 3) := by decide +kernel
theorem dX9_isUnrest_9 : decode cX9_isUnrest 9 = .ok (.iload_n 1, 1) := by decide +kernel
theorem dX9_isUnrest_10 : decode cX9_isUnrest 10 = .ok (.ifCond .eq 43, 3) := by decide +kernel
theorem dX9_isUnrest_13 : decode cX9_isUnrest 13 = .ok (.aload_n 0, 1) := by decide +kernel
theorem dX9_isUnrest_14 : decode cX9_isUnrest 14 = .ok (.getfield 115, 3) := by decide +kernel
theorem dX9_isUnrest_17 : decode cX9_isUnrest 17 = .ok (.iload_n 2, 1) := by decide +kernel
theorem dX9_isUnrest_18 : decode cX9_isUnrest 18 = .ok (.iconst 2, 1) := by decide +kernel
theorem dX9_isUnrest_19 : decode cX9_isUnrest 19 = .ok (.ixor, 1) := by decide +kernel
theorem dX9_isUnrest_20 : decode cX9_isUnrest 20 = .ok (.laload, 1) := by decide +kernel
theorem dX9_isUnrest_21 : decode cX9_isUnrest 21 = .ok (.aload_n 0, 1) := by decide +kernel
theorem dX9_isUnrest_22 : decode cX9_isUnrest 22 = .ok (.getfield 115, 3) := by decide +kernel
theorem dX9_isUnrest_25 : decode cX9_isUnrest 25 = .ok (.iload_n 2, 1) := by decide +kernel
theorem dX9_isUnrest_26 : decode cX9_isUnrest 26 = .ok (.laload, 1) := by decide +kernel
theorem dX9_isUnrest_27 : decode cX9_isUnrest 27 = .ok (.lcmp, 1) := by decide +kernel
theorem dX9_isUnrest_28 : decode cX9_isUnrest 28 = .ok (.ifCond .gt 21, 3) := by decide +kernel
theorem dX9_isUnrest_31 : decode cX9_isUnrest 31 = .ok (.aload_n 0, 1) := by decide +kernel
theorem dX9_isUnrest_32 : decode cX9_isUnrest 32 = .ok (.getfield 118, 3) := by decide +kernel
theorem dX9_isUnrest_35 : decode cX9_isUnrest 35 = .ok (.iload_n 2, 1) := by decide +kernel
theorem dX9_isUnrest_36 : decode cX9_isUnrest 36 = .ok (.iconst 1, 1) := by decide +kernel
theorem dX9_isUnrest_37 : decode cX9_isUnrest 37 = .ok (.ixor, 1) := by decide +kernel
theorem dX9_isUnrest_38 : decode cX9_isUnrest 38 = .ok (.laload, 1) := by decide +kernel
theorem dX9_isUnrest_39 : decode cX9_isUnrest 39 = .ok (.aload_n 0, 1) := by decide +kernel
theorem dX9_isUnrest_40 : decode cX9_isUnrest 40 = .ok (.getfield 118, 3) := by decide +kernel
theorem dX9_isUnrest_43 : decode cX9_isUnrest 43 = .ok (.iload_n 2, 1) := by decide +kernel
theorem dX9_isUnrest_44 : decode cX9_isUnrest 44 = .ok (.laload, 1) := by decide +kernel
theorem dX9_isUnrest_45 : decode cX9_isUnrest 45 = .ok (.lcmp, 1) := by decide +kernel
theorem dX9_isUnrest_46 : decode cX9_isUnrest 46 = .ok (.ifCond .le 7, 3) := by decide +kernel
theorem dX9_isUnrest_49 : decode cX9_isUnrest 49 = .ok (.iconst 1, 1) := by decide +kernel
theorem dX9_isUnrest_50 : decode cX9_isUnrest 50 = .ok (.goto 4, 3) := by decide +kernel
theorem dX9_isUnrest_53 : decode cX9_isUnrest 53 = .ok (.iconst 0, 1) := by decide +kernel
theorem dX9_isUnrest_54 : decode cX9_isUnrest 54 = .ok (.istore_n 1, 1) := by decide +kernel
theorem dX9_isUnrest_55 : decode cX9_isUnrest 55 = .ok (.iinc 2 1, 3) := by decide +kernel
theorem dX9_isUnrest_58 : decode cX9_isUnrest 58 = .ok (.goto (-54), 3) := by decide +kernel
theorem dX9_isUnrest_61 : decode cX9_isUnrest 61 = .ok (.iload_n 1, 1) := by decide +kernel
theorem dX9_isUnrest_62 : decode cX9_isUnrest 62 = .ok (.ireturn, 1) := by decide +kernel
theorem dX9_lots_0 : decode cX9_lots 0 = .ok (.aload_n 0, 1) := by decide +kernel
theorem dX9_lots_1 : decode cX9_lots 1 = .ok (.iload_n 1, 1) := by decide +kernel
theorem dX9_lots_2 : decode cX9_lots 2 = .ok (.invokevirtual 287, 3) := by decide +kernel
theorem dX9_lots_5 : decode cX9_lots 5 = .ok (.ifCond .eq 73, 3) := by decide +kernel
theorem dX9_lots_8 : decode cX9_lots 8 = .ok (.aload_n 0, 1) := by decide +kernel
theorem dX9_lots_9 : decode cX9_lots 9 = .ok (.iload_n 2, 1) := by decide +kernel
theorem dX9_lots_10 : decode cX9_lots 10 = .ok (.invokevirtual 287, 3) := by decide +kernel
theorem dX9_lots_13 : decode cX9_lots 13 = .ok (.ifCond .eq 65, 3) := by decide +kernel
theorem dX9_lots_16 : decode cX9_lots 16 = .ok (.iload_n 1, 1) := by decide +kernel
theorem dX9_lots_17 : decode cX9_lots 17 = .ok (.iload_n 2, 1) := by decide +kernel
theorem dX9_lots_18 : decode cX9_lots 18 = .ok (.if_icmp .eq 60, 3) := by decide +kernel
theorem dX9_lots_21 : decode cX9_lots 21 = .ok (.aload_n 0, 1) := by decide +kernel
theorem dX9_lots_22 : decode cX9_lots 22 = .ok (.iload_n 3, 1) := by decide +kernel
theorem dX9_lots_23 : decode cX9_lots 23 = .ok (.invokevirtual 290, 3) := by decide +kernel
theorem dX9_lots_26 : decode cX9_lots 26 = .ok (.ifCond .eq 52, 3) := by decide +kernel
theorem dX9_lots_29 : decode cX9_lots 29 = .ok (.aload_n 0, 1) := by decide +kernel
theorem dX9_lots_30 : decode cX9_lots 30 = .ok (.iload 4, 2) := by decide +kernel
theorem dX9_lots_32 : decode cX9_lots 32 = .ok (.invokevirtual 290, 3) := by decide +kernel
theorem dX9_lots_35 : decode cX9_lots 35 = .ok (.ifCond .eq 43, 3) := by decide +kernel
theorem dX9_lots_38 : decode cX9_lots 38 = .ok (.iload_n 3, 1) := by decide +kernel
theorem dX9_lots_39 : decode cX9_lots 39 = .ok (.iload 4, 2) := by decide +kernel
theorem dX9_lots_41 : decode cX9_lots 41 = .ok (.if_icmp .ge 37, 3) := by decide +kernel
theorem dX9_lots_44 : decode cX9_lots 44 = .ok (.aload_n 0, 1) := by decide +kernel
theorem dX9_lots_45 : decode cX9_lots 45 = .ok (.iload_n 3, 1) := by decide +kernel
theorem dX9_lots_46 : decode cX9_lots 46 = .ok (.invokevirtual 293, 3) := by decide +kernel
theorem dX9_lots_49 : decode cX9_lots 49 = .ok (.ifCond .ne 29, 3) := by decide +kernel
theorem dX9_lots_52 : decode cX9_lots 52 = .ok (.aload_n 0, 1) := by decide +kernel
theorem dX9_lots_53 : decode cX9_lots 53 = .ok (.iload 4, 2) := by decide +kernel
theorem dX9_lots_55 : decode cX9_lots 55 = .ok (.invokevirtual 293, 3) := by decide +kernel
theorem dX9_lots_58 : decode cX9_lots 58 = .ok (.ifCond .ne 20, 3) := by decide +kernel
theorem dX9_lots_61 : decode cX9_lots 61 = .ok (.iload 5, 2) := by decide +kernel
theorem dX9_lots_63 : decode cX9_lots 63 = .ok (.iconst 0, 1) := by decide +kernel
theorem dX9_lots_64 : decode cX9_lots 64 = .ok (.iconst 3, 1) := by decide +kernel
theorem dX9_lots_65 : decode cX9_lots 65 = .ok (.invokestatic 156, 3) := by decide +kernel
theorem dX9_lots_68 : decode cX9_lots 68 = .ok (.ifCond .eq 10, 3) := by decide +kernel
theorem dX9_lots_71 : decode cX9_lots 71 = .ok (.aload_n 0, 1) := by decide +kernel
theorem dX9_lots_72 : decode cX9_lots 72 = .ok (.invokevirtual 367, 3) := by decide +kernel
theorem dX9_lots_75 : decode cX9_lots 75 = .ok (.ifCond .ne 7, 3) := by decide +kernel
theorem dX9_lots_78 : decode cX9_lots 78 = .ok (.ldc2_w 370, 3) := by decide +kernel
theorem dX9_lots_81 : decode cX9_lots 81 = .ok (.lreturn, 1) := by decide +kernel
theorem dX9_lots_82 : decode cX9_lots 82 = .ok (.iconst 0, 1) := by decide +kernel
theorem dX9_lots_83 : decode cX9_lots 83 = .ok (.istore 6, 2) := by decide +kernel
theorem dX9_lots_85 : decode cX9_lots 85 = .ok (.iload 6, 2) := by decide +kernel
theorem dX9_lots_87 : decode cX9_lots 87 = .ok (.iconst 4, 1) := by decide +kernel
theorem dX9_lots_88 : decode cX9_lots 88 = .ok (.if_icmp .ge 74, 3) := by decide +kernel
theorem dX9_lots_91 : decode cX9_lots 91 = .ok (.aload_n 0, 1) := by decide +kernel
theorem dX9_lots_92 : decode cX9_lots 92 = .ok (.iload_n 1, 1) := by decide +kernel
theorem dX9_lots_93 : decode cX9_lots 93 = .ok (.iload 6, 2) := by decide +kernel
theorem dX9_lots_95 : decode cX9_lots 95 = .ok (.iconst 2, 1) := by decide +kernel
theorem dX9_lots_96 : decode cX9_lots 96 = .ok (.if_icmp .ge 7, 3) := by decide +kernel
theorem dX9_lots_99 : decode cX9_lots 99 = .ok (.iload_n 3, 1) := by decide +kernel
theorem dX9_lots_100 : decode cX9_lots 100 = .ok (.goto 5, 3) := by decide +kernel
theorem dX9_lots_103 : decode cX9_lots 103 = .ok (.iload 4, 2) := by decide +kernel
theorem dX9_lots_105 : decode cX9_lots 105 = .ok (.invokevirtual 305, 3) := by decide +kernel
theorem dX9_lots_108 : decode cX9_lots 108 = .ok (.aload_n 0, 1) := by decide +kernel
theorem dX9_lots_109 : decode cX9_lots 109 = .ok (.iload_n 2, 1) := by decide +kernel
theorem dX9_lots_110 : decode cX9_lots 110 = .ok (.iload 6, 2) := by decide +kernel
theorem dX9_lots_112 : decode cX9_lots 112 = .ok (.iconst 2, 1) := by decide +kernel
theorem dX9_lots_113 : decode cX9_lots 113 = .ok (.irem, 1) := by decide +kernel
theorem dX9_lots_114 : decode cX9_lots 114 = .ok (.ifCond .ne 7, 3) := by decide +kernel
theorem dX9_lots_117 : decode cX9_lots 117 = .ok (.iload_n 3, 1) := by decide +kernel
theorem dX9_lots_118 : decode cX9_lots 118 = .ok (.goto 5, 3) := by decide +kernel
theorem dX9_lots_121 : decode cX9_lots 121 = .ok (.iload 4, 2) := by decide +kernel
theorem dX9_lots_123 : decode cX9_lots 123 = .ok (.invokevirtual 305, 3) := by decide +kernel
theorem dX9_lots_126 : decode cX9_lots 126 = .ok (.aload_n 0, 1) := by decide +kernel
theorem dX9_lots_127 : decode cX9_lots 127 = .ok (.invokevirtual 351, 3) := by decide +kernel
theorem dX9_lots_130 : decode cX9_lots 130 = .ok (.aload_n 0, 1) := by decide +kernel
theorem dX9_lots_131 : decode cX9_lots 131 = .ok (.getfield 115, 3) := by decide +kernel
theorem dX9_lots_134 : decode cX9_lots 134 = .ok (.iload 6, 2) := by decide +kernel
theorem dX9_lots_136 : decode cX9_lots 136 = .ok (.aload_n 0, 1) := by decide +kernel
theorem dX9_lots_137 : decode cX9_lots 137 = .ok (.getfield 94, 3) := by decide +kernel
theorem dX9_lots_140 : decode cX9_lots 140 = .ok (.iload_n 1, 1) := by decide +kernel
theorem dX9_lots_141 : decode cX9_lots 141 = .ok (.laload, 1) := by decide +kernel
theorem dX9_lots_142 : decode cX9_lots 142 = .ok (.lastore, 1) := by decide +kernel
theorem dX9_lots_143 : decode cX9_lots 143 = .ok (.aload_n 0, 1) := by decide +kernel
theorem dX9_lots_144 : decode cX9_lots 144 = .ok (.getfield 118, 3) := by decide +kernel
theorem dX9_lots_147 : decode cX9_lots 147 = .ok (.iload 6, 2) := by decide +kernel
theorem dX9_lots_149 : decode cX9_lots 149 = .ok (.aload_n 0, 1) := by decide +kernel
theorem dX9_lots_150 : decode cX9_lots 150 = .ok (.getfield 94, 3) := by decide +kernel
theorem dX9_lots_153 : decode cX9_lots 153 = .ok (.iload_n 2, 1) := by decide +kernel
theorem dX9_lots_154 : decode cX9_lots 154 = .ok (.laload, 1) := by decide +kernel
theorem dX9_lots_155 : decode cX9_lots 155 = .ok (.lastore, 1) := by decide +kernel
theorem dX9_lots_156 : decode cX9_lots 156 = .ok (.iinc 6 1, 3) := by decide +kernel
theorem dX9_lots_159 : decode cX9_lots 159 = .ok (.goto (-74), 3) := by decide +kernel
theorem dX9_lots_162 : decode cX9_lots 162 = .ok (.aload_n 0, 1) := by decide +kernel
theorem dX9_lots_163 : decode cX9_lots 163 = .ok (.invokevirtual 427, 3) := by decide +kernel
theorem dX9_lots_166 : decode cX9_lots 166 = .ok (.ifCond .ne 7, 3) := by decide +kernel
theorem dX9_lots_169 : decode cX9_lots 169 = .ok (.ldc2_w 370, 3) := by decide +kernel
theorem dX9_lots_172 : decode cX9_lots 172 = .ok (.lreturn, 1) := by decide +kernel
theorem dX9_lots_173 : decode cX9_lots 173 = .ok (.iload 5, 2) := by decide +kernel
theorem dX9_lots_175 : decode cX9_lots 175 = .ok (.iconst 2, 1) := by decide +kernel
theorem dX9_lots_176 : decode cX9_lots 176 = .ok (.if_icmp .ge 19, 3) := by decide +kernel
theorem dX9_lots_179 : decode cX9_lots 179 = .ok (.aload_n 0, 1) := by decide +kernel
theorem dX9_lots_180 : decode cX9_lots 180 = .ok (.getfield 118, 3) := by decide +kernel
theorem dX9_lots_183 : decode cX9_lots 183 = .ok (.iconst 3, 1) := by decide +kernel
theorem dX9_lots_184 : decode cX9_lots 184 = .ok (.laload, 1) := by decide +kernel
theorem dX9_lots_185 : decode cX9_lots 185 = .ok (.aload_n 0, 1) := by decide +kernel
theorem dX9_lots_186 : decode cX9_lots 186 = .ok (.getfield 118, 3) := by decide +kernel
theorem dX9_lots_189 : decode cX9_lots 189 = .ok (.iconst 2, 1) := by decide +kernel
theorem dX9_lots_190 : decode cX9_lots 190 = .ok (.laload, 1) := by decide +kernel
theorem dX9_lots_191 : decode cX9_lots 191 = .ok (.lsub, 1) := by decide +kernel
theorem dX9_lots_192 : decode cX9_lots 192 = .ok (.goto 16, 3) := by decide +kernel
theorem dX9_lots_195 : decode cX9_lots 195 = .ok (.aload_n 0, 1) := by decide +kernel
theorem dX9_lots_196 : decode cX9_lots 196 = .ok (.getfield 115, 3) := by decide +kernel
theorem dX9_lots_199 : decode cX9_lots 199 = .ok (.iconst 3, 1) := by decide +kernel
theorem dX9_lots_200 : decode cX9_lots 200 = .ok (.laload, 1) := by decide +kernel
theorem dX9_lots_201 : decode cX9_lots 201 = .ok (.aload_n 0, 1) := by decide +kernel
theorem dX9_lots_202 : decode cX9_lots 202 = .ok (.getfield 115, 3) := by decide +kernel
theorem dX9_lots_205 : decode cX9_lots 205 = .ok (.iconst 1, 1) := by decide +kernel
theorem dX9_lots_206 : decode cX9_lots 206 = .ok (.laload, 1) := by decide +kernel
theorem dX9_lots_207 : decode cX9_lots 207 = .ok (.lsub, 1) := by decide +kernel
theorem dX9_lots_208 : decode cX9_lots 208 = .ok (.lstore 6, 2) := by decide +kernel
theorem dX9_lots_210 : decode cX9_lots 210 = .ok (.iload 5, 2) := by decide +kernel
theorem dX9_lots_212 : decode cX9_lots 212 = .ok (.iconst 2, 1) := by decide +kernel
theorem dX9_lots_213 : decode cX9_lots 213 = .ok (.if_icmp .ge 33, 3) := by decide +kernel
theorem dX9_lots_216 : decode cX9_lots 216 = .ok (.aload_n 0, 1) := by decide +kernel
theorem dX9_lots_217 : decode cX9_lots 217 = .ok (.getfield 118, 3) := by decide +kernel
theorem dX9_lots_220 : decode cX9_lots 220 = .ok (.iconst 0, 1) := by decide +kernel
theorem dX9_lots_221 : decode cX9_lots 221 = .ok (.laload, 1) := by decide +kernel
theorem dX9_lots_222 : decode cX9_lots 222 = .ok (.aload_n 0, 1) := by decide +kernel
theorem dX9_lots_223 : decode cX9_lots 223 = .ok (.getfield 118, 3) := by decide +kernel
theorem dX9_lots_226 : decode cX9_lots 226 = .ok (.iconst 1, 1) := by decide +kernel
theorem dX9_lots_227 : decode cX9_lots 227 = .ok (.laload, 1) := by decide +kernel
theorem dX9_lots_228 : decode cX9_lots 228 = .ok (.lsub, 1) := by decide +kernel
theorem dX9_lots_229 : decode cX9_lots 229 = .ok (.aload_n 0, 1) := by decide +kernel
theorem dX9_lots_230 : decode cX9_lots 230 = .ok (.getfield 118, 3) := by decide +kernel
theorem dX9_lots_233 : decode cX9_lots 233 = .ok (.iconst 2, 1) := by decide +kernel
theorem dX9_lots_234 : decode cX9_lots 234 = .ok (.laload, 1) := by decide +kernel
theorem dX9_lots_235 : decode cX9_lots 235 = .ok (.lsub, 1) := by decide +kernel
theorem dX9_lots_236 : decode cX9_lots 236 = .ok (.aload_n 0, 1) := by decide +kernel
theorem dX9_lots_237 : decode cX9_lots 237 = .ok (.getfield 118, 3) := by decide +kernel
theorem dX9_lots_240 : decode cX9_lots 240 = .ok (.iconst 3, 1) := by decide +kernel
theorem dX9_lots_241 : decode cX9_lots 241 = .ok (.laload, 1) := by decide +kernel
theorem dX9_lots_242 : decode cX9_lots 242 = .ok (.ladd, 1) := by decide +kernel
theorem dX9_lots_243 : decode cX9_lots 243 = .ok (.goto 30, 3) := by decide +kernel
theorem dX9_lots_246 : decode cX9_lots 246 = .ok (.aload_n 0, 1) := by decide +kernel
theorem dX9_lots_247 : decode cX9_lots 247 = .ok (.getfield 115, 3) := by decide +kernel
theorem dX9_lots_250 : decode cX9_lots 250 = .ok (.iconst 0, 1) := by decide +kernel
theorem dX9_lots_251 : decode cX9_lots 251 = .ok (.laload, 1) := by decide +kernel
theorem dX9_lots_252 : decode cX9_lots 252 = .ok (.aload_n 0, 1) := by decide +kernel
theorem dX9_lots_253 : decode cX9_lots 253 = .ok (.getfield 115, 3) := by decide +kernel
theorem dX9_lots_256 : decode cX9_lots 256 = .ok (.iconst 1, 1) := by decide +kernel
theorem dX9_lots_257 : decode cX9_lots 257 = .ok (.laload, 1) := by decide +kernel
theorem dX9_lots_258 : decode cX9_lots 258 = .ok (.lsub, 1) := by decide +kernel
theorem dX9_lots_259 : decode cX9_lots 259 = .ok (.aload_n 0, 1) := by decide +kernel
theorem dX9_lots_260 : decode cX9_lots 260 = .ok (.getfield 115, 3) := by decide +kernel
theorem dX9_lots_263 : decode cX9_lots 263 = .ok (.iconst 2, 1) := by decide +kernel
theorem dX9_lots_264 : decode cX9_lots 264 = .ok (.laload, 1) := by decide +kernel
theorem dX9_lots_265 : decode cX9_lots 265 = .ok (.lsub, 1) := by decide +kernel
theorem dX9_lots_266 : decode cX9_lots 266 = .ok (.aload_n 0, 1) := by decide +kernel
theorem dX9_lots_267 : decode cX9_lots 267 = .ok (.getfield 115, 3) := by decide +kernel
theorem dX9_lots_270 : decode cX9_lots 270 = .ok (.iconst 3, 1) := by decide +kernel
theorem dX9_lots_271 : decode cX9_lots 271 = .ok (.laload, 1) := by decide +kernel
theorem dX9_lots_272 : decode cX9_lots 272 = .ok (.ladd, 1) := by decide +kernel
theorem dX9_lots_273 : decode cX9_lots 273 = .ok (.lstore 8, 2) := by decide +kernel
theorem dX9_lots_275 : decode cX9_lots 275 = .ok (.lload 6, 2) := by decide +kernel
theorem dX9_lots_277 : decode cX9_lots 277 = .ok (.lload 8, 2) := by decide +kernel
theorem dX9_lots_279 : decode cX9_lots 279 = .ok (.invokestatic 430, 3) := by decide +kernel
theorem dX9_lots_282 : decode cX9_lots 282 = .ok (.lload 8, 2) := by decide +kernel
theorem dX9_lots_284 : decode cX9_lots 284 = .ok (.lconst 0, 1) := by decide +kernel
theorem dX9_lots_285 : decode cX9_lots 285 = .ok (.lcmp, 1) := by decide +kernel
theorem dX9_lots_286 : decode cX9_lots 286 = .ok (.ifCond .ge 9, 3) := by decide +kernel
theorem dX9_lots_289 : decode cX9_lots 289 = .ok (.ldc2_w 370, 3) := by decide +kernel
theorem dX9_lots_292 : decode cX9_lots 292 = .ok (.goto 4, 3) := by decide +kernel
theorem dX9_lots_295 : decode cX9_lots 295 = .ok (.lconst 1, 1) := by decide +kernel
theorem dX9_lots_296 : decode cX9_lots 296 = .ok (.lmul, 1) := by decide +kernel
theorem dX9_lots_297 : decode cX9_lots 297 = .ok (.lstore 10, 2) := by decide +kernel
theorem dX9_lots_299 : decode cX9_lots 299 = .ok (.iload 5, 2) := by decide +kernel
theorem dX9_lots_301 : decode cX9_lots 301 = .ok (.iconst 2, 1) := by decide +kernel
theorem dX9_lots_302 : decode cX9_lots 302 = .ok (.irem, 1) := by decide +kernel
theorem dX9_lots_303 : decode cX9_lots 303 = .ok (.ifCond .ne 8, 3) := by decide +kernel
theorem dX9_lots_306 : decode cX9_lots 306 = .ok (.lload 6, 2) := by decide +kernel
theorem dX9_lots_308 : decode cX9_lots 308 = .ok (.goto 5, 3) := by decide +kernel
theorem dX9_lots_311 : decode cX9_lots 311 = .ok (.lload 8, 2) := by decide +kernel
theorem dX9_lots_313 : decode cX9_lots 313 = .ok (.lload 10, 2) := by decide +kernel
theorem dX9_lots_315 : decode cX9_lots 315 = .ok (.ldiv, 1) := by decide +kernel
theorem dX9_lots_316 : decode cX9_lots 316 = .ok (.lreturn, 1) := by decide +kernel
theorem dX9_sees_0 : decode cX9_sees 0 = .ok (.iconst 0, 1) := by decide +kernel
theorem dX9_sees_1 : decode cX9_sees 1 = .ok (.istore_n 2, 1) := by decide +kernel
theorem dX9_sees_2 : decode cX9_sees 2 = .ok (.iload_n 2, 1) := by decide +kernel
theorem dX9_sees_3 : decode cX9_sees 3 = .ok (.aload_n 0, 1) := by decide +kernel
theorem dX9_sees_4 : decode cX9_sees 4 = .ok (.getfield 260, 3) := by decide +kernel
theorem dX9_sees_7 : decode cX9_sees 7 = .ok (.if_icmp .ge 86, 3) := by decide +kernel
theorem dX9_sees_10 : decode cX9_sees 10 = .ok (.aload_n 0, 1) := by decide +kernel
theorem dX9_sees_11 : decode cX9_sees 11 = .ok (.getfield 121, 3) := by decide +kernel
theorem dX9_sees_14 : decode cX9_sees 14 = .ok (.bipush 36, 2) := by decide +kernel
theorem dX9_sees_16 : decode cX9_sees 16 = .ok (.iload_n 1, 1) := by decide +kernel
theorem dX9_sees_17 : decode cX9_sees 17 = .ok (.imul, 1) := by decide +kernel
theorem dX9_sees_18 : decode cX9_sees 18 = .ok (.bipush 9, 2) := by decide +kernel
theorem dX9_sees_20 : decode cX9_sees 20 = .ok (.iload_n 2, 1) := by decide +kernel
theorem dX9_sees_21 : decode cX9_sees 21 = .ok (.imul, 1) := by decide +kernel
theorem dX9_sees_22 : decode cX9_sees 22 = .ok (.iadd, 1) := by decide +kernel
theorem dX9_sees_23 : decode cX9_sees 23 = .ok (.aload_n 0, 1) := by decide +kernel
theorem dX9_sees_24 : decode cX9_sees 24 = .ok (.getfield 70, 3) := by decide +kernel
theorem dX9_sees_27 : decode cX9_sees 27 = .ok (.iload_n 2, 1) := by decide +kernel
theorem dX9_sees_28 : decode cX9_sees 28 = .ok (.iaload, 1) := by decide +kernel
theorem dX9_sees_29 : decode cX9_sees 29 = .ok (.iconst 1, 1) := by decide +kernel
theorem dX9_sees_30 : decode cX9_sees 30 = .ok (.if_icmp .ne 12, 3) := by decide +kernel
theorem dX9_sees_33 : decode cX9_sees 33 = .ok (.aload_n 0, 1) := by decide +kernel
theorem dX9_sees_34 : decode cX9_sees 34 = .ok (.getfield 73, 3) := by decide +kernel
theorem dX9_sees_37 : decode cX9_sees 37 = .ok (.iload_n 2, 1) := by decide +kernel
theorem dX9_sees_38 : decode cX9_sees 38 = .ok (.iaload, 1) := by decide +kernel
theorem dX9_sees_39 : decode cX9_sees 39 = .ok (.goto 4, 3) := by decide +kernel
theorem dX9_sees_42 : decode cX9_sees 42 = .ok (.iconst (-1), 1) := by decide +kernel
theorem dX9_sees_43 : decode cX9_sees 43 = .ok (.iastore, 1) := by decide +kernel
theorem dX9_sees_44 : decode cX9_sees 44 = .ok (.iconst 0, 1) := by decide +kernel
theorem dX9_sees_45 : decode cX9_sees 45 = .ok (.istore_n 3, 1) := by decide +kernel
theorem dX9_sees_46 : decode cX9_sees 46 = .ok (.iload_n 3, 1) := by decide +kernel
theorem dX9_sees_47 : decode cX9_sees 47 = .ok (.bipush 8, 2) := by decide +kernel
theorem dX9_sees_49 : decode cX9_sees 49 = .ok (.if_icmp .ge 38, 3) := by decide +kernel
theorem dX9_sees_52 : decode cX9_sees 52 = .ok (.aload_n 0, 1) := by decide +kernel
theorem dX9_sees_53 : decode cX9_sees 53 = .ok (.getfield 121, 3) := by decide +kernel
theorem dX9_sees_56 : decode cX9_sees 56 = .ok (.bipush 36, 2) := by decide +kernel
theorem dX9_sees_58 : decode cX9_sees 58 = .ok (.iload_n 1, 1) := by decide +kernel
theorem dX9_sees_59 : decode cX9_sees 59 = .ok (.imul, 1) := by decide +kernel
theorem dX9_sees_60 : decode cX9_sees 60 = .ok (.bipush 9, 2) := by decide +kernel
theorem dX9_sees_62 : decode cX9_sees 62 = .ok (.iload_n 2, 1) := by decide +kernel
theorem dX9_sees_63 : decode cX9_sees 63 = .ok (.imul, 1) := by decide +kernel
theorem dX9_sees_64 : decode cX9_sees 64 = .ok (.iadd, 1) := by decide +kernel
theorem dX9_sees_65 : decode cX9_sees 65 = .ok (.iconst 1, 1) := by decide +kernel
theorem dX9_sees_66 : decode cX9_sees 66 = .ok (.iadd, 1) := by decide +kernel
theorem dX9_sees_67 : decode cX9_sees 67 = .ok (.iload_n 3, 1) := by decide +kernel
theorem dX9_sees_68 : decode cX9_sees 68 = .ok (.iadd, 1) := by decide +kernel
theorem dX9_sees_69 : decode cX9_sees 69 = .ok (.aload_n 0, 1) := by decide +kernel
theorem dX9_sees_70 : decode cX9_sees 70 = .ok (.getfield 79, 3) := by decide +kernel
theorem dX9_sees_73 : decode cX9_sees 73 = .ok (.bipush 8, 2) := by decide +kernel
theorem dX9_sees_75 : decode cX9_sees 75 = .ok (.iload_n 2, 1) := by decide +kernel
theorem dX9_sees_76 : decode cX9_sees 76 = .ok (.imul, 1) := by decide +kernel
theorem dX9_sees_77 : decode cX9_sees 77 = .ok (.iload_n 3, 1) := by decide +kernel
theorem dX9_sees_78 : decode cX9_sees 78 = .ok (.iadd, 1) := by decide +kernel
theorem dX9_sees_79 : decode cX9_sees 79 = .ok (.iaload, 1) := by decide +kernel
theorem dX9_sees_80 : decode cX9_sees 80 = .ok (.iastore, 1) := by decide +kernel
theorem dX9_sees_81 : decode cX9_sees 81 = .ok (.iinc 3 1, 3) := by decide +kernel
theorem dX9_sees_84 : decode cX9_sees 84 = .ok (.goto (-38), 3) := by decide +kernel
theorem dX9_sees_87 : decode cX9_sees 87 = .ok (.iinc 2 1, 3) := by decide +kernel
theorem dX9_sees_90 : decode cX9_sees 90 = .ok (.goto (-88), 3) := by decide +kernel
theorem dX9_sees_93 : decode cX9_sees 93 = .ok (.return_, 1) := by decide +kernel
theorem dX9_isLike_0 : decode cX9_isLike 0 = .ok (.iconst 1, 1) := by decide +kernel
theorem dX9_isLike_1 : decode cX9_isLike 1 = .ok (.istore_n 3, 1) := by decide +kernel
theorem dX9_isLike_2 : decode cX9_isLike 2 = .ok (.iconst 0, 1) := by decide +kernel
theorem dX9_isLike_3 : decode cX9_isLike 3 = .ok (.istore 4, 2) := by decide +kernel
theorem dX9_isLike_5 : decode cX9_isLike 5 = .ok (.iload 4, 2) := by decide +kernel
theorem dX9_isLike_7 : decode cX9_isLike 7 = .ok (.bipush 9, 2) := by decide +kernel
theorem dX9_isLike_9 : decode cX9_isLike 9 = .ok (.aload_n 0, 1) := by decide +kernel
theorem dX9_isLike_10 : decode cX9_isLike 10 = .ok (.getfield 260, 3) := by decide +kernel
theorem dX9_isLike_13 : decode cX9_isLike 13 = .ok (.imul, 1) := by decide +kernel
theorem dX9_isLike_14 : decode cX9_isLike 14 = .ok (.if_icmp .ge 46, 3) := by decide +kernel
theorem dX9_isLike_17 : decode cX9_isLike 17 = .ok (.iload_n 3, 1) := by decide +kernel
theorem dX9_isLike_18 : decode cX9_isLike 18 = .ok (.ifCond .eq 34, 3) := by decide +kernel
theorem dX9_isLike_21 : decode cX9_isLike 21 = .ok (.aload_n 0, 1) := by decide +kernel
theorem dX9_isLike_22 : decode cX9_isLike 22 = .ok (.getfield 121, 3) := by decide +kernel
theorem dX9_isLike_25 : decode cX9_isLike 25 = .ok (.bipush 36, 2) := by decide +kernel
theorem dX9_isLike_27 : decode cX9_isLike 27 = .ok (.iload_n 1, 1) := by decide +kernel
theorem dX9_isLike_28 : decode cX9_isLike 28 = .ok (.imul, 1) := by decide +kernel
theorem dX9_isLike_29 : decode cX9_isLike 29 = .ok (.iload 4, 2) := by decide +kernel
theorem dX9_isLike_31 : decode cX9_isLike 31 = .ok (.iadd, 1) := by decide +kernel
theorem dX9_isLike_32 : decode cX9_isLike 32 = .ok (.iaload, 1) := by decide +kernel
theorem dX9_isLike_33 : decode cX9_isLike 33 = .ok (.aload_n 0, 1) := by decide +kernel
theorem dX9_isLike_34 : decode cX9_isLike 34 = .ok (.getfield 121, 3) := by decide +kernel
theorem dX9_isLike_37 : decode cX9_isLike 37 = .ok (.bipush 36, 2) := by decide +kernel
theorem dX9_isLike_39 : decode cX9_isLike 39 = .ok (.iload_n 2, 1) := by decide +kernel
theorem dX9_isLike_40 : decode cX9_isLike 40 = .ok (.imul, 1) := by decide +kernel
theorem dX9_isLike_41 : decode cX9_isLike 41 = .ok (.iload 4, 2) := by decide +kernel
theorem dX9_isLike_43 : decode cX9_isLike 43 = .ok (.iadd, 1) := by decide +kernel
theorem dX9_isLike_44 : decode cX9_isLike 44 = .ok (.iaload, 1) := by decide +kernel
theorem dX9_isLike_45 : decode cX9_isLike 45 = .ok (.if_icmp .ne 7, 3) := by decide +kernel
theorem dX9_isLike_48 : decode cX9_isLike 48 = .ok (.iconst 1, 1) := by decide +kernel
theorem dX9_isLike_49 : decode cX9_isLike 49 = .ok (.goto 4, 3) := by decide +kernel
theorem dX9_isLike_52 : decode cX9_isLike 52 = .ok (.iconst 0, 1) := by decide +kernel
theorem dX9_isLike_53 : decode cX9_isLike 53 = .ok (.istore_n 3, 1) := by decide +kernel
theorem dX9_isLike_54 : decode cX9_isLike 54 = .ok (.iinc 4 1, 3) := by decide +kernel
theorem dX9_isLike_57 : decode cX9_isLike 57 = .ok (.goto (-52), 3) := by decide +kernel
theorem dX9_isLike_60 : decode cX9_isLike 60 = .ok (.iload_n 3, 1) := by decide +kernel
theorem dX9_isLike_61 : decode cX9_isLike 61 = .ok (.ireturn, 1) := by decide +kernel
theorem dX9_chases_0 : decode cX9_chases 0 = .ok (.aload_n 0, 1) := by decide +kernel
theorem dX9_chases_1 : decode cX9_chases 1 = .ok (.iconst 0, 1) := by decide +kernel
theorem dX9_chases_2 : decode cX9_chases 2 = .ok (.putfield 434, 3) := by decide +kernel
theorem dX9_chases_5 : decode cX9_chases 5 = .ok (.aload_n 0, 1) := by decide +kernel
theorem dX9_chases_6 : decode cX9_chases 6 = .ok (.iconst 2, 1) := by decide +kernel
theorem dX9_chases_7 : decode cX9_chases 7 = .ok (.putfield 437, 3) := by decide +kernel
theorem dX9_chases_10 : decode cX9_chases 10 = .ok (.aload_n 0, 1) := by decide +kernel
theorem dX9_chases_11 : decode cX9_chases 11 = .ok (.iconst 0, 1) := by decide +kernel
theorem dX9_chases_12 : decode cX9_chases 12 = .ok (.putfield 440, 3) := by decide +kernel
theorem dX9_chases_15 : decode cX9_chases 15 = .ok (.aload_n 0, 1) := by decide +kernel
theorem dX9_chases_16 : decode cX9_chases 16 = .ok (.iconst 0, 1) := by decide +kernel
theorem dX9_chases_17 : decode cX9_chases 17 = .ok (.invokevirtual 443, 3) := by decide +kernel
theorem dX9_chases_20 : decode cX9_chases 20 = .ok (.aload_n 0, 1) := by decide +kernel
theorem dX9_chases_21 : decode cX9_chases 21 = .ok (.getfield 437, 3) := by decide +kernel
theorem dX9_chases_24 : decode cX9_chases 24 = .ok (.iconst 2, 1) := by decide +kernel
theorem dX9_chases_25 : decode cX9_chases 25 = .ok (.if_icmp .ne 156, 3) := by decide +kernel
theorem dX9_chases_28 : decode cX9_chases 28 = .ok (.aload_n 0, 1) := by decide +kernel
theorem dX9_chases_29 : decode cX9_chases 29 = .ok (.getfield 434, 3) := by decide +kernel
theorem dX9_chases_32 : decode cX9_chases 32 = .ok (.iload_n 1, 1) := by decide +kernel
theorem dX9_chases_33 : decode cX9_chases 33 = .ok (.if_icmp .ge 148, 3) := by decide +kernel
theorem dX9_chases_36 : decode cX9_chases 36 = .ok (.iconst 0, 1) := by decide +kernel
theorem dX9_chases_37 : decode cX9_chases 37 = .ok (.istore_n 2, 1) := by decide +kernel
theorem dX9_chases_38 : decode cX9_chases 38 = .ok (.iconst 0, 1) := by decide +kernel
theorem dX9_chases_39 : decode cX9_chases 39 = .ok (.istore_n 3, 1) := by decide +kernel
theorem dX9_chases_40 : decode cX9_chases 40 = .ok (.iload_n 3, 1) := by decide +kernel
theorem dX9_chases_41 : decode cX9_chases 41 = .ok (.aload_n 0, 1) := by decide +kernel
theorem dX9_chases_42 : decode cX9_chases 42 = .ok (.getfield 260, 3) := by decide +kernel
theorem dX9_chases_45 : decode cX9_chases 45 = .ok (.if_icmp .ge 51, 3) := by decide +kernel
theorem dX9_chases_48 : decode cX9_chases 48 = .ok (.aload_n 0, 1) := by decide +kernel
theorem dX9_chases_49 : decode cX9_chases 49 = .ok (.iload_n 3, 1) := by decide +kernel
theorem dX9_chases_50 : decode cX9_chases 50 = .ok (.invokevirtual 374, 3) := by decide +kernel
theorem dX9_chases_53 : decode cX9_chases 53 = .ok (.ifCond .ne 6, 3) := by decide +kernel
theorem dX9_chases_56 : decode cX9_chases 56 = .ok (.goto 34, 3) := by decide +kernel
theorem dX9_chases_59 : decode cX9_chases 59 = .ok (.aload_n 0, 1) := by decide +kernel
theorem dX9_chases_60 : decode cX9_chases 60 = .ok (.getfield 70, 3) := by decide +kernel
theorem dX9_chases_63 : decode cX9_chases 63 = .ok (.iload_n 3, 1) := by decide +kernel
theorem dX9_chases_64 : decode cX9_chases 64 = .ok (.iconst 1, 1) := by decide +kernel
theorem dX9_chases_65 : decode cX9_chases 65 = .ok (.iastore, 1) := by decide +kernel
theorem dX9_chases_66 : decode cX9_chases 66 = .ok (.aload_n 0, 1) := by decide +kernel
theorem dX9_chases_67 : decode cX9_chases 67 = .ok (.getfield 73, 3) := by decide +kernel
theorem dX9_chases_70 : decode cX9_chases 70 = .ok (.iload_n 3, 1) := by decide +kernel
theorem dX9_chases_71 : decode cX9_chases 71 = .ok (.aload_n 0, 1) := by decide +kernel
theorem dX9_chases_72 : decode cX9_chases 72 = .ok (.iload_n 3, 1) := by decide +kernel
theorem dX9_chases_73 : decode cX9_chases 73 = .ok (.invokevirtual 302, 3) := by decide +kernel
theorem dX9_chases_76 : decode cX9_chases 76 = .ok (.iastore, 1) := by decide +kernel
theorem dX9_chases_77 : decode cX9_chases 77 = .ok (.aload_n 0, 1) := by decide +kernel
theorem dX9_chases_78 : decode cX9_chases 78 = .ok (.iload_n 3, 1) := by decide +kernel
theorem dX9_chases_79 : decode cX9_chases 79 = .ok (.aload_n 0, 1) := by decide +kernel
theorem dX9_chases_80 : decode cX9_chases 80 = .ok (.getfield 73, 3) := by decide +kernel
theorem dX9_chases_83 : decode cX9_chases 83 = .ok (.iload_n 3, 1) := by decide +kernel
theorem dX9_chases_84 : decode cX9_chases 84 = .ok (.iaload, 1) := by decide +kernel
theorem dX9_chases_85 : decode cX9_chases 85 = .ok (.invokevirtual 305, 3) := by decide +kernel
theorem dX9_chases_88 : decode cX9_chases 88 = .ok (.iconst 1, 1) := by decide +kernel
theorem dX9_chases_89 : decode cX9_chases 89 = .ok (.istore_n 2, 1) := by decide +kernel
theorem dX9_chases_90 : decode cX9_chases 90 = .ok (.iinc 3 1, 3) := by decide +kernel
theorem dX9_chases_93 : decode cX9_chases 93 = .ok (.goto (-53), 3) := by decide +kernel
theorem dX9_chases_96 : decode cX9_chases 96 = .ok (.aload_n 0, 1) := by decide +kernel
theorem dX9_chases_97 : decode cX9_chases 97 = .ok (.dup, 1) := by decide +kernel
theorem dX9_chases_98 : decode cX9_chases 98 = .ok (.getfield 434, 3) := by decide +kernel
theorem dX9_chases_101 : decode cX9_chases 101 = .ok (.iconst 1, 1) := by decide +kernel
theorem dX9_chases_102 : decode cX9_chases 102 = .ok (.iadd, 1) := by decide +kernel
theorem dX9_chases_103 : decode cX9_chases 103 = .ok (.putfield 434, 3) := by decide +kernel
theorem dX9_chases_106 : decode cX9_chases 106 = .ok (.aload_n 0, 1) := by decide +kernel
theorem dX9_chases_107 : decode cX9_chases 107 = .ok (.aload_n 0, 1) := by decide +kernel
theorem dX9_chases_108 : decode cX9_chases 108 = .ok (.getfield 434, 3) := by decide +kernel
theorem dX9_chases_111 : decode cX9_chases 111 = .ok (.invokevirtual 443, 3) := by decide +kernel
theorem dX9_chases_114 : decode cX9_chases 114 = .ok (.iload_n 2, 1) := by decide +kernel
theorem dX9_chases_115 : decode cX9_chases 115 = .ok (.ifCond .ne 8, 3) := by decide +kernel
theorem dX9_chases_118 : decode cX9_chases 118 = .ok (.aload_n 0, 1) := by decide +kernel
theorem dX9_chases_119 : decode cX9_chases 119 = .ok (.iconst 0, 1) := by decide +kernel
theorem dX9_chases_120 : decode cX9_chases 120 = .ok (.putfield 437, 3) := by decide +kernel
theorem dX9_chases_123 : decode cX9_chases 123 = .ok (.aload_n 0, 1) := by decide +kernel
theorem dX9_chases_124 : decode cX9_chases 124 = .ok (.getfield 434, 3) := by decide +kernel
theorem dX9_chases_127 : decode cX9_chases 127 = .ok (.iconst 1, 1) := by decide +kernel
theorem dX9_chases_128 : decode cX9_chases 128 = .ok (.isub, 1) := by decide +kernel
theorem dX9_chases_129 : decode cX9_chases 129 = .ok (.istore_n 3, 1) := by decide +kernel
theorem dX9_chases_130 : decode cX9_chases 130 = .ok (.iload_n 3, 1) := by decide +kernel
theorem dX9_chases_131 : decode cX9_chases 131 = .ok (.ifCond .lt 47, 3) := by decide +kernel
theorem dX9_chases_134 : decode cX9_chases 134 = .ok (.aload_n 0, 1) := by decide +kernel
theorem dX9_chases_135 : decode cX9_chases 135 = .ok (.getfield 437, 3) := by decide +kernel
theorem dX9_chases_138 : decode cX9_chases 138 = .ok (.iconst 2, 1) := by decide +kernel
theorem dX9_chases_139 : decode cX9_chases 139 = .ok (.if_icmp .ne 39, 3) := by decide +kernel
theorem dX9_chases_142 : decode cX9_chases 142 = .ok (.aload_n 0, 1) := by decide +kernel
theorem dX9_chases_143 : decode cX9_chases 143 = .ok (.iload_n 3, 1) := by decide +kernel
theorem dX9_chases_144 : decode cX9_chases 144 = .ok (.aload_n 0, 1) := by decide +kernel
theorem dX9_chases_145 : decode cX9_chases 145 = .ok (.getfield 434, 3) := by decide +kernel
theorem dX9_chases_148 : decode cX9_chases 148 = .ok (.invokevirtual 446, 3) := by decide +kernel
theorem dX9_chases_151 : decode cX9_chases 151 = .ok (.ifCond .ne 6, 3) := by decide +kernel
theorem dX9_chases_154 : decode cX9_chases 154 = .ok (.goto 18, 3) := by decide +kernel
theorem dX9_chases_157 : decode cX9_chases 157 = .ok (.aload_n 0, 1) := by decide +kernel
theorem dX9_chases_158 : decode cX9_chases 158 = .ok (.iconst 1, 1) := by decide +kernel
theorem dX9_chases_159 : decode cX9_chases 159 = .ok (.putfield 437, 3) := by decide +kernel
theorem dX9_chases_162 : decode cX9_chases 162 = .ok (.aload_n 0, 1) := by decide +kernel
theorem dX9_chases_163 : decode cX9_chases 163 = .ok (.aload_n 0, 1) := by decide +kernel
theorem dX9_chases_164 : decode cX9_chases 164 = .ok (.getfield 434, 3) := by decide +kernel
theorem dX9_chases_167 : decode cX9_chases 167 = .ok (.iload_n 3, 1) := by decide +kernel
theorem dX9_chases_168 : decode cX9_chases 168 = .ok (.isub, 1) := by decide +kernel
theorem dX9_chases_169 : decode cX9_chases 169 = .ok (.putfield 440, 3) := by decide +kernel
theorem dX9_chases_172 : decode cX9_chases 172 = .ok (.iinc 3 (-1), 3) := by decide +kernel
theorem dX9_chases_175 : decode cX9_chases 175 = .ok (.goto (-45), 3) := by decide +kernel
theorem dX9_chases_178 : decode cX9_chases 178 = .ok (.goto (-158), 3) := by decide +kernel
theorem dX9_chases_181 : decode cX9_chases 181 = .ok (.return_, 1) := by decide +kernel
theorem dX9_chase_0 : decode cX9_chase 0 = .ok (.iload_n 1, 1) := by decide +kernel
theorem dX9_chase_1 : decode cX9_chase 1 = .ok (.iconst 1, 1) := by decide +kernel
theorem dX9_chase_2 : decode cX9_chase 2 = .ok (.bipush 60, 2) := by decide +kernel
theorem dX9_chase_4 : decode cX9_chase 4 = .ok (.invokestatic 156, 3) := by decide +kernel
theorem dX9_chase_7 : decode cX9_chase 7 = .ok (.ifCond .eq 35, 3) := by decide +kernel
theorem dX9_chase_10 : decode cX9_chase 10 = .ok (.iload_n 2, 1) := by decide +kernel
theorem dX9_chase_11 : decode cX9_chase 11 = .ok (.iconst 0, 1) := by decide +kernel
theorem dX9_chase_12 : decode cX9_chase 12 = .ok (.iconst 2, 1) := by decide +kernel
theorem dX9_chase_13 : decode cX9_chase 13 = .ok (.invokestatic 156, 3) := by decide +kernel
theorem dX9_chase_16 : decode cX9_chase 16 = .ok (.ifCond .ne 19, 3) := by decide +kernel
theorem dX9_chase_19 : decode cX9_chase 19 = .ok (.iload_n 2, 1) := by decide +kernel
theorem dX9_chase_20 : decode cX9_chase 20 = .ok (.bipush 10, 2) := by decide +kernel
theorem dX9_chase_22 : decode cX9_chase 22 = .ok (.bipush 9, 2) := by decide +kernel
theorem dX9_chase_24 : decode cX9_chase 24 = .ok (.aload_n 0, 1) := by decide +kernel
theorem dX9_chase_25 : decode cX9_chase 25 = .ok (.getfield 260, 3) := by decide +kernel
theorem dX9_chase_28 : decode cX9_chase 28 = .ok (.iadd, 1) := by decide +kernel
theorem dX9_chase_29 : decode cX9_chase 29 = .ok (.invokestatic 156, 3) := by decide +kernel
theorem dX9_chase_32 : decode cX9_chase 32 = .ok (.ifCond .eq 10, 3) := by decide +kernel
theorem dX9_chase_35 : decode cX9_chase 35 = .ok (.aload_n 0, 1) := by decide +kernel
theorem dX9_chase_36 : decode cX9_chase 36 = .ok (.invokevirtual 299, 3) := by decide +kernel
theorem dX9_chase_39 : decode cX9_chase 39 = .ok (.ifCond .eq 5, 3) := by decide +kernel
theorem dX9_chase_42 : decode cX9_chase 42 = .ok (.iconst (-1), 1) := by decide +kernel
theorem dX9_chase_43 : decode cX9_chase 43 = .ok (.ireturn, 1) := by decide +kernel
theorem dX9_chase_44 : decode cX9_chase 44 = .ok (.iconst 0, 1) := by decide +kernel
theorem dX9_chase_45 : decode cX9_chase 45 = .ok (.istore_n 3, 1) := by decide +kernel
theorem dX9_chase_46 : decode cX9_chase 46 = .ok (.iload_n 3, 1) := by decide +kernel
theorem dX9_chase_47 : decode cX9_chase 47 = .ok (.aload_n 0, 1) := by decide +kernel
theorem dX9_chase_48 : decode cX9_chase 48 = .ok (.getfield 260, 3) := by decide +kernel
theorem dX9_chase_51 : decode cX9_chase 51 = .ok (.if_icmp .ge 21, 3) := by decide +kernel
theorem dX9_chase_54 : decode cX9_chase 54 = .ok (.aload_n 0, 1) := by decide +kernel
theorem dX9_chase_55 : decode cX9_chase 55 = .ok (.getfield 70, 3) := by decide +kernel
theorem dX9_chase_58 : decode cX9_chase 58 = .ok (.iload_n 3, 1) := by decide +kernel
theorem dX9_chase_59 : decode cX9_chase 59 = .ok (.iaload, 1) := by decide +kernel
theorem dX9_chase_60 : decode cX9_chase 60 = .ok (.iconst 3, 1) := by decide +kernel
theorem dX9_chase_61 : decode cX9_chase 61 = .ok (.if_icmp .ne 5, 3) := by decide +kernel
theorem dX9_chase_64 : decode cX9_chase 64 = .ok (.iconst (-1), 1) := by decide +kernel
theorem dX9_chase_65 : decode cX9_chase 65 = .ok (.ireturn, 1) := by decide +kernel
theorem dX9_chase_66 : decode cX9_chase 66 = .ok (.iinc 3 1, 3) := by decide +kernel
theorem dX9_chase_69 : decode cX9_chase 69 = .ok (.goto (-23), 3) := by decide +kernel
theorem dX9_chase_72 : decode cX9_chase 72 = .ok (.aload_n 0, 1) := by decide +kernel
theorem dX9_chase_73 : decode cX9_chase 73 = .ok (.invokevirtual 367, 3) := by decide +kernel
theorem dX9_chase_76 : decode cX9_chase 76 = .ok (.ifCond .ne 5, 3) := by decide +kernel
theorem dX9_chase_79 : decode cX9_chase 79 = .ok (.iconst (-1), 1) := by decide +kernel
theorem dX9_chase_80 : decode cX9_chase 80 = .ok (.ireturn, 1) := by decide +kernel
theorem dX9_chase_81 : decode cX9_chase 81 = .ok (.iconst 0, 1) := by decide +kernel
theorem dX9_chase_82 : decode cX9_chase 82 = .ok (.istore_n 3, 1) := by decide +kernel
theorem dX9_chase_83 : decode cX9_chase 83 = .ok (.iload_n 3, 1) := by decide +kernel
theorem dX9_chase_84 : decode cX9_chase 84 = .ok (.aload_n 0, 1) := by decide +kernel
theorem dX9_chase_85 : decode cX9_chase 85 = .ok (.getfield 260, 3) := by decide +kernel
theorem dX9_chase_88 : decode cX9_chase 88 = .ok (.if_icmp .ge 35, 3) := by decide +kernel
theorem dX9_chase_91 : decode cX9_chase 91 = .ok (.aload_n 0, 1) := by decide +kernel
theorem dX9_chase_92 : decode cX9_chase 92 = .ok (.getfield 124, 3) := by decide +kernel
theorem dX9_chase_95 : decode cX9_chase 95 = .ok (.iload_n 3, 1) := by decide +kernel
theorem dX9_chase_96 : decode cX9_chase 96 = .ok (.aload_n 0, 1) := by decide +kernel
theorem dX9_chase_97 : decode cX9_chase 97 = .ok (.getfield 70, 3) := by decide +kernel
theorem dX9_chase_100 : decode cX9_chase 100 = .ok (.iload_n 3, 1) := by decide +kernel
theorem dX9_chase_101 : decode cX9_chase 101 = .ok (.iaload, 1) := by decide +kernel
theorem dX9_chase_102 : decode cX9_chase 102 = .ok (.iastore, 1) := by decide +kernel
theorem dX9_chase_103 : decode cX9_chase 103 = .ok (.aload_n 0, 1) := by decide +kernel
theorem dX9_chase_104 : decode cX9_chase 104 = .ok (.getfield 124, 3) := by decide +kernel
theorem dX9_chase_107 : decode cX9_chase 107 = .ok (.iconst 4, 1) := by decide +kernel
theorem dX9_chase_108 : decode cX9_chase 108 = .ok (.iload_n 3, 1) := by decide +kernel
theorem dX9_chase_109 : decode cX9_chase 109 = .ok (.iadd, 1) := by decide +kernel
theorem dX9_chase_110 : decode cX9_chase 110 = .ok (.aload_n 0, 1) := by decide +kernel
theorem dX9_chase_111 : decode cX9_chase 111 = .ok (.getfield 73, 3) := by decide +kernel
theorem dX9_chase_114 : decode cX9_chase 114 = .ok (.iload_n 3, 1) := by decide +kernel
theorem dX9_chase_115 : decode cX9_chase 115 = .ok (.iaload, 1) := by decide +kernel
theorem dX9_chase_116 : decode cX9_chase 116 = .ok (.iastore, 1) := by decide +kernel
theorem dX9_chase_117 : decode cX9_chase 117 = .ok (.iinc 3 1, 3) := by decide +kernel
theorem dX9_chase_120 : decode cX9_chase 120 = .ok (.goto (-37), 3) := by decide +kernel
theorem dX9_chase_123 : decode cX9_chase 123 = .ok (.aload_n 0, 1) := by decide +kernel
theorem dX9_chase_124 : decode cX9_chase 124 = .ok (.iload_n 1, 1) := by decide +kernel
theorem dX9_chase_125 : decode cX9_chase 125 = .ok (.invokevirtual 449, 3) := by decide +kernel
theorem dX9_chase_128 : decode cX9_chase 128 = .ok (.iload_n 2, 1) := by decide +kernel
theorem dX9_chase_129 : decode cX9_chase 129 = .ok (.ifCond .ne 10, 3) := by decide +kernel
theorem dX9_chase_132 : decode cX9_chase 132 = .ok (.aload_n 0, 1) := by decide +kernel
theorem dX9_chase_133 : decode cX9_chase 133 = .ok (.getfield 437, 3) := by decide +kernel
theorem dX9_chase_136 : decode cX9_chase 136 = .ok (.goto 53, 3) := by decide +kernel
theorem dX9_chase_139 : decode cX9_chase 139 = .ok (.iload_n 2, 1) := by decide +kernel
theorem dX9_chase_140 : decode cX9_chase 140 = .ok (.iconst 1, 1) := by decide +kernel
theorem dX9_chase_141 : decode cX9_chase 141 = .ok (.if_icmp .ne 10, 3) := by decide +kernel
theorem dX9_chase_144 : decode cX9_chase 144 = .ok (.aload_n 0, 1) := by decide +kernel
theorem dX9_chase_145 : decode cX9_chase 145 = .ok (.getfield 434, 3) := by decide +kernel
theorem dX9_chase_148 : decode cX9_chase 148 = .ok (.goto 41, 3) := by decide +kernel
theorem dX9_chase_151 : decode cX9_chase 151 = .ok (.iload_n 2, 1) := by decide +kernel
theorem dX9_chase_152 : decode cX9_chase 152 = .ok (.iconst 2, 1) := by decide +kernel
theorem dX9_chase_153 : decode cX9_chase 153 = .ok (.if_icmp .ne 10, 3) := by decide +kernel
theorem dX9_chase_156 : decode cX9_chase 156 = .ok (.aload_n 0, 1) := by decide +kernel
theorem dX9_chase_157 : decode cX9_chase 157 = .ok (.getfield 440, 3) := by decide +kernel
theorem dX9_chase_160 : decode cX9_chase 160 = .ok (.goto 29, 3) := by decide +kernel
theorem dX9_chase_163 : decode cX9_chase 163 = .ok (.aload_n 0, 1) := by decide +kernel
theorem dX9_chase_164 : decode cX9_chase 164 = .ok (.getfield 70, 3) := by decide +kernel
theorem dX9_chase_167 : decode cX9_chase 167 = .ok (.iload_n 2, 1) := by decide +kernel
theorem dX9_chase_168 : decode cX9_chase 168 = .ok (.bipush 10, 2) := by decide +kernel
theorem dX9_chase_170 : decode cX9_chase 170 = .ok (.isub, 1) := by decide +kernel
theorem dX9_chase_171 : decode cX9_chase 171 = .ok (.iaload, 1) := by decide +kernel
theorem dX9_chase_172 : decode cX9_chase 172 = .ok (.iconst 1, 1) := by decide +kernel
theorem dX9_chase_173 : decode cX9_chase 173 = .ok (.if_icmp .ne 15, 3) := by decide +kernel
theorem dX9_chase_176 : decode cX9_chase 176 = .ok (.aload_n 0, 1) := by decide +kernel
theorem dX9_chase_177 : decode cX9_chase 177 = .ok (.getfield 73, 3) := by decide +kernel
theorem dX9_chase_180 : decode cX9_chase 180 = .ok (.iload_n 2, 1) := by decide +kernel
theorem dX9_chase_181 : decode cX9_chase 181 = .ok (.bipush 10, 2) := by decide +kernel
theorem dX9_chase_183 : decode cX9_chase 183 = .ok (.isub, 1) := by decide +kernel
theorem dX9_chase_184 : decode cX9_chase 184 = .ok (.iaload, 1) := by decide +kernel
theorem dX9_chase_185 : decode cX9_chase 185 = .ok (.goto 4, 3) := by decide +kernel
theorem dX9_chase_188 : decode cX9_chase 188 = .ok (.iconst (-1), 1) := by decide +kernel
theorem dX9_chase_189 : decode cX9_chase 189 = .ok (.istore_n 3, 1) := by decide +kernel
theorem dX9_chase_190 : decode cX9_chase 190 = .ok (.iconst 0, 1) := by decide +kernel
theorem dX9_chase_191 : decode cX9_chase 191 = .ok (.istore 4, 2) := by decide +kernel
theorem dX9_chase_193 : decode cX9_chase 193 = .ok (.iload 4, 2) := by decide +kernel
theorem dX9_chase_195 : decode cX9_chase 195 = .ok (.aload_n 0, 1) := by decide +kernel
theorem dX9_chase_196 : decode cX9_chase 196 = .ok (.getfield 260, 3) := by decide +kernel
theorem dX9_chase_199 : decode cX9_chase 199 = .ok (.if_icmp .ge 39, 3) := by decide +kernel
theorem dX9_chase_202 : decode cX9_chase 202 = .ok (.aload_n 0, 1) := by decide +kernel
theorem dX9_chase_203 : decode cX9_chase 203 = .ok (.getfield 70, 3) := by decide +kernel
theorem dX9_chase_206 : decode cX9_chase 206 = .ok (.iload 4, 2) := by decide +kernel
theorem dX9_chase_208 : decode cX9_chase 208 = .ok (.aload_n 0, 1) := by decide +kernel
theorem dX9_chase_209 : decode cX9_chase 209 = .ok (.getfield 124, 3) := by decide +kernel
theorem dX9_chase_212 : decode cX9_chase 212 = .ok (.iload 4, 2) := by decide +kernel
theorem dX9_chase_214 : decode cX9_chase 214 = .ok (.iaload, 1) := by decide +kernel
theorem dX9_chase_215 : decode cX9_chase 215 = .ok (.iastore, 1) := by decide +kernel
theorem dX9_chase_216 : decode cX9_chase 216 = .ok (.aload_n 0, 1) := by decide +kernel
theorem dX9_chase_217 : decode cX9_chase 217 = .ok (.getfield 73, 3) := by decide +kernel
theorem dX9_chase_220 : decode cX9_chase 220 = .ok (.iload 4, 2) := by decide +kernel
theorem dX9_chase_222 : decode cX9_chase 222 = .ok (.aload_n 0, 1) := by decide +kernel
theorem dX9_chase_223 : decode cX9_chase 223 = .ok (.getfield 124, 3) := by decide +kernel
theorem dX9_chase_226 : decode cX9_chase 226 = .ok (.iconst 4, 1) := by decide +kernel
theorem dX9_chase_227 : decode cX9_chase 227 = .ok (.iload 4, 2) := by decide +kernel
theorem dX9_chase_229 : decode cX9_chase 229 = .ok (.iadd, 1) := by decide +kernel
theorem dX9_chase_230 : decode cX9_chase 230 = .ok (.iaload, 1) := by decide +kernel
theorem dX9_chase_231 : decode cX9_chase 231 = .ok (.iastore, 1) := by decide +kernel
theorem dX9_chase_232 : decode cX9_chase 232 = .ok (.iinc 4 1, 3) := by decide +kernel
theorem dX9_chase_235 : decode cX9_chase 235 = .ok (.goto (-42), 3) := by decide +kernel
theorem dX9_chase_238 : decode cX9_chase 238 = .ok (.iload_n 3, 1) := by decide +kernel
theorem dX9_chase_239 : decode cX9_chase 239 = .ok (.ireturn, 1) := by decide +kernel
theorem dX9_asksLaws_0 : decode cX9_asksLaws 0 = .ok (.aload_n 0, 1) := by decide +kernel
theorem dX9_asksLaws_1 : decode cX9_asksLaws 1 = .ok (.getfield 67, 3) := by decide +kernel
theorem dX9_asksLaws_4 : decode cX9_asksLaws 4 = .ok (.istore_n 2, 1) := by decide +kernel
theorem dX9_asksLaws_5 : decode cX9_asksLaws 5 = .ok (.aload_n 0, 1) := by decide +kernel
theorem dX9_asksLaws_6 : decode cX9_asksLaws 6 = .ok (.iconst (-1), 1) := by decide +kernel
theorem dX9_asksLaws_7 : decode cX9_asksLaws 7 = .ok (.putfield 452, 3) := by decide +kernel
theorem dX9_asksLaws_10 : decode cX9_asksLaws 10 = .ok (.aload_n 0, 1) := by decide +kernel
theorem dX9_asksLaws_11 : decode cX9_asksLaws 11 = .ok (.iconst (-1), 1) := by decide +kernel
theorem dX9_asksLaws_12 : decode cX9_asksLaws 12 = .ok (.putfield 455, 3) := by decide +kernel
theorem dX9_asksLaws_15 : decode cX9_asksLaws 15 = .ok (.aload_n 0, 1) := by decide +kernel
theorem dX9_asksLaws_16 : decode cX9_asksLaws 16 = .ok (.invokevirtual 361, 3) := by decide +kernel
theorem dX9_asksLaws_19 : decode cX9_asksLaws 19 = .ok (.iconst (-1), 1) := by decide +kernel
theorem dX9_asksLaws_20 : decode cX9_asksLaws 20 = .ok (.istore_n 3, 1) := by decide +kernel
theorem dX9_asksLaws_21 : decode cX9_asksLaws 21 = .ok (.iload_n 3, 1) := by decide +kernel
theorem dX9_asksLaws_22 : decode cX9_asksLaws 22 = .ok (.aload_n 0, 1) := by decide +kernel
theorem dX9_asksLaws_23 : decode cX9_asksLaws 23 = .ok (.getfield 278, 3) := by decide +kernel
theorem dX9_asksLaws_26 : decode cX9_asksLaws 26 = .ok (.if_icmp .ge 95, 3) := by decide +kernel
theorem dX9_asksLaws_29 : decode cX9_asksLaws 29 = .ok (.aload_n 0, 1) := by decide +kernel
theorem dX9_asksLaws_30 : decode cX9_asksLaws 30 = .ok (.iload_n 3, 1) := by decide +kernel
theorem dX9_asksLaws_31 : decode cX9_asksLaws 31 = .ok (.putfield 67, 3) := by decide +kernel
theorem dX9_asksLaws_34 : decode cX9_asksLaws 34 = .ok (.aload_n 0, 1) := by decide +kernel
theorem dX9_asksLaws_35 : decode cX9_asksLaws 35 = .ok (.invokevirtual 389, 3) := by decide +kernel
theorem dX9_asksLaws_38 : decode cX9_asksLaws 38 = .ok (.ifCond .ne 6, 3) := by decide +kernel
theorem dX9_asksLaws_41 : decode cX9_asksLaws 41 = .ok (.goto 74, 3) := by decide +kernel
theorem dX9_asksLaws_44 : decode cX9_asksLaws 44 = .ok (.aload_n 0, 1) := by decide +kernel
theorem dX9_asksLaws_45 : decode cX9_asksLaws 45 = .ok (.invokevirtual 339, 3) := by decide +kernel
theorem dX9_asksLaws_48 : decode cX9_asksLaws 48 = .ok (.aload_n 0, 1) := by decide +kernel
theorem dX9_asksLaws_49 : decode cX9_asksLaws 49 = .ok (.aload_n 0, 1) := by decide +kernel
theorem dX9_asksLaws_50 : decode cX9_asksLaws 50 = .ok (.getfield 383, 3) := by decide +kernel
theorem dX9_asksLaws_53 : decode cX9_asksLaws 53 = .ok (.iconst 1, 1) := by decide +kernel
theorem dX9_asksLaws_54 : decode cX9_asksLaws 54 = .ok (.invokevirtual 345, 3) := by decide +kernel
theorem dX9_asksLaws_57 : decode cX9_asksLaws 57 = .ok (.aload_n 0, 1) := by decide +kernel
theorem dX9_asksLaws_58 : decode cX9_asksLaws 58 = .ok (.invokevirtual 348, 3) := by decide +kernel
theorem dX9_asksLaws_61 : decode cX9_asksLaws 61 = .ok (.aload_n 0, 1) := by decide +kernel
theorem dX9_asksLaws_62 : decode cX9_asksLaws 62 = .ok (.iload_n 1, 1) := by decide +kernel
theorem dX9_asksLaws_63 : decode cX9_asksLaws 63 = .ok (.invokevirtual 397, 3) := by decide +kernel
theorem dX9_asksLaws_66 : decode cX9_asksLaws 66 = .ok (.istore 4, 2) := by decide +kernel
theorem dX9_asksLaws_68 : decode cX9_asksLaws 68 = .ok (.iload 4, 2) := by decide +kernel
theorem dX9_asksLaws_70 : decode cX9_asksLaws 70 = .ok (.iconst (-1), 1) := by decide +kernel
theorem dX9_asksLaws_71 : decode cX9_asksLaws 71 = .ok (.if_icmp .eq 44, 3) := by decide +kernel
theorem dX9_asksLaws_74 : decode cX9_asksLaws 74 = .ok (.aload_n 0, 1) := by decide +kernel
theorem dX9_asksLaws_75 : decode cX9_asksLaws 75 = .ok (.getfield 452, 3) := by decide +kernel
theorem dX9_asksLaws_78 : decode cX9_asksLaws 78 = .ok (.iconst (-1), 1) := by decide +kernel
theorem dX9_asksLaws_79 : decode cX9_asksLaws 79 = .ok (.if_icmp .eq 15, 3) := by decide +kernel
theorem dX9_asksLaws_82 : decode cX9_asksLaws 82 = .ok (.iload 4, 2) := by decide +kernel
theorem dX9_asksLaws_84 : decode cX9_asksLaws 84 = .ok (.aload_n 0, 1) := by decide +kernel
theorem dX9_asksLaws_85 : decode cX9_asksLaws 85 = .ok (.getfield 455, 3) := by decide +kernel
theorem dX9_asksLaws_88 : decode cX9_asksLaws 88 = .ok (.if_icmp .lt 6, 3) := by decide +kernel
theorem dX9_asksLaws_91 : decode cX9_asksLaws 91 = .ok (.goto 24, 3) := by decide +kernel
theorem dX9_asksLaws_94 : decode cX9_asksLaws 94 = .ok (.aload_n 0, 1) := by decide +kernel
theorem dX9_asksLaws_95 : decode cX9_asksLaws 95 = .ok (.iload_n 3, 1) := by decide +kernel
theorem dX9_asksLaws_96 : decode cX9_asksLaws 96 = .ok (.iconst (-1), 1) := by decide +kernel
theorem dX9_asksLaws_97 : decode cX9_asksLaws 97 = .ok (.if_icmp .ne 8, 3) := by decide +kernel
theorem dX9_asksLaws_100 : decode cX9_asksLaws 100 = .ok (.bipush 9, 2) := by decide +kernel
theorem dX9_asksLaws_102 : decode cX9_asksLaws 102 = .ok (.goto 4, 3) := by decide +kernel
theorem dX9_asksLaws_105 : decode cX9_asksLaws 105 = .ok (.iload_n 3, 1) := by decide +kernel
theorem dX9_asksLaws_106 : decode cX9_asksLaws 106 = .ok (.putfield 452, 3) := by decide +kernel
theorem dX9_asksLaws_109 : decode cX9_asksLaws 109 = .ok (.aload_n 0, 1) := by decide +kernel
theorem dX9_asksLaws_110 : decode cX9_asksLaws 110 = .ok (.iload 4, 2) := by decide +kernel
theorem dX9_asksLaws_112 : decode cX9_asksLaws 112 = .ok (.putfield 455, 3) := by decide +kernel
theorem dX9_asksLaws_115 : decode cX9_asksLaws 115 = .ok (.iinc 3 1, 3) := by decide +kernel
theorem dX9_asksLaws_118 : decode cX9_asksLaws 118 = .ok (.goto (-97), 3) := by decide +kernel
theorem dX9_asksLaws_121 : decode cX9_asksLaws 121 = .ok (.aload_n 0, 1) := by decide +kernel
theorem dX9_asksLaws_122 : decode cX9_asksLaws 122 = .ok (.iload_n 2, 1) := by decide +kernel
theorem dX9_asksLaws_123 : decode cX9_asksLaws 123 = .ok (.putfield 67, 3) := by decide +kernel
theorem dX9_asksLaws_126 : decode cX9_asksLaws 126 = .ok (.return_, 1) := by decide +kernel
theorem dX9_bestLaw_0 : decode cX9_bestLaw 0 = .ok (.aload_n 0, 1) := by decide +kernel
theorem dX9_bestLaw_1 : decode cX9_bestLaw 1 = .ok (.iload_n 1, 1) := by decide +kernel
theorem dX9_bestLaw_2 : decode cX9_bestLaw 2 = .ok (.invokevirtual 392, 3) := by decide +kernel
theorem dX9_bestLaw_5 : decode cX9_bestLaw 5 = .ok (.ifCond .eq 12, 3) := by decide +kernel
theorem dX9_bestLaw_8 : decode cX9_bestLaw 8 = .ok (.iload_n 2, 1) := by decide +kernel
theorem dX9_bestLaw_9 : decode cX9_bestLaw 9 = .ok (.iconst 0, 1) := by decide +kernel
theorem dX9_bestLaw_10 : decode cX9_bestLaw 10 = .ok (.iconst 1, 1) := by decide +kernel
theorem dX9_bestLaw_11 : decode cX9_bestLaw 11 = .ok (.invokestatic 156, 3) := by decide +kernel
theorem dX9_bestLaw_14 : decode cX9_bestLaw 14 = .ok (.ifCond .ne 5, 3) := by decide +kernel
theorem dX9_bestLaw_17 : decode cX9_bestLaw 17 = .ok (.iconst (-1), 1) := by decide +kernel
theorem dX9_bestLaw_18 : decode cX9_bestLaw 18 = .ok (.ireturn, 1) := by decide +kernel
theorem dX9_bestLaw_19 : decode cX9_bestLaw 19 = .ok (.aload_n 0, 1) := by decide +kernel
theorem dX9_bestLaw_20 : decode cX9_bestLaw 20 = .ok (.iload_n 1, 1) := by decide +kernel
theorem dX9_bestLaw_21 : decode cX9_bestLaw 21 = .ok (.invokevirtual 458, 3) := by decide +kernel
theorem dX9_bestLaw_24 : decode cX9_bestLaw 24 = .ok (.iload_n 2, 1) := by decide +kernel
theorem dX9_bestLaw_25 : decode cX9_bestLaw 25 = .ok (.ifCond .ne 10, 3) := by decide +kernel
theorem dX9_bestLaw_28 : decode cX9_bestLaw 28 = .ok (.aload_n 0, 1) := by decide +kernel
theorem dX9_bestLaw_29 : decode cX9_bestLaw 29 = .ok (.getfield 452, 3) := by decide +kernel
theorem dX9_bestLaw_32 : decode cX9_bestLaw 32 = .ok (.goto 7, 3) := by decide +kernel
theorem dX9_bestLaw_35 : decode cX9_bestLaw 35 = .ok (.aload_n 0, 1) := by decide +kernel
theorem dX9_bestLaw_36 : decode cX9_bestLaw 36 = .ok (.getfield 455, 3) := by decide +kernel
theorem dX9_bestLaw_39 : decode cX9_bestLaw 39 = .ok (.ireturn, 1) := by decide +kernel
theorem dX9_edge_0 : decode cX9_edge 0 = .ok (.aload_n 0, 1) := by decide +kernel
theorem dX9_edge_1 : decode cX9_edge 1 = .ok (.iload_n 1, 1) := by decide +kernel
theorem dX9_edge_2 : decode cX9_edge 2 = .ok (.invokevirtual 287, 3) := by decide +kernel
theorem dX9_edge_5 : decode cX9_edge 5 = .ok (.ifCond .ne 5, 3) := by decide +kernel
theorem dX9_edge_8 : decode cX9_edge 8 = .ok (.iconst (-1), 1) := by decide +kernel
theorem dX9_edge_9 : decode cX9_edge 9 = .ok (.ireturn, 1) := by decide +kernel
theorem dX9_edge_10 : decode cX9_edge 10 = .ok (.aload_n 0, 1) := by decide +kernel
theorem dX9_edge_11 : decode cX9_edge 11 = .ok (.invokevirtual 361, 3) := by decide +kernel
theorem dX9_edge_14 : decode cX9_edge 14 = .ok (.aload_n 0, 1) := by decide +kernel
theorem dX9_edge_15 : decode cX9_edge 15 = .ok (.getfield 23, 3) := by decide +kernel
theorem dX9_edge_18 : decode cX9_edge 18 = .ok (.iload_n 1, 1) := by decide +kernel
theorem dX9_edge_19 : decode cX9_edge 19 = .ok (.iaload, 1) := by decide +kernel
theorem dX9_edge_20 : decode cX9_edge 20 = .ok (.istore_n 2, 1) := by decide +kernel
theorem dX9_edge_21 : decode cX9_edge 21 = .ok (.aload_n 0, 1) := by decide +kernel
theorem dX9_edge_22 : decode cX9_edge 22 = .ok (.invokevirtual 389, 3) := by decide +kernel
theorem dX9_edge_25 : decode cX9_edge 25 = .ok (.istore_n 3, 1) := by decide +kernel
theorem dX9_edge_26 : decode cX9_edge 26 = .ok (.aload_n 0, 1) := by decide +kernel
theorem dX9_edge_27 : decode cX9_edge 27 = .ok (.getfield 383, 3) := by decide +kernel
theorem dX9_edge_30 : decode cX9_edge 30 = .ok (.istore 4, 2) := by decide +kernel
theorem dX9_edge_32 : decode cX9_edge 32 = .ok (.iconst (-1), 1) := by decide +kernel
theorem dX9_edge_33 : decode cX9_edge 33 = .ok (.istore 5, 2) := by decide +kernel
theorem dX9_edge_35 : decode cX9_edge 35 = .ok (.iload_n 2, 1) := by decide +kernel
theorem dX9_edge_36 : decode cX9_edge 36 = .ok (.iconst 1, 1) := by decide +kernel
theorem dX9_edge_37 : decode cX9_edge 37 = .ok (.iadd, 1) := by decide +kernel
theorem dX9_edge_38 : decode cX9_edge 38 = .ok (.istore 6, 2) := by decide +kernel
theorem dX9_edge_40 : decode cX9_edge 40 = .ok (.iload 6, 2) := by decide +kernel
theorem dX9_edge_42 : decode cX9_edge 42 = .ok (.bipush 99, 2) := by decide +kernel
theorem dX9_edge_44 : decode cX9_edge 44 = .ok (.iload_n 2, 1) := by decide +kernel
theorem dX9_edge_45 : decode cX9_edge 45 = .ok (.bipush 20, 2) := by decide +kernel
theorem dX9_edge_47 : decode cX9_edge 47 = .ok (.iadd, 1) := by decide +kernel
theorem dX9_edge_48 : decode cX9_edge 48 = .ok (.invokestatic 400, 3) := by decide +kernel
theorem dX9_edge_51 : decode cX9_edge 51 = .ok (.if_icmp .gt 44, 3) := by decide +kernel
theorem dX9_edge_54 : decode cX9_edge 54 = .ok (.iload 5, 2) := by decide +kernel
theorem dX9_edge_56 : decode cX9_edge 56 = .ok (.iconst (-1), 1) := by decide +kernel
theorem dX9_edge_57 : decode cX9_edge 57 = .ok (.if_icmp .ne 38, 3) := by decide +kernel
theorem dX9_edge_60 : decode cX9_edge 60 = .ok (.aload_n 0, 1) := by decide +kernel
theorem dX9_edge_61 : decode cX9_edge 61 = .ok (.getfield 23, 3) := by decide +kernel
theorem dX9_edge_64 : decode cX9_edge 64 = .ok (.iload_n 1, 1) := by decide +kernel
theorem dX9_edge_65 : decode cX9_edge 65 = .ok (.iload 6, 2) := by decide +kernel
theorem dX9_edge_67 : decode cX9_edge 67 = .ok (.iastore, 1) := by decide +kernel
theorem dX9_edge_68 : decode cX9_edge 68 = .ok (.aload_n 0, 1) := by decide +kernel
theorem dX9_edge_69 : decode cX9_edge 69 = .ok (.invokevirtual 389, 3) := by decide +kernel
theorem dX9_edge_72 : decode cX9_edge 72 = .ok (.iload_n 3, 1) := by decide +kernel
theorem dX9_edge_73 : decode cX9_edge 73 = .ok (.if_icmp .ne 12, 3) := by decide +kernel
theorem dX9_edge_76 : decode cX9_edge 76 = .ok (.aload_n 0, 1) := by decide +kernel
theorem dX9_edge_77 : decode cX9_edge 77 = .ok (.getfield 383, 3) := by decide +kernel
theorem dX9_edge_80 : decode cX9_edge 80 = .ok (.iload 4, 2) := by decide +kernel
theorem dX9_edge_82 : decode cX9_edge 82 = .ok (.if_icmp .eq 7, 3) := by decide +kernel
theorem dX9_edge_85 : decode cX9_edge 85 = .ok (.iload 6, 2) := by decide +kernel
theorem dX9_edge_87 : decode cX9_edge 87 = .ok (.istore 5, 2) := by decide +kernel
theorem dX9_edge_89 : decode cX9_edge 89 = .ok (.iinc 6 1, 3) := by decide +kernel
theorem dX9_edge_92 : decode cX9_edge 92 = .ok (.goto (-52), 3) := by decide +kernel
theorem dX9_edge_95 : decode cX9_edge 95 = .ok (.aload_n 0, 1) := by decide +kernel
theorem dX9_edge_96 : decode cX9_edge 96 = .ok (.getfield 23, 3) := by decide +kernel
theorem dX9_edge_99 : decode cX9_edge 99 = .ok (.iload_n 1, 1) := by decide +kernel
theorem dX9_edge_100 : decode cX9_edge 100 = .ok (.iload_n 2, 1) := by decide +kernel
theorem dX9_edge_101 : decode cX9_edge 101 = .ok (.iastore, 1) := by decide +kernel
theorem dX9_edge_102 : decode cX9_edge 102 = .ok (.iload 5, 2) := by decide +kernel
theorem dX9_edge_104 : decode cX9_edge 104 = .ok (.ireturn, 1) := by decide +kernel
theorem dX9_drawn_0 : decode cX9_drawn 0 = .ok (.aload_n 0, 1) := by decide +kernel
theorem dX9_drawn_1 : decode cX9_drawn 1 = .ok (.aload_n 0, 1) := by decide +kernel
theorem dX9_drawn_2 : decode cX9_drawn 2 = .ok (.getfield 461, 3) := by decide +kernel
theorem dX9_drawn_5 : decode cX9_drawn 5 = .ok (.ldc2_w 464, 3) := by decide +kernel
theorem dX9_drawn_8 : decode cX9_drawn 8 = .ok (.lmul, 1) := by decide +kernel
theorem dX9_drawn_9 : decode cX9_drawn 9 = .ok (.ldc2_w 466, 3) := by decide +kernel
theorem dX9_drawn_12 : decode cX9_drawn 12 = .ok (.ladd, 1) := by decide +kernel
theorem dX9_drawn_13 : decode cX9_drawn 13 = .ok (.putfield 461, 3) := by decide +kernel
theorem dX9_drawn_16 : decode cX9_drawn 16 = .ok (.aload_n 0, 1) := by decide +kernel
theorem dX9_drawn_17 : decode cX9_drawn 17 = .ok (.getfield 461, 3) := by decide +kernel
theorem dX9_drawn_20 : decode cX9_drawn 20 = .ok (.bipush 33, 2) := by decide +kernel
theorem dX9_drawn_22 : decode cX9_drawn 22 = .ok (.lushr, 1) := by decide +kernel
theorem dX9_drawn_23 : decode cX9_drawn 23 = .ok (.ldc2_w 418, 3) := by decide +kernel
theorem dX9_drawn_26 : decode cX9_drawn 26 = .ok (.lrem, 1) := by decide +kernel
theorem dX9_drawn_27 : decode cX9_drawn 27 = .ok (.l2i, 1) := by decide +kernel
theorem dX9_drawn_28 : decode cX9_drawn 28 = .ok (.istore_n 2, 1) := by decide +kernel
theorem dX9_drawn_29 : decode cX9_drawn 29 = .ok (.iconst 0, 1) := by decide +kernel
theorem dX9_drawn_30 : decode cX9_drawn 30 = .ok (.istore_n 3, 1) := by decide +kernel
theorem dX9_drawn_31 : decode cX9_drawn 31 = .ok (.iconst 0, 1) := by decide +kernel
theorem dX9_drawn_32 : decode cX9_drawn 32 = .ok (.istore 4, 2) := by decide +kernel
theorem dX9_drawn_34 : decode cX9_drawn 34 = .ok (.iload 4, 2) := by decide +kernel
theorem dX9_drawn_36 : decode cX9_drawn 36 = .ok (.bipush 8, 2) := by decide +kernel
theorem dX9_drawn_38 : decode cX9_drawn 38 = .ok (.if_icmp .ge 32, 3) := by decide +kernel
theorem dX9_drawn_41 : decode cX9_drawn 41 = .ok (.iload_n 3, 1) := by decide +kernel
theorem dX9_drawn_42 : decode cX9_drawn 42 = .ok (.aload_n 0, 1) := by decide +kernel
theorem dX9_drawn_43 : decode cX9_drawn 43 = .ok (.getfield 79, 3) := by decide +kernel
theorem dX9_drawn_46 : decode cX9_drawn 46 = .ok (.bipush 8, 2) := by decide +kernel
theorem dX9_drawn_48 : decode cX9_drawn 48 = .ok (.iload_n 1, 1) := by decide +kernel
theorem dX9_drawn_49 : decode cX9_drawn 49 = .ok (.imul, 1) := by decide +kernel
theorem dX9_drawn_50 : decode cX9_drawn 50 = .ok (.iload 4, 2) := by decide +kernel
theorem dX9_drawn_52 : decode cX9_drawn 52 = .ok (.iadd, 1) := by decide +kernel
theorem dX9_drawn_53 : decode cX9_drawn 53 = .ok (.iaload, 1) := by decide +kernel
theorem dX9_drawn_54 : decode cX9_drawn 54 = .ok (.iadd, 1) := by decide +kernel
theorem dX9_drawn_55 : decode cX9_drawn 55 = .ok (.istore_n 3, 1) := by decide +kernel
theorem dX9_drawn_56 : decode cX9_drawn 56 = .ok (.iload_n 3, 1) := by decide +kernel
theorem dX9_drawn_57 : decode cX9_drawn 57 = .ok (.iload_n 2, 1) := by decide +kernel
theorem dX9_drawn_58 : decode cX9_drawn 58 = .ok (.if_icmp .le 6, 3) := by decide +kernel
theorem dX9_drawn_61 : decode cX9_drawn 61 = .ok (.iload 4, 2) := by decide +kernel
theorem dX9_drawn_63 : decode cX9_drawn 63 = .ok (.ireturn, 1) := by decide +kernel
theorem dX9_drawn_64 : decode cX9_drawn 64 = .ok (.iinc 4 1, 3) := by decide +kernel
theorem dX9_drawn_67 : decode cX9_drawn 67 = .ok (.goto (-33), 3) := by decide +kernel
theorem dX9_drawn_70 : decode cX9_drawn 70 = .ok (.bipush 7, 2) := by decide +kernel
theorem dX9_drawn_72 : decode cX9_drawn 72 = .ok (.ireturn, 1) := by decide +kernel
theorem dX9_run_0 : decode cX9_run 0 = .ok (.iload_n 3, 1) := by decide +kernel
theorem dX9_run_1 : decode cX9_run 1 = .ok (.bipush 10, 2) := by decide +kernel
theorem dX9_run_3 : decode cX9_run 3 = .ok (.bipush 9, 2) := by decide +kernel
theorem dX9_run_5 : decode cX9_run 5 = .ok (.aload_n 0, 1) := by decide +kernel
theorem dX9_run_6 : decode cX9_run 6 = .ok (.getfield 260, 3) := by decide +kernel
theorem dX9_run_9 : decode cX9_run 9 = .ok (.iadd, 1) := by decide +kernel
theorem dX9_run_10 : decode cX9_run 10 = .ok (.invokestatic 156, 3) := by decide +kernel
theorem dX9_run_13 : decode cX9_run 13 = .ok (.ifCond .ne 35, 3) := by decide +kernel
theorem dX9_run_16 : decode cX9_run 16 = .ok (.iload_n 3, 1) := by decide +kernel
theorem dX9_run_17 : decode cX9_run 17 = .ok (.bipush 20, 2) := by decide +kernel
theorem dX9_run_19 : decode cX9_run 19 = .ok (.bipush 19, 2) := by decide +kernel
theorem dX9_run_21 : decode cX9_run 21 = .ok (.aload_n 0, 1) := by decide +kernel
theorem dX9_run_22 : decode cX9_run 22 = .ok (.getfield 260, 3) := by decide +kernel
theorem dX9_run_25 : decode cX9_run 25 = .ok (.iadd, 1) := by decide +kernel
theorem dX9_run_26 : decode cX9_run 26 = .ok (.invokestatic 156, 3) := by decide +kernel
theorem dX9_run_29 : decode cX9_run 29 = .ok (.ifCond .ne 19, 3) := by decide +kernel
theorem dX9_run_32 : decode cX9_run 32 = .ok (.iload_n 3, 1) := by decide +kernel
theorem dX9_run_33 : decode cX9_run 33 = .ok (.bipush 30, 2) := by decide +kernel
theorem dX9_run_35 : decode cX9_run 35 = .ok (.bipush 29, 2) := by decide +kernel
theorem dX9_run_37 : decode cX9_run 37 = .ok (.aload_n 0, 1) := by decide +kernel
theorem dX9_run_38 : decode cX9_run 38 = .ok (.getfield 263, 3) := by decide +kernel
theorem dX9_run_41 : decode cX9_run 41 = .ok (.iadd, 1) := by decide +kernel
theorem dX9_run_42 : decode cX9_run 42 = .ok (.invokestatic 156, 3) := by decide +kernel
theorem dX9_run_45 : decode cX9_run 45 = .ok (.ifCond .eq 7, 3) := by decide +kernel
theorem dX9_run_48 : decode cX9_run 48 = .ok (.iconst 1, 1) := by decide +kernel
theorem dX9_run_49 : decode cX9_run 49 = .ok (.goto 4, 3) := by decide +kernel
theorem dX9_run_52 : decode cX9_run 52 = .ok (.iconst 0, 1) := by decide +kernel
theorem dX9_run_53 : decode cX9_run 53 = .ok (.istore 4, 2) := by decide +kernel
theorem dX9_run_55 : decode cX9_run 55 = .ok (.iload_n 1, 1) := by decide +kernel
theorem dX9_run_56 : decode cX9_run 56 = .ok (.iconst 0, 1) := by decide +kernel
theorem dX9_run_57 : decode cX9_run 57 = .ok (.ldc_w 468, 3) := by decide +kernel
theorem dX9_run_60 : decode cX9_run 60 = .ok (.invokestatic 156, 3) := by decide +kernel
theorem dX9_run_63 : decode cX9_run 63 = .ok (.ifCond .eq 26, 3) := by decide +kernel
theorem dX9_run_66 : decode cX9_run 66 = .ok (.iload_n 2, 1) := by decide +kernel
theorem dX9_run_67 : decode cX9_run 67 = .ok (.iconst 1, 1) := by decide +kernel
theorem dX9_run_68 : decode cX9_run 68 = .ok (.sipush 400, 3) := by decide +kernel
theorem dX9_run_71 : decode cX9_run 71 = .ok (.invokestatic 156, 3) := by decide +kernel
theorem dX9_run_74 : decode cX9_run 74 = .ok (.ifCond .eq 15, 3) := by decide +kernel
theorem dX9_run_77 : decode cX9_run 77 = .ok (.iload 4, 2) := by decide +kernel
theorem dX9_run_79 : decode cX9_run 79 = .ok (.ifCond .eq 10, 3) := by decide +kernel
theorem dX9_run_82 : decode cX9_run 82 = .ok (.aload_n 0, 1) := by decide +kernel
theorem dX9_run_83 : decode cX9_run 83 = .ok (.invokevirtual 367, 3) := by decide +kernel
theorem dX9_run_86 : decode cX9_run 86 = .ok (.ifCond .ne 7, 3) := by decide +kernel
theorem dX9_run_89 : decode cX9_run 89 = .ok (.ldc2_w 370, 3) := by decide +kernel
theorem dX9_run_92 : decode cX9_run 92 = .ok (.lreturn, 1) := by decide +kernel
theorem dX9_run_93 : decode cX9_run 93 = .ok (.aload_n 0, 1) := by decide +kernel
theorem dX9_run_94 : decode cX9_run 94 = .ok (.iload_n 1, 1) := by decide +kernel
theorem dX9_run_95 : decode cX9_run 95 = .ok (.i2l, 1) := by decide +kernel
theorem dX9_run_96 : decode cX9_run 96 = .ok (.putfield 461, 3) := by decide +kernel
theorem dX9_run_99 : decode cX9_run 99 = .ok (.aload_n 0, 1) := by decide +kernel
theorem dX9_run_100 : decode cX9_run 100 = .ok (.lconst 1, 1) := by decide +kernel
theorem dX9_run_101 : decode cX9_run 101 = .ok (.putfield 331, 3) := by decide +kernel
theorem dX9_run_104 : decode cX9_run 104 = .ok (.aload_n 0, 1) := by decide +kernel
theorem dX9_run_105 : decode cX9_run 105 = .ok (.invokevirtual 339, 3) := by decide +kernel
theorem dX9_run_108 : decode cX9_run 108 = .ok (.lconst 0, 1) := by decide +kernel
theorem dX9_run_109 : decode cX9_run 109 = .ok (.lstore 5, 2) := by decide +kernel
theorem dX9_run_111 : decode cX9_run 111 = .ok (.iconst 0, 1) := by decide +kernel
theorem dX9_run_112 : decode cX9_run 112 = .ok (.istore 7, 2) := by decide +kernel
theorem dX9_run_114 : decode cX9_run 114 = .ok (.iload 7, 2) := by decide +kernel
theorem dX9_run_116 : decode cX9_run 116 = .ok (.iload_n 2, 1) := by decide +kernel
theorem dX9_run_117 : decode cX9_run 117 = .ok (.if_icmp .ge 112, 3) := by decide +kernel
theorem dX9_run_120 : decode cX9_run 120 = .ok (.iconst 0, 1) := by decide +kernel
theorem dX9_run_121 : decode cX9_run 121 = .ok (.istore 8, 2) := by decide +kernel
theorem dX9_run_123 : decode cX9_run 123 = .ok (.iload 8, 2) := by decide +kernel
theorem dX9_run_125 : decode cX9_run 125 = .ok (.aload_n 0, 1) := by decide +kernel
theorem dX9_run_126 : decode cX9_run 126 = .ok (.getfield 260, 3) := by decide +kernel
theorem dX9_run_129 : decode cX9_run 129 = .ok (.if_icmp .ge 22, 3) := by decide +kernel
theorem dX9_run_132 : decode cX9_run 132 = .ok (.aload_n 0, 1) := by decide +kernel
theorem dX9_run_133 : decode cX9_run 133 = .ok (.getfield 88, 3) := by decide +kernel
theorem dX9_run_136 : decode cX9_run 136 = .ok (.iload 8, 2) := by decide +kernel
theorem dX9_run_138 : decode cX9_run 138 = .ok (.aload_n 0, 1) := by decide +kernel
theorem dX9_run_139 : decode cX9_run 139 = .ok (.iload 8, 2) := by decide +kernel
theorem dX9_run_141 : decode cX9_run 141 = .ok (.invokevirtual 469, 3) := by decide +kernel
theorem dX9_run_144 : decode cX9_run 144 = .ok (.iastore, 1) := by decide +kernel
theorem dX9_run_145 : decode cX9_run 145 = .ok (.iinc 8 1, 3) := by decide +kernel
theorem dX9_run_148 : decode cX9_run 148 = .ok (.goto (-25), 3) := by decide +kernel
theorem dX9_run_151 : decode cX9_run 151 = .ok (.aload_n 0, 1) := by decide +kernel
theorem dX9_run_152 : decode cX9_run 152 = .ok (.invokevirtual 348, 3) := by decide +kernel
theorem dX9_run_155 : decode cX9_run 155 = .ok (.iload_n 3, 1) := by decide +kernel
theorem dX9_run_156 : decode cX9_run 156 = .ok (.bipush 20, 2) := by decide +kernel
theorem dX9_run_158 : decode cX9_run 158 = .ok (.if_icmp .ge 40, 3) := by decide +kernel
theorem dX9_run_161 : decode cX9_run 161 = .ok (.lload 5, 2) := by decide +kernel
theorem dX9_run_163 : decode cX9_run 163 = .ok (.aload_n 0, 1) := by decide +kernel
theorem dX9_run_164 : decode cX9_run 164 = .ok (.getfield 88, 3) := by decide +kernel
theorem dX9_run_167 : decode cX9_run 167 = .ok (.iload_n 3, 1) := by decide +kernel
theorem dX9_run_168 : decode cX9_run 168 = .ok (.bipush 10, 2) := by decide +kernel
theorem dX9_run_170 : decode cX9_run 170 = .ok (.isub, 1) := by decide +kernel
theorem dX9_run_171 : decode cX9_run 171 = .ok (.iaload, 1) := by decide +kernel
theorem dX9_run_172 : decode cX9_run 172 = .ok (.aload_n 0, 1) := by decide +kernel
theorem dX9_run_173 : decode cX9_run 173 = .ok (.aload_n 0, 1) := by decide +kernel
theorem dX9_run_174 : decode cX9_run 174 = .ok (.invokevirtual 323, 3) := by decide +kernel
theorem dX9_run_177 : decode cX9_run 177 = .ok (.invokevirtual 309, 3) := by decide +kernel
theorem dX9_run_180 : decode cX9_run 180 = .ok (.if_icmp .ne 7, 3) := by decide +kernel
theorem dX9_run_183 : decode cX9_run 183 = .ok (.iconst 1, 1) := by decide +kernel
theorem dX9_run_184 : decode cX9_run 184 = .ok (.goto 4, 3) := by decide +kernel
theorem dX9_run_187 : decode cX9_run 187 = .ok (.iconst 0, 1) := by decide +kernel
theorem dX9_run_188 : decode cX9_run 188 = .ok (.invokestatic 472, 3) := by decide +kernel
theorem dX9_run_191 : decode cX9_run 191 = .ok (.i2l, 1) := by decide +kernel
theorem dX9_run_192 : decode cX9_run 192 = .ok (.ladd, 1) := by decide +kernel
theorem dX9_run_193 : decode cX9_run 193 = .ok (.lstore 5, 2) := by decide +kernel
theorem dX9_run_195 : decode cX9_run 195 = .ok (.goto 28, 3) := by decide +kernel
theorem dX9_run_198 : decode cX9_run 198 = .ok (.iload_n 3, 1) := by decide +kernel
theorem dX9_run_199 : decode cX9_run 199 = .ok (.bipush 30, 2) := by decide +kernel
theorem dX9_run_201 : decode cX9_run 201 = .ok (.if_icmp .ge 22, 3) := by decide +kernel
theorem dX9_run_204 : decode cX9_run 204 = .ok (.lload 5, 2) := by decide +kernel
theorem dX9_run_206 : decode cX9_run 206 = .ok (.aload_n 0, 1) := by decide +kernel
theorem dX9_run_207 : decode cX9_run 207 = .ok (.aload_n 0, 1) := by decide +kernel
theorem dX9_run_208 : decode cX9_run 208 = .ok (.getfield 88, 3) := by decide +kernel
theorem dX9_run_211 : decode cX9_run 211 = .ok (.iload_n 3, 1) := by decide +kernel
theorem dX9_run_212 : decode cX9_run 212 = .ok (.bipush 20, 2) := by decide +kernel
theorem dX9_run_214 : decode cX9_run 214 = .ok (.isub, 1) := by decide +kernel
theorem dX9_run_215 : decode cX9_run 215 = .ok (.iaload, 1) := by decide +kernel
theorem dX9_run_216 : decode cX9_run 216 = .ok (.invokevirtual 312, 3) := by decide +kernel
theorem dX9_run_219 : decode cX9_run 219 = .ok (.i2l, 1) := by decide +kernel
theorem dX9_run_220 : decode cX9_run 220 = .ok (.ladd, 1) := by decide +kernel
theorem dX9_run_221 : decode cX9_run 221 = .ok (.lstore 5, 2) := by decide +kernel
theorem dX9_run_223 : decode cX9_run 223 = .ok (.iinc 7 1, 3) := by decide +kernel
theorem dX9_run_226 : decode cX9_run 226 = .ok (.goto (-112), 3) := by decide +kernel
theorem dX9_run_229 : decode cX9_run 229 = .ok (.iload_n 3, 1) := by decide +kernel
theorem dX9_run_230 : decode cX9_run 230 = .ok (.bipush 30, 2) := by decide +kernel
theorem dX9_run_232 : decode cX9_run 232 = .ok (.if_icmp .ge 8, 3) := by decide +kernel
theorem dX9_run_235 : decode cX9_run 235 = .ok (.lload 5, 2) := by decide +kernel
theorem dX9_run_237 : decode cX9_run 237 = .ok (.goto 12, 3) := by decide +kernel
theorem dX9_run_240 : decode cX9_run 240 = .ok (.aload_n 0, 1) := by decide +kernel
theorem dX9_run_241 : decode cX9_run 241 = .ok (.getfield 97, 3) := by decide +kernel
theorem dX9_run_244 : decode cX9_run 244 = .ok (.iload_n 3, 1) := by decide +kernel
theorem dX9_run_245 : decode cX9_run 245 = .ok (.bipush 30, 2) := by decide +kernel
theorem dX9_run_247 : decode cX9_run 247 = .ok (.isub, 1) := by decide +kernel
theorem dX9_run_248 : decode cX9_run 248 = .ok (.laload, 1) := by decide +kernel
theorem dX9_run_249 : decode cX9_run 249 = .ok (.lreturn, 1) := by decide +kernel
theorem dX9_image_0 : decode cX9_image 0 = .ok (.aload_n 0, 1) := by decide +kernel
theorem dX9_image_1 : decode cX9_image 1 = .ok (.getfield 281, 3) := by decide +kernel
theorem dX9_image_4 : decode cX9_image 4 = .ok (.iconst 4, 1) := by decide +kernel
theorem dX9_image_5 : decode cX9_image 5 = .ok (.if_icmp .eq 10, 3) := by decide +kernel
theorem dX9_image_8 : decode cX9_image 8 = .ok (.aload_n 0, 1) := by decide +kernel
theorem dX9_image_9 : decode cX9_image 9 = .ok (.getfield 260, 3) := by decide +kernel
theorem dX9_image_12 : decode cX9_image 12 = .ok (.ifCond .ne 5, 3) := by decide +kernel
theorem dX9_image_15 : decode cX9_image 15 = .ok (.iconst (-1), 1) := by decide +kernel
theorem dX9_image_16 : decode cX9_image 16 = .ok (.ireturn, 1) := by decide +kernel
theorem dX9_image_17 : decode cX9_image 17 = .ok (.bipush 57, 2) := by decide +kernel
theorem dX9_image_19 : decode cX9_image 19 = .ok (.aload_n 0, 1) := by decide +kernel
theorem dX9_image_20 : decode cX9_image 20 = .ok (.getfield 281, 3) := by decide +kernel
theorem dX9_image_23 : decode cX9_image 23 = .ok (.imul, 1) := by decide +kernel
theorem dX9_image_24 : decode cX9_image 24 = .ok (.istore_n 1, 1) := by decide +kernel
theorem dX9_image_25 : decode cX9_image 25 = .ok (.aload_n 0, 1) := by decide +kernel
theorem dX9_image_26 : decode cX9_image 26 = .ok (.getfield 127, 3) := by decide +kernel
theorem dX9_image_29 : decode cX9_image 29 = .ok (.iload_n 1, 1) := by decide +kernel
theorem dX9_image_30 : decode cX9_image 30 = .ok (.aload_n 0, 1) := by decide +kernel
theorem dX9_image_31 : decode cX9_image 31 = .ok (.getfield 67, 3) := by decide +kernel
theorem dX9_image_34 : decode cX9_image 34 = .ok (.iastore, 1) := by decide +kernel
theorem dX9_image_35 : decode cX9_image 35 = .ok (.aload_n 0, 1) := by decide +kernel
theorem dX9_image_36 : decode cX9_image 36 = .ok (.getfield 127, 3) := by decide +kernel
theorem dX9_image_39 : decode cX9_image 39 = .ok (.iload_n 1, 1) := by decide +kernel
theorem dX9_image_40 : decode cX9_image 40 = .ok (.iconst 1, 1) := by decide +kernel
theorem dX9_image_41 : decode cX9_image 41 = .ok (.iadd, 1) := by decide +kernel
theorem dX9_image_42 : decode cX9_image 42 = .ok (.aload_n 0, 1) := by decide +kernel
theorem dX9_image_43 : decode cX9_image 43 = .ok (.getfield 275, 3) := by decide +kernel
theorem dX9_image_46 : decode cX9_image 46 = .ok (.iastore, 1) := by decide +kernel
theorem dX9_image_47 : decode cX9_image 47 = .ok (.iconst 0, 1) := by decide +kernel
theorem dX9_image_48 : decode cX9_image 48 = .ok (.istore_n 2, 1) := by decide +kernel
theorem dX9_image_49 : decode cX9_image 49 = .ok (.iload_n 2, 1) := by decide +kernel
theorem dX9_image_50 : decode cX9_image 50 = .ok (.iconst 4, 1) := by decide +kernel
theorem dX9_image_51 : decode cX9_image 51 = .ok (.if_icmp .ge 59, 3) := by decide +kernel
theorem dX9_image_54 : decode cX9_image 54 = .ok (.aload_n 0, 1) := by decide +kernel
theorem dX9_image_55 : decode cX9_image 55 = .ok (.getfield 127, 3) := by decide +kernel
theorem dX9_image_58 : decode cX9_image 58 = .ok (.iload_n 1, 1) := by decide +kernel
theorem dX9_image_59 : decode cX9_image 59 = .ok (.iconst 2, 1) := by decide +kernel
theorem dX9_image_60 : decode cX9_image 60 = .ok (.iadd, 1) := by decide +kernel
theorem dX9_image_61 : decode cX9_image 61 = .ok (.iload_n 2, 1) := by decide +kernel
theorem dX9_image_62 : decode cX9_image 62 = .ok (.iadd, 1) := by decide +kernel
theorem dX9_image_63 : decode cX9_image 63 = .ok (.aload_n 0, 1) := by decide +kernel
theorem dX9_image_64 : decode cX9_image 64 = .ok (.getfield 23, 3) := by decide +kernel
theorem dX9_image_67 : decode cX9_image 67 = .ok (.iload_n 2, 1) := by decide +kernel
theorem dX9_image_68 : decode cX9_image 68 = .ok (.iaload, 1) := by decide +kernel
theorem dX9_image_69 : decode cX9_image 69 = .ok (.iastore, 1) := by decide +kernel
theorem dX9_image_70 : decode cX9_image 70 = .ok (.aload_n 0, 1) := by decide +kernel
theorem dX9_image_71 : decode cX9_image 71 = .ok (.getfield 127, 3) := by decide +kernel
theorem dX9_image_74 : decode cX9_image 74 = .ok (.iload_n 1, 1) := by decide +kernel
theorem dX9_image_75 : decode cX9_image 75 = .ok (.bipush 6, 2) := by decide +kernel
theorem dX9_image_77 : decode cX9_image 77 = .ok (.iadd, 1) := by decide +kernel
theorem dX9_image_78 : decode cX9_image 78 = .ok (.iload_n 2, 1) := by decide +kernel
theorem dX9_image_79 : decode cX9_image 79 = .ok (.iadd, 1) := by decide +kernel
theorem dX9_image_80 : decode cX9_image 80 = .ok (.aload_n 0, 1) := by decide +kernel
theorem dX9_image_81 : decode cX9_image 81 = .ok (.getfield 70, 3) := by decide +kernel
theorem dX9_image_84 : decode cX9_image 84 = .ok (.iload_n 2, 1) := by decide +kernel
theorem dX9_image_85 : decode cX9_image 85 = .ok (.iaload, 1) := by decide +kernel
theorem dX9_image_86 : decode cX9_image 86 = .ok (.iastore, 1) := by decide +kernel
theorem dX9_image_87 : decode cX9_image 87 = .ok (.aload_n 0, 1) := by decide +kernel
theorem dX9_image_88 : decode cX9_image 88 = .ok (.getfield 127, 3) := by decide +kernel
theorem dX9_image_91 : decode cX9_image 91 = .ok (.iload_n 1, 1) := by decide +kernel
theorem dX9_image_92 : decode cX9_image 92 = .ok (.bipush 10, 2) := by decide +kernel
theorem dX9_image_94 : decode cX9_image 94 = .ok (.iadd, 1) := by decide +kernel
theorem dX9_image_95 : decode cX9_image 95 = .ok (.iload_n 2, 1) := by decide +kernel
theorem dX9_image_96 : decode cX9_image 96 = .ok (.iadd, 1) := by decide +kernel
theorem dX9_image_97 : decode cX9_image 97 = .ok (.aload_n 0, 1) := by decide +kernel
theorem dX9_image_98 : decode cX9_image 98 = .ok (.getfield 73, 3) := by decide +kernel
theorem dX9_image_101 : decode cX9_image 101 = .ok (.iload_n 2, 1) := by decide +kernel
theorem dX9_image_102 : decode cX9_image 102 = .ok (.iaload, 1) := by decide +kernel
theorem dX9_image_103 : decode cX9_image 103 = .ok (.iastore, 1) := by decide +kernel
theorem dX9_image_104 : decode cX9_image 104 = .ok (.iinc 2 1, 3) := by decide +kernel
theorem dX9_image_107 : decode cX9_image 107 = .ok (.goto (-58), 3) := by decide +kernel
theorem dX9_image_110 : decode cX9_image 110 = .ok (.iconst 0, 1) := by decide +kernel
theorem dX9_image_111 : decode cX9_image 111 = .ok (.istore_n 2, 1) := by decide +kernel
theorem dX9_image_112 : decode cX9_image 112 = .ok (.iload_n 2, 1) := by decide +kernel
theorem dX9_image_113 : decode cX9_image 113 = .ok (.bipush 32, 2) := by decide +kernel
theorem dX9_image_115 : decode cX9_image 115 = .ok (.if_icmp .ge 26, 3) := by decide +kernel
theorem dX9_image_118 : decode cX9_image 118 = .ok (.aload_n 0, 1) := by decide +kernel
theorem dX9_image_119 : decode cX9_image 119 = .ok (.getfield 127, 3) := by decide +kernel
theorem dX9_image_122 : decode cX9_image 122 = .ok (.iload_n 1, 1) := by decide +kernel
theorem dX9_image_123 : decode cX9_image 123 = .ok (.bipush 14, 2) := by decide +kernel
theorem dX9_image_125 : decode cX9_image 125 = .ok (.iadd, 1) := by decide +kernel
theorem dX9_image_126 : decode cX9_image 126 = .ok (.iload_n 2, 1) := by decide +kernel
theorem dX9_image_127 : decode cX9_image 127 = .ok (.iadd, 1) := by decide +kernel
theorem dX9_image_128 : decode cX9_image 128 = .ok (.aload_n 0, 1) := by decide +kernel
theorem dX9_image_129 : decode cX9_image 129 = .ok (.getfield 76, 3) := by decide +kernel
theorem dX9_image_132 : decode cX9_image 132 = .ok (.iload_n 2, 1) := by decide +kernel
theorem dX9_image_133 : decode cX9_image 133 = .ok (.iaload, 1) := by decide +kernel
theorem dX9_image_134 : decode cX9_image 134 = .ok (.iastore, 1) := by decide +kernel
theorem dX9_image_135 : decode cX9_image 135 = .ok (.iinc 2 1, 3) := by decide +kernel
theorem dX9_image_138 : decode cX9_image 138 = .ok (.goto (-26), 3) := by decide +kernel
theorem dX9_image_141 : decode cX9_image 141 = .ok (.aload_n 0, 1) := by decide +kernel
theorem dX9_image_142 : decode cX9_image 142 = .ok (.dup, 1) := by decide +kernel
theorem dX9_image_143 : decode cX9_image 143 = .ok (.getfield 281, 3) := by decide +kernel
theorem dX9_image_146 : decode cX9_image 146 = .ok (.iconst 1, 1) := by decide +kernel
theorem dX9_image_147 : decode cX9_image 147 = .ok (.iadd, 1) := by decide +kernel
theorem dX9_image_148 : decode cX9_image 148 = .ok (.putfield 281, 3) := by decide +kernel
theorem dX9_image_151 : decode cX9_image 151 = .ok (.aload_n 0, 1) := by decide +kernel
theorem dX9_image_152 : decode cX9_image 152 = .ok (.getfield 281, 3) := by decide +kernel
theorem dX9_image_155 : decode cX9_image 155 = .ok (.iconst 1, 1) := by decide +kernel
theorem dX9_image_156 : decode cX9_image 156 = .ok (.isub, 1) := by decide +kernel
theorem dX9_image_157 : decode cX9_image 157 = .ok (.ireturn, 1) := by decide +kernel
theorem dX9_back_0 : decode cX9_back 0 = .ok (.iload_n 1, 1) := by decide +kernel
theorem dX9_back_1 : decode cX9_back 1 = .ok (.iconst 0, 1) := by decide +kernel
theorem dX9_back_2 : decode cX9_back 2 = .ok (.aload_n 0, 1) := by decide +kernel
theorem dX9_back_3 : decode cX9_back 3 = .ok (.getfield 281, 3) := by decide +kernel
theorem dX9_back_6 : decode cX9_back 6 = .ok (.iconst 1, 1) := by decide +kernel
theorem dX9_back_7 : decode cX9_back 7 = .ok (.isub, 1) := by decide +kernel
theorem dX9_back_8 : decode cX9_back 8 = .ok (.invokestatic 156, 3) := by decide +kernel
theorem dX9_back_11 : decode cX9_back 11 = .ok (.ifCond .ne 5, 3) := by decide +kernel
theorem dX9_back_14 : decode cX9_back 14 = .ok (.iconst 0, 1) := by decide +kernel
theorem dX9_back_15 : decode cX9_back 15 = .ok (.ireturn, 1) := by decide +kernel
theorem dX9_back_16 : decode cX9_back 16 = .ok (.bipush 57, 2) := by decide +kernel
theorem dX9_back_18 : decode cX9_back 18 = .ok (.iload_n 1, 1) := by decide +kernel
theorem dX9_back_19 : decode cX9_back 19 = .ok (.imul, 1) := by decide +kernel
theorem dX9_back_20 : decode cX9_back 20 = .ok (.istore_n 2, 1) := by decide +kernel
theorem dX9_back_21 : decode cX9_back 21 = .ok (.aload_n 0, 1) := by decide +kernel
theorem dX9_back_22 : decode cX9_back 22 = .ok (.aload_n 0, 1) := by decide +kernel
theorem dX9_back_23 : decode cX9_back 23 = .ok (.getfield 127, 3) := by decide +kernel
theorem dX9_back_26 : decode cX9_back 26 = .ok (.iload_n 2, 1) := by decide +kernel
theorem dX9_back_27 : decode cX9_back 27 = .ok (.iaload, 1) := by decide +kernel
theorem dX9_back_28 : decode cX9_back 28 = .ok (.putfield 67, 3) := by decide +kernel
theorem dX9_back_31 : decode cX9_back 31 = .ok (.aload_n 0, 1) := by decide +kernel
theorem dX9_back_32 : decode cX9_back 32 = .ok (.aload_n 0, 1) := by decide +kernel
theorem dX9_back_33 : decode cX9_back 33 = .ok (.getfield 127, 3) := by decide +kernel
theorem dX9_back_36 : decode cX9_back 36 = .ok (.iload_n 2, 1) := by decide +kernel
theorem dX9_back_37 : decode cX9_back 37 = .ok (.iconst 1, 1) := by decide +kernel
theorem dX9_back_38 : decode cX9_back 38 = .ok (.iadd, 1) := by decide +kernel
theorem dX9_back_39 : decode cX9_back 39 = .ok (.iaload, 1) := by decide +kernel
theorem dX9_back_40 : decode cX9_back 40 = .ok (.putfield 275, 3) := by decide +kernel
theorem dX9_back_43 : decode cX9_back 43 = .ok (.iconst 0, 1) := by decide +kernel
theorem dX9_back_44 : decode cX9_back 44 = .ok (.istore_n 3, 1) := by decide +kernel
theorem dX9_back_45 : decode cX9_back 45 = .ok (.iload_n 3, 1) := by decide +kernel
theorem dX9_back_46 : decode cX9_back 46 = .ok (.iconst 4, 1) := by decide +kernel
theorem dX9_back_47 : decode cX9_back 47 = .ok (.if_icmp .ge 59, 3) := by decide +kernel
theorem dX9_back_50 : decode cX9_back 50 = .ok (.aload_n 0, 1) := by decide +kernel
theorem dX9_back_51 : decode cX9_back 51 = .ok (.getfield 23, 3) := by decide +kernel
theorem dX9_back_54 : decode cX9_back 54 = .ok (.iload_n 3, 1) := by decide +kernel
theorem dX9_back_55 : decode cX9_back 55 = .ok (.aload_n 0, 1) := by decide +kernel
theorem dX9_back_56 : decode cX9_back 56 = .ok (.getfield 127, 3) := by decide +kernel
theorem dX9_back_59 : decode cX9_back 59 = .ok (.iload_n 2, 1) := by decide +kernel
theorem dX9_back_60 : decode cX9_back 60 = .ok (.iconst 2, 1) := by decide +kernel
theorem dX9_back_61 : decode cX9_back 61 = .ok (.iadd, 1) := by decide +kernel
theorem dX9_back_62 : decode cX9_back 62 = .ok (.iload_n 3, 1) := by decide +kernel
theorem dX9_back_63 : decode cX9_back 63 = .ok (.iadd, 1) := by decide +kernel
theorem dX9_back_64 : decode cX9_back 64 = .ok (.iaload, 1) := by decide +kernel
theorem dX9_back_65 : decode cX9_back 65 = .ok (.iastore, 1) := by decide +kernel
theorem dX9_back_66 : decode cX9_back 66 = .ok (.aload_n 0, 1) := by decide +kernel
theorem dX9_back_67 : decode cX9_back 67 = .ok (.getfield 70, 3) := by decide +kernel
theorem dX9_back_70 : decode cX9_back 70 = .ok (.iload_n 3, 1) := by decide +kernel
theorem dX9_back_71 : decode cX9_back 71 = .ok (.aload_n 0, 1) := by decide +kernel
theorem dX9_back_72 : decode cX9_back 72 = .ok (.getfield 127, 3) := by decide +kernel
theorem dX9_back_75 : decode cX9_back 75 = .ok (.iload_n 2, 1) := by decide +kernel
theorem dX9_back_76 : decode cX9_back 76 = .ok (.bipush 6, 2) := by decide +kernel
theorem dX9_back_78 : decode cX9_back 78 = .ok (.iadd, 1) := by decide +kernel
theorem dX9_back_79 : decode cX9_back 79 = .ok (.iload_n 3, 1) := by decide +kernel
theorem dX9_back_80 : decode cX9_back 80 = .ok (.iadd, 1) := by decide +kernel
theorem dX9_back_81 : decode cX9_back 81 = .ok (.iaload, 1) := by decide +kernel
theorem dX9_back_82 : decode cX9_back 82 = .ok (.iastore, 1) := by decide +kernel
theorem dX9_back_83 : decode cX9_back 83 = .ok (.aload_n 0, 1) := by decide +kernel
theorem dX9_back_84 : decode cX9_back 84 = .ok (.getfield 73, 3) := by decide +kernel
theorem dX9_back_87 : decode cX9_back 87 = .ok (.iload_n 3, 1) := by decide +kernel
theorem dX9_back_88 : decode cX9_back 88 = .ok (.aload_n 0, 1) := by decide +kernel
theorem dX9_back_89 : decode cX9_back 89 = .ok (.getfield 127, 3) := by decide +kernel
theorem dX9_back_92 : decode cX9_back 92 = .ok (.iload_n 2, 1) := by decide +kernel
theorem dX9_back_93 : decode cX9_back 93 = .ok (.bipush 10, 2) := by decide +kernel
theorem dX9_back_95 : decode cX9_back 95 = .ok (.iadd, 1) := by decide +kernel
theorem dX9_back_96 : decode cX9_back 96 = .ok (.iload_n 3, 1) := by decide +kernel
theorem dX9_back_97 : decode cX9_back 97 = .ok (.iadd, 1) := by decide +kernel
theorem dX9_back_98 : decode cX9_back 98 = .ok (.iaload, 1) := by decide +kernel
theorem dX9_back_99 : decode cX9_back 99 = .ok (.iastore, 1) := by decide +kernel
theorem dX9_back_100 : decode cX9_back 100 = .ok (.iinc 3 1, 3) := by decide +kernel
theorem dX9_back_103 : decode cX9_back 103 = .ok (.goto (-58), 3) := by decide +kernel
theorem dX9_back_106 : decode cX9_back 106 = .ok (.iconst 0, 1) := by decide +kernel
theorem dX9_back_107 : decode cX9_back 107 = .ok (.istore_n 3, 1) := by decide +kernel
theorem dX9_back_108 : decode cX9_back 108 = .ok (.iload_n 3, 1) := by decide +kernel
theorem dX9_back_109 : decode cX9_back 109 = .ok (.bipush 32, 2) := by decide +kernel
theorem dX9_back_111 : decode cX9_back 111 = .ok (.if_icmp .ge 26, 3) := by decide +kernel
theorem dX9_back_114 : decode cX9_back 114 = .ok (.aload_n 0, 1) := by decide +kernel
theorem dX9_back_115 : decode cX9_back 115 = .ok (.getfield 76, 3) := by decide +kernel
theorem dX9_back_118 : decode cX9_back 118 = .ok (.iload_n 3, 1) := by decide +kernel
theorem dX9_back_119 : decode cX9_back 119 = .ok (.aload_n 0, 1) := by decide +kernel
theorem dX9_back_120 : decode cX9_back 120 = .ok (.getfield 127, 3) := by decide +kernel
theorem dX9_back_123 : decode cX9_back 123 = .ok (.iload_n 2, 1) := by decide +kernel
theorem dX9_back_124 : decode cX9_back 124 = .ok (.bipush 14, 2) := by decide +kernel
theorem dX9_back_126 : decode cX9_back 126 = .ok (.iadd, 1) := by decide +kernel
theorem dX9_back_127 : decode cX9_back 127 = .ok (.iload_n 3, 1) := by decide +kernel
theorem dX9_back_128 : decode cX9_back 128 = .ok (.iadd, 1) := by decide +kernel
theorem dX9_back_129 : decode cX9_back 129 = .ok (.iaload, 1) := by decide +kernel
theorem dX9_back_130 : decode cX9_back 130 = .ok (.iastore, 1) := by decide +kernel
theorem dX9_back_131 : decode cX9_back 131 = .ok (.iinc 3 1, 3) := by decide +kernel
theorem dX9_back_134 : decode cX9_back 134 = .ok (.goto (-26), 3) := by decide +kernel
theorem dX9_back_137 : decode cX9_back 137 = .ok (.iconst 1, 1) := by decide +kernel
theorem dX9_back_138 : decode cX9_back 138 = .ok (.ireturn, 1) := by decide +kernel
theorem dX9_weighed_0 : decode cX9_weighed 0 = .ok (.aload_n 0, 1) := by decide +kernel
theorem dX9_weighed_1 : decode cX9_weighed 1 = .ok (.invokevirtual 367, 3) := by decide +kernel
theorem dX9_weighed_4 : decode cX9_weighed 4 = .ok (.ifCond .ne 5, 3) := by decide +kernel
theorem dX9_weighed_7 : decode cX9_weighed 7 = .ok (.iconst 0, 1) := by decide +kernel
theorem dX9_weighed_8 : decode cX9_weighed 8 = .ok (.ireturn, 1) := by decide +kernel
theorem dX9_weighed_9 : decode cX9_weighed 9 = .ok (.iconst 0, 1) := by decide +kernel
theorem dX9_weighed_10 : decode cX9_weighed 10 = .ok (.istore_n 1, 1) := by decide +kernel
theorem dX9_weighed_11 : decode cX9_weighed 11 = .ok (.iconst 0, 1) := by decide +kernel
theorem dX9_weighed_12 : decode cX9_weighed 12 = .ok (.istore_n 2, 1) := by decide +kernel
theorem dX9_weighed_13 : decode cX9_weighed 13 = .ok (.iload_n 2, 1) := by decide +kernel
theorem dX9_weighed_14 : decode cX9_weighed 14 = .ok (.aload_n 0, 1) := by decide +kernel
theorem dX9_weighed_15 : decode cX9_weighed 15 = .ok (.invokevirtual 342, 3) := by decide +kernel
theorem dX9_weighed_18 : decode cX9_weighed 18 = .ok (.if_icmp .ge 35, 3) := by decide +kernel
theorem dX9_weighed_21 : decode cX9_weighed 21 = .ok (.aload_n 0, 1) := by decide +kernel
theorem dX9_weighed_22 : decode cX9_weighed 22 = .ok (.iload_n 2, 1) := by decide +kernel
theorem dX9_weighed_23 : decode cX9_weighed 23 = .ok (.iconst 0, 1) := by decide +kernel
theorem dX9_weighed_24 : decode cX9_weighed 24 = .ok (.invokevirtual 345, 3) := by decide +kernel
theorem dX9_weighed_27 : decode cX9_weighed 27 = .ok (.iload_n 1, 1) := by decide +kernel
theorem dX9_weighed_28 : decode cX9_weighed 28 = .ok (.aload_n 0, 1) := by decide +kernel
theorem dX9_weighed_29 : decode cX9_weighed 29 = .ok (.getfield 331, 3) := by decide +kernel
theorem dX9_weighed_32 : decode cX9_weighed 32 = .ok (.lconst 0, 1) := by decide +kernel
theorem dX9_weighed_33 : decode cX9_weighed 33 = .ok (.lcmp, 1) := by decide +kernel
theorem dX9_weighed_34 : decode cX9_weighed 34 = .ok (.ifCond .le 7, 3) := by decide +kernel
theorem dX9_weighed_37 : decode cX9_weighed 37 = .ok (.iconst 1, 1) := by decide +kernel
theorem dX9_weighed_38 : decode cX9_weighed 38 = .ok (.goto 4, 3) := by decide +kernel
theorem dX9_weighed_41 : decode cX9_weighed 41 = .ok (.iconst 0, 1) := by decide +kernel
theorem dX9_weighed_42 : decode cX9_weighed 42 = .ok (.invokestatic 472, 3) := by decide +kernel
theorem dX9_weighed_45 : decode cX9_weighed 45 = .ok (.iadd, 1) := by decide +kernel
theorem dX9_weighed_46 : decode cX9_weighed 46 = .ok (.istore_n 1, 1) := by decide +kernel
theorem dX9_weighed_47 : decode cX9_weighed 47 = .ok (.iinc 2 1, 3) := by decide +kernel
theorem dX9_weighed_50 : decode cX9_weighed 50 = .ok (.goto (-37), 3) := by decide +kernel
theorem dX9_weighed_53 : decode cX9_weighed 53 = .ok (.iload_n 1, 1) := by decide +kernel
theorem dX9_weighed_54 : decode cX9_weighed 54 = .ok (.ireturn, 1) := by decide +kernel
theorem dX9_womenMany_0 : decode cX9_womenMany 0 = .ok (.iconst 0, 1) := by decide +kernel
theorem dX9_womenMany_1 : decode cX9_womenMany 1 = .ok (.istore_n 1, 1) := by decide +kernel
theorem dX9_womenMany_2 : decode cX9_womenMany 2 = .ok (.iconst 0, 1) := by decide +kernel
theorem dX9_womenMany_3 : decode cX9_womenMany 3 = .ok (.istore_n 2, 1) := by decide +kernel
theorem dX9_womenMany_4 : decode cX9_womenMany 4 = .ok (.iload_n 2, 1) := by decide +kernel
theorem dX9_womenMany_5 : decode cX9_womenMany 5 = .ok (.aload_n 0, 1) := by decide +kernel
theorem dX9_womenMany_6 : decode cX9_womenMany 6 = .ok (.getfield 263, 3) := by decide +kernel
theorem dX9_womenMany_9 : decode cX9_womenMany 9 = .ok (.if_icmp .ge 92, 3) := by decide +kernel
theorem dX9_womenMany_12 : decode cX9_womenMany 12 = .ok (.aload_n 0, 1) := by decide +kernel
theorem dX9_womenMany_13 : decode cX9_womenMany 13 = .ok (.getfield 27, 3) := by decide +kernel
theorem dX9_womenMany_16 : decode cX9_womenMany 16 = .ok (.iload_n 2, 1) := by decide +kernel
theorem dX9_womenMany_17 : decode cX9_womenMany 17 = .ok (.iaload, 1) := by decide +kernel
theorem dX9_womenMany_18 : decode cX9_womenMany 18 = .ok (.iconst 1, 1) := by decide +kernel
theorem dX9_womenMany_19 : decode cX9_womenMany 19 = .ok (.if_icmp .eq 7, 3) := by decide +kernel
theorem dX9_womenMany_22 : decode cX9_womenMany 22 = .ok (.iconst 1, 1) := by decide +kernel
theorem dX9_womenMany_23 : decode cX9_womenMany 23 = .ok (.goto 4, 3) := by decide +kernel
theorem dX9_womenMany_26 : decode cX9_womenMany 26 = .ok (.iconst 0, 1) := by decide +kernel
theorem dX9_womenMany_27 : decode cX9_womenMany 27 = .ok (.invokestatic 472, 3) := by decide +kernel
theorem dX9_womenMany_30 : decode cX9_womenMany 30 = .ok (.istore_n 3, 1) := by decide +kernel
theorem dX9_womenMany_31 : decode cX9_womenMany 31 = .ok (.iconst 1, 1) := by decide +kernel
theorem dX9_womenMany_32 : decode cX9_womenMany 32 = .ok (.istore 4, 2) := by decide +kernel
theorem dX9_womenMany_34 : decode cX9_womenMany 34 = .ok (.iload 4, 2) := by decide +kernel
theorem dX9_womenMany_36 : decode cX9_womenMany 36 = .ok (.aload_n 0, 1) := by decide +kernel
theorem dX9_womenMany_37 : decode cX9_womenMany 37 = .ok (.invokevirtual 323, 3) := by decide +kernel
theorem dX9_womenMany_40 : decode cX9_womenMany 40 = .ok (.if_icmp .gt 44, 3) := by decide +kernel
theorem dX9_womenMany_43 : decode cX9_womenMany 43 = .ok (.aload_n 0, 1) := by decide +kernel
theorem dX9_womenMany_44 : decode cX9_womenMany 44 = .ok (.getfield 27, 3) := by decide +kernel
theorem dX9_womenMany_47 : decode cX9_womenMany 47 = .ok (.iload_n 2, 1) := by decide +kernel
theorem dX9_womenMany_48 : decode cX9_womenMany 48 = .ok (.iaload, 1) := by decide +kernel
theorem dX9_womenMany_49 : decode cX9_womenMany 49 = .ok (.iconst 1, 1) := by decide +kernel
theorem dX9_womenMany_50 : decode cX9_womenMany 50 = .ok (.if_icmp .ne 34, 3) := by decide +kernel
theorem dX9_womenMany_53 : decode cX9_womenMany 53 = .ok (.iload_n 3, 1) := by decide +kernel
theorem dX9_womenMany_54 : decode cX9_womenMany 54 = .ok (.iload 4, 2) := by decide +kernel
theorem dX9_womenMany_56 : decode cX9_womenMany 56 = .ok (.invokestatic 317, 3) := by decide +kernel
theorem dX9_womenMany_59 : decode cX9_womenMany 59 = .ok (.aload_n 0, 1) := by decide +kernel
theorem dX9_womenMany_60 : decode cX9_womenMany 60 = .ok (.getfield 33, 3) := by decide +kernel
theorem dX9_womenMany_63 : decode cX9_womenMany 63 = .ok (.iload_n 2, 1) := by decide +kernel
theorem dX9_womenMany_64 : decode cX9_womenMany 64 = .ok (.iaload, 1) := by decide +kernel
theorem dX9_womenMany_65 : decode cX9_womenMany 65 = .ok (.if_icmp .ne 7, 3) := by decide +kernel
theorem dX9_womenMany_68 : decode cX9_womenMany 68 = .ok (.iconst 1, 1) := by decide +kernel
theorem dX9_womenMany_69 : decode cX9_womenMany 69 = .ok (.goto 4, 3) := by decide +kernel
theorem dX9_womenMany_72 : decode cX9_womenMany 72 = .ok (.iconst 0, 1) := by decide +kernel
theorem dX9_womenMany_73 : decode cX9_womenMany 73 = .ok (.invokestatic 472, 3) := by decide +kernel
theorem dX9_womenMany_76 : decode cX9_womenMany 76 = .ok (.iadd, 1) := by decide +kernel
theorem dX9_womenMany_77 : decode cX9_womenMany 77 = .ok (.istore_n 3, 1) := by decide +kernel
theorem dX9_womenMany_78 : decode cX9_womenMany 78 = .ok (.iinc 4 1, 3) := by decide +kernel
theorem dX9_womenMany_81 : decode cX9_womenMany 81 = .ok (.goto (-47), 3) := by decide +kernel
theorem dX9_womenMany_84 : decode cX9_womenMany 84 = .ok (.iload_n 1, 1) := by decide +kernel
theorem dX9_womenMany_85 : decode cX9_womenMany 85 = .ok (.iload_n 3, 1) := by decide +kernel
theorem dX9_womenMany_86 : decode cX9_womenMany 86 = .ok (.aload_n 0, 1) := by decide +kernel
theorem dX9_womenMany_87 : decode cX9_womenMany 87 = .ok (.getfield 30, 3) := by decide +kernel
theorem dX9_womenMany_90 : decode cX9_womenMany 90 = .ok (.iload_n 2, 1) := by decide +kernel
theorem dX9_womenMany_91 : decode cX9_womenMany 91 = .ok (.iaload, 1) := by decide +kernel
theorem dX9_womenMany_92 : decode cX9_womenMany 92 = .ok (.imul, 1) := by decide +kernel
theorem dX9_womenMany_93 : decode cX9_womenMany 93 = .ok (.iadd, 1) := by decide +kernel
theorem dX9_womenMany_94 : decode cX9_womenMany 94 = .ok (.istore_n 1, 1) := by decide +kernel
theorem dX9_womenMany_95 : decode cX9_womenMany 95 = .ok (.iinc 2 1, 3) := by decide +kernel
theorem dX9_womenMany_98 : decode cX9_womenMany 98 = .ok (.goto (-94), 3) := by decide +kernel
theorem dX9_womenMany_101 : decode cX9_womenMany 101 = .ok (.iload_n 1, 1) := by decide +kernel
theorem dX9_womenMany_102 : decode cX9_womenMany 102 = .ok (.ireturn, 1) := by decide +kernel
theorem dX9_count_0 : decode cX9_count 0 = .ok (.iload_n 1, 1) := by decide +kernel
theorem dX9_count_1 : decode cX9_count 1 = .ok (.tableswitch 99 0 8 #[51, 56, 61, 66, 71, 76, 81, 89, 94], 51) := by decide +kernel
theorem dX9_count_52 : decode cX9_count 52 = .ok (.aload_n 0, 1) := by decide +kernel
theorem dX9_count_53 : decode cX9_count 53 = .ok (.getfield 284, 3) := by decide +kernel
theorem dX9_count_56 : decode cX9_count 56 = .ok (.ireturn, 1) := by decide +kernel
theorem dX9_count_57 : decode cX9_count 57 = .ok (.aload_n 0, 1) := by decide +kernel
theorem dX9_count_58 : decode cX9_count 58 = .ok (.getfield 130, 3) := by decide +kernel
theorem dX9_count_61 : decode cX9_count 61 = .ok (.ireturn, 1) := by decide +kernel
theorem dX9_count_62 : decode cX9_count 62 = .ok (.aload_n 0, 1) := by decide +kernel
theorem dX9_count_63 : decode cX9_count 63 = .ok (.getfield 278, 3) := by decide +kernel
theorem dX9_count_66 : decode cX9_count 66 = .ok (.ireturn, 1) := by decide +kernel
theorem dX9_count_67 : decode cX9_count 67 = .ok (.aload_n 0, 1) := by decide +kernel
theorem dX9_count_68 : decode cX9_count 68 = .ok (.getfield 67, 3) := by decide +kernel
theorem dX9_count_71 : decode cX9_count 71 = .ok (.ireturn, 1) := by decide +kernel
theorem dX9_count_72 : decode cX9_count 72 = .ok (.aload_n 0, 1) := by decide +kernel
theorem dX9_count_73 : decode cX9_count 73 = .ok (.getfield 281, 3) := by decide +kernel
theorem dX9_count_76 : decode cX9_count 76 = .ok (.ireturn, 1) := by decide +kernel
theorem dX9_count_77 : decode cX9_count 77 = .ok (.aload_n 0, 1) := by decide +kernel
theorem dX9_count_78 : decode cX9_count 78 = .ok (.getfield 275, 3) := by decide +kernel
theorem dX9_count_81 : decode cX9_count 81 = .ok (.ireturn, 1) := by decide +kernel
theorem dX9_count_82 : decode cX9_count 82 = .ok (.aload_n 0, 1) := by decide +kernel
theorem dX9_count_83 : decode cX9_count 83 = .ok (.invokevirtual 367, 3) := by decide +kernel
theorem dX9_count_86 : decode cX9_count 86 = .ok (.invokestatic 472, 3) := by decide +kernel
theorem dX9_count_89 : decode cX9_count 89 = .ok (.ireturn, 1) := by decide +kernel
theorem dX9_count_90 : decode cX9_count 90 = .ok (.aload_n 0, 1) := by decide +kernel
theorem dX9_count_91 : decode cX9_count 91 = .ok (.invokevirtual 476, 3) := by decide +kernel
theorem dX9_count_94 : decode cX9_count 94 = .ok (.ireturn, 1) := by decide +kernel
theorem dX9_count_95 : decode cX9_count 95 = .ok (.aload_n 0, 1) := by decide +kernel
theorem dX9_count_96 : decode cX9_count 96 = .ok (.invokevirtual 479, 3) := by decide +kernel
theorem dX9_count_99 : decode cX9_count 99 = .ok (.ireturn, 1) := by decide +kernel
theorem dX9_count_100 : decode cX9_count 100 = .ok (.iconst (-1), 1) := by decide +kernel
theorem dX9_count_101 : decode cX9_count 101 = .ok (.ireturn, 1) := by decide +kernel
