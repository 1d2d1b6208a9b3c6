theorem dX8_init_0 : decode cX8_init 0 = .ok (.aload_n 0, 1) := by decide +kernel
theorem dX8_init_1 : decode cX8_init 1 = .ok (.invokespecial 1, 3) := by decide +kernel
theorem dX8_init_4 : decode cX8_init 4 = .ok (.aload_n 0, 1) := by decide +kernel
theorem dX8_init_5 : decode cX8_init 5 = .ok (.bipush 39, 2) := by decide +kernel
theorem dX8_init_7 : decode cX8_init 7 = .ok (.newarray .int, 2) := by decide +kernel
theorem dX8_init_9 : decode cX8_init 9 = .ok (.putfield 7, 3) := by decide +kernel
theorem dX8_init_12 : decode cX8_init 12 = .ok (.aload_n 0, 1) := by decide +kernel
theorem dX8_init_13 : decode cX8_init 13 = .ok (.bipush 9, 2) := by decide +kernel
theorem dX8_init_15 : decode cX8_init 15 = .ok (.newarray .int, 2) := by decide +kernel
theorem dX8_init_17 : decode cX8_init 17 = .ok (.putfield 13, 3) := by decide +kernel
theorem dX8_init_20 : decode cX8_init 20 = .ok (.aload_n 0, 1) := by decide +kernel
theorem dX8_init_21 : decode cX8_init 21 = .ok (.bipush 9, 2) := by decide +kernel
theorem dX8_init_23 : decode cX8_init 23 = .ok (.newarray .int, 2) := by decide +kernel
theorem dX8_init_25 : decode cX8_init 25 = .ok (.putfield 16, 3) := by decide +kernel
theorem dX8_init_28 : decode cX8_init 28 = .ok (.aload_n 0, 1) := by decide +kernel
theorem dX8_init_29 : decode cX8_init 29 = .ok (.bipush 9, 2) := by decide +kernel
theorem dX8_init_31 : decode cX8_init 31 = .ok (.newarray .int, 2) := by decide +kernel
theorem dX8_init_33 : decode cX8_init 33 = .ok (.putfield 19, 3) := by decide +kernel
theorem dX8_init_36 : decode cX8_init 36 = .ok (.aload_n 0, 1) := by decide +kernel
theorem dX8_init_37 : decode cX8_init 37 = .ok (.bipush 9, 2) := by decide +kernel
theorem dX8_init_39 : decode cX8_init 39 = .ok (.newarray .int, 2) := by decide +kernel
theorem dX8_init_41 : decode cX8_init 41 = .ok (.putfield 22, 3) := by decide +kernel
theorem dX8_init_44 : decode cX8_init 44 = .ok (.aload_n 0, 1) := by decide +kernel
theorem dX8_init_45 : decode cX8_init 45 = .ok (.bipush 8, 2) := by decide +kernel
theorem dX8_init_47 : decode cX8_init 47 = .ok (.newarray .int, 2) := by decide +kernel
theorem dX8_init_49 : decode cX8_init 49 = .ok (.putfield 25, 3) := by decide +kernel
theorem dX8_init_52 : decode cX8_init 52 = .ok (.aload_n 0, 1) := by decide +kernel
theorem dX8_init_53 : decode cX8_init 53 = .ok (.bipush 8, 2) := by decide +kernel
theorem dX8_init_55 : decode cX8_init 55 = .ok (.newarray .int, 2) := by decide +kernel
theorem dX8_init_57 : decode cX8_init 57 = .ok (.putfield 28, 3) := by decide +kernel
theorem dX8_init_60 : decode cX8_init 60 = .ok (.aload_n 0, 1) := by decide +kernel
theorem dX8_init_61 : decode cX8_init 61 = .ok (.bipush 8, 2) := by decide +kernel
theorem dX8_init_63 : decode cX8_init 63 = .ok (.newarray .int, 2) := by decide +kernel
theorem dX8_init_65 : decode cX8_init 65 = .ok (.putfield 31, 3) := by decide +kernel
theorem dX8_init_68 : decode cX8_init 68 = .ok (.aload_n 0, 1) := by decide +kernel
theorem dX8_init_69 : decode cX8_init 69 = .ok (.bipush 8, 2) := by decide +kernel
theorem dX8_init_71 : decode cX8_init 71 = .ok (.newarray .int, 2) := by decide +kernel
theorem dX8_init_73 : decode cX8_init 73 = .ok (.putfield 34, 3) := by decide +kernel
theorem dX8_init_76 : decode cX8_init 76 = .ok (.aload_n 0, 1) := by decide +kernel
theorem dX8_init_77 : decode cX8_init 77 = .ok (.bipush 8, 2) := by decide +kernel
theorem dX8_init_79 : decode cX8_init 79 = .ok (.newarray .int, 2) := by decide +kernel
theorem dX8_init_81 : decode cX8_init 81 = .ok (.putfield 37, 3) := by decide +kernel
theorem dX8_init_84 : decode cX8_init 84 = .ok (.aload_n 0, 1) := by decide +kernel
theorem dX8_init_85 : decode cX8_init 85 = .ok (.bipush 8, 2) := by decide +kernel
theorem dX8_init_87 : decode cX8_init 87 = .ok (.newarray .int, 2) := by decide +kernel
theorem dX8_init_89 : decode cX8_init 89 = .ok (.putfield 40, 3) := by decide +kernel
theorem dX8_init_92 : decode cX8_init 92 = .ok (.aload_n 0, 1) := by decide +kernel
theorem dX8_init_93 : decode cX8_init 93 = .ok (.bipush 8, 2) := by decide +kernel
theorem dX8_init_95 : decode cX8_init 95 = .ok (.newarray .int, 2) := by decide +kernel
theorem dX8_init_97 : decode cX8_init 97 = .ok (.putfield 43, 3) := by decide +kernel
theorem dX8_init_100 : decode cX8_init 100 = .ok (.aload_n 0, 1) := by decide +kernel
theorem dX8_init_101 : decode cX8_init 101 = .ok (.bipush 8, 2) := by decide +kernel
theorem dX8_init_103 : decode cX8_init 103 = .ok (.newarray .int, 2) := by decide +kernel
theorem dX8_init_105 : decode cX8_init 105 = .ok (.putfield 46, 3) := by decide +kernel
theorem dX8_init_108 : decode cX8_init 108 = .ok (.aload_n 0, 1) := by decide +kernel
theorem dX8_init_109 : decode cX8_init 109 = .ok (.bipush 8, 2) := by decide +kernel
theorem dX8_init_111 : decode cX8_init 111 = .ok (.newarray .int, 2) := by decide +kernel
theorem dX8_init_113 : decode cX8_init 113 = .ok (.putfield 49, 3) := by decide +kernel
theorem dX8_init_116 : decode cX8_init 116 = .ok (.aload_n 0, 1) := by decide +kernel
theorem dX8_init_117 : decode cX8_init 117 = .ok (.bipush 8, 2) := by decide +kernel
theorem dX8_init_119 : decode cX8_init 119 = .ok (.newarray .int, 2) := by decide +kernel
theorem dX8_init_121 : decode cX8_init 121 = .ok (.putfield 52, 3) := by decide +kernel
theorem dX8_init_124 : decode cX8_init 124 = .ok (.aload_n 0, 1) := by decide +kernel
theorem dX8_init_125 : decode cX8_init 125 = .ok (.bipush 8, 2) := by decide +kernel
theorem dX8_init_127 : decode cX8_init 127 = .ok (.newarray .int, 2) := by decide +kernel
theorem dX8_init_129 : decode cX8_init 129 = .ok (.putfield 55, 3) := by decide +kernel
theorem dX8_init_132 : decode cX8_init 132 = .ok (.aload_n 0, 1) := by decide +kernel
theorem dX8_init_133 : decode cX8_init 133 = .ok (.bipush 8, 2) := by decide +kernel
theorem dX8_init_135 : decode cX8_init 135 = .ok (.newarray .int, 2) := by decide +kernel
theorem dX8_init_137 : decode cX8_init 137 = .ok (.putfield 58, 3) := by decide +kernel
theorem dX8_init_140 : decode cX8_init 140 = .ok (.aload_n 0, 1) := by decide +kernel
theorem dX8_init_141 : decode cX8_init 141 = .ok (.bipush 8, 2) := by decide +kernel
theorem dX8_init_143 : decode cX8_init 143 = .ok (.newarray .int, 2) := by decide +kernel
theorem dX8_init_145 : decode cX8_init 145 = .ok (.putfield 61, 3) := by decide +kernel
theorem dX8_init_148 : decode cX8_init 148 = .ok (.aload_n 0, 1) := by decide +kernel
theorem dX8_init_149 : decode cX8_init 149 = .ok (.bipush 8, 2) := by decide +kernel
theorem dX8_init_151 : decode cX8_init 151 = .ok (.newarray .int, 2) := by decide +kernel
theorem dX8_init_153 : decode cX8_init 153 = .ok (.putfield 64, 3) := by decide +kernel
theorem dX8_init_156 : decode cX8_init 156 = .ok (.aload_n 0, 1) := by decide +kernel
theorem dX8_init_157 : decode cX8_init 157 = .ok (.sipush 160, 3) := by decide +kernel
theorem dX8_init_160 : decode cX8_init 160 = .ok (.newarray .int, 2) := by decide +kernel
theorem dX8_init_162 : decode cX8_init 162 = .ok (.putfield 67, 3) := by decide +kernel
theorem dX8_init_165 : decode cX8_init 165 = .ok (.aload_n 0, 1) := by decide +kernel
theorem dX8_init_166 : decode cX8_init 166 = .ok (.sipush 160, 3) := by decide +kernel
theorem dX8_init_169 : decode cX8_init 169 = .ok (.newarray .int, 2) := by decide +kernel
theorem dX8_init_171 : decode cX8_init 171 = .ok (.putfield 70, 3) := by decide +kernel
theorem dX8_init_174 : decode cX8_init 174 = .ok (.aload_n 0, 1) := by decide +kernel
theorem dX8_init_175 : decode cX8_init 175 = .ok (.sipush 160, 3) := by decide +kernel
theorem dX8_init_178 : decode cX8_init 178 = .ok (.newarray .int, 2) := by decide +kernel
theorem dX8_init_180 : decode cX8_init 180 = .ok (.putfield 73, 3) := by decide +kernel
theorem dX8_init_183 : decode cX8_init 183 = .ok (.aload_n 0, 1) := by decide +kernel
theorem dX8_init_184 : decode cX8_init 184 = .ok (.sipush 160, 3) := by decide +kernel
theorem dX8_init_187 : decode cX8_init 187 = .ok (.newarray .int, 2) := by decide +kernel
theorem dX8_init_189 : decode cX8_init 189 = .ok (.putfield 76, 3) := by decide +kernel
theorem dX8_init_192 : decode cX8_init 192 = .ok (.aload_n 0, 1) := by decide +kernel
theorem dX8_init_193 : decode cX8_init 193 = .ok (.sipush 160, 3) := by decide +kernel
theorem dX8_init_196 : decode cX8_init 196 = .ok (.newarray .int, 2) := by decide +kernel
theorem dX8_init_198 : decode cX8_init 198 = .ok (.putfield 79, 3) := by decide +kernel
theorem dX8_init_201 : decode cX8_init 201 = .ok (.aload_n 0, 1) := by decide +kernel
theorem dX8_init_202 : decode cX8_init 202 = .ok (.sipush 160, 3) := by decide +kernel
theorem dX8_init_205 : decode cX8_init 205 = .ok (.newarray .int, 2) := by decide +kernel
theorem dX8_init_207 : decode cX8_init 207 = .ok (.putfield 82, 3) := by decide +kernel
theorem dX8_init_210 : decode cX8_init 210 = .ok (.aload_n 0, 1) := by decide +kernel
theorem dX8_init_211 : decode cX8_init 211 = .ok (.bipush 20, 2) := by decide +kernel
theorem dX8_init_213 : decode cX8_init 213 = .ok (.newarray .int, 2) := by decide +kernel
theorem dX8_init_215 : decode cX8_init 215 = .ok (.putfield 85, 3) := by decide +kernel
theorem dX8_init_218 : decode cX8_init 218 = .ok (.aload_n 0, 1) := by decide +kernel
theorem dX8_init_219 : decode cX8_init 219 = .ok (.iconst 2, 1) := by decide +kernel
theorem dX8_init_220 : decode cX8_init 220 = .ok (.newarray .int, 2) := by decide +kernel
theorem dX8_init_222 : decode cX8_init 222 = .ok (.putfield 88, 3) := by decide +kernel
theorem dX8_init_225 : decode cX8_init 225 = .ok (.aload_n 0, 1) := by decide +kernel
theorem dX8_init_226 : decode cX8_init 226 = .ok (.bipush 8, 2) := by decide +kernel
theorem dX8_init_228 : decode cX8_init 228 = .ok (.newarray .int, 2) := by decide +kernel
theorem dX8_init_230 : decode cX8_init 230 = .ok (.putfield 91, 3) := by decide +kernel
theorem dX8_init_233 : decode cX8_init 233 = .ok (.aload_n 0, 1) := by decide +kernel
theorem dX8_init_234 : decode cX8_init 234 = .ok (.bipush 8, 2) := by decide +kernel
theorem dX8_init_236 : decode cX8_init 236 = .ok (.newarray .int, 2) := by decide +kernel
theorem dX8_init_238 : decode cX8_init 238 = .ok (.putfield 94, 3) := by decide +kernel
theorem dX8_init_241 : decode cX8_init 241 = .ok (.aload_n 0, 1) := by decide +kernel
theorem dX8_init_242 : decode cX8_init 242 = .ok (.bipush 8, 2) := by decide +kernel
theorem dX8_init_244 : decode cX8_init 244 = .ok (.newarray .int, 2) := by decide +kernel
theorem dX8_init_246 : decode cX8_init 246 = .ok (.putfield 97, 3) := by decide +kernel
theorem dX8_init_249 : decode cX8_init 249 = .ok (.aload_n 0, 1) := by decide +kernel
theorem dX8_init_250 : decode cX8_init 250 = .ok (.bipush 8, 2) := by decide +kernel
theorem dX8_init_252 : decode cX8_init 252 = .ok (.newarray .int, 2) := by decide +kernel
theorem dX8_init_254 : decode cX8_init 254 = .ok (.putfield 100, 3) := by decide +kernel
theorem dX8_init_257 : decode cX8_init 257 = .ok (.aload_n 0, 1) := by decide +kernel
theorem dX8_init_258 : decode cX8_init 258 = .ok (.sipush 200, 3) := by decide +kernel
theorem dX8_init_261 : decode cX8_init 261 = .ok (.newarray .int, 2) := by decide +kernel
theorem dX8_init_263 : decode cX8_init 263 = .ok (.putfield 103, 3) := by decide +kernel
theorem dX8_init_266 : decode cX8_init 266 = .ok (.aload_n 0, 1) := by decide +kernel
theorem dX8_init_267 : decode cX8_init 267 = .ok (.iconst 4, 1) := by decide +kernel
theorem dX8_init_268 : decode cX8_init 268 = .ok (.newarray .boolean, 2) := by decide +kernel
theorem dX8_init_270 : decode cX8_init 270 = .ok (.putfield 106, 3) := by decide +kernel
theorem dX8_init_273 : decode cX8_init 273 = .ok (.aload_n 0, 1) := by decide +kernel
theorem dX8_init_274 : decode cX8_init 274 = .ok (.iconst 4, 1) := by decide +kernel
theorem dX8_init_275 : decode cX8_init 275 = .ok (.newarray .int, 2) := by decide +kernel
theorem dX8_init_277 : decode cX8_init 277 = .ok (.putfield 110, 3) := by decide +kernel
theorem dX8_init_280 : decode cX8_init 280 = .ok (.aload_n 0, 1) := by decide +kernel
theorem dX8_init_281 : decode cX8_init 281 = .ok (.iconst 4, 1) := by decide +kernel
theorem dX8_init_282 : decode cX8_init 282 = .ok (.newarray .int, 2) := by decide +kernel
theorem dX8_init_284 : decode cX8_init 284 = .ok (.putfield 113, 3) := by decide +kernel
theorem dX8_init_287 : decode cX8_init 287 = .ok (.aload_n 0, 1) := by decide +kernel
theorem dX8_init_288 : decode cX8_init 288 = .ok (.sipush 240, 3) := by decide +kernel
theorem dX8_init_291 : decode cX8_init 291 = .ok (.newarray .int, 2) := by decide +kernel
theorem dX8_init_293 : decode cX8_init 293 = .ok (.putfield 116, 3) := by decide +kernel
theorem dX8_init_296 : decode cX8_init 296 = .ok (.aload_n 0, 1) := by decide +kernel
theorem dX8_init_297 : decode cX8_init 297 = .ok (.bipush 60, 2) := by decide +kernel
theorem dX8_init_299 : decode cX8_init 299 = .ok (.newarray .int, 2) := by decide +kernel
theorem dX8_init_301 : decode cX8_init 301 = .ok (.putfield 119, 3) := by decide +kernel
theorem dX8_init_304 : decode cX8_init 304 = .ok (.return_, 1) := by decide +kernel
theorem dX8_in_0 : decode cX8_in 0 = .ok (.iload_n 0, 1) := by decide +kernel
theorem dX8_in_1 : decode cX8_in 1 = .ok (.iload_n 1, 1) := by decide +kernel
theorem dX8_in_2 : decode cX8_in 2 = .ok (.if_icmp .lt 12, 3) := by decide +kernel
theorem dX8_in_5 : decode cX8_in 5 = .ok (.iload_n 0, 1) := by decide +kernel
theorem dX8_in_6 : decode cX8_in 6 = .ok (.iload_n 2, 1) := by decide +kernel
theorem dX8_in_7 : decode cX8_in 7 = .ok (.if_icmp .gt 7, 3) := by decide +kernel
theorem dX8_in_10 : decode cX8_in 10 = .ok (.iconst 1, 1) := by decide +kernel
theorem dX8_in_11 : decode cX8_in 11 = .ok (.goto 4, 3) := by decide +kernel
theorem dX8_in_14 : decode cX8_in 14 = .ok (.iconst 0, 1) := by decide +kernel
theorem dX8_in_15 : decode cX8_in 15 = .ok (.ireturn, 1) := by decide +kernel
theorem dX8_isIn_0 : decode cX8_isIn 0 = .ok (.iload_n 0, 1) := by decide +kernel
theorem dX8_isIn_1 : decode cX8_isIn 1 = .ok (.iload_n 1, 1) := by decide +kernel
theorem dX8_isIn_2 : decode cX8_isIn 2 = .ok (.ishr, 1) := by decide +kernel
theorem dX8_isIn_3 : decode cX8_isIn 3 = .ok (.iconst 1, 1) := by decide +kernel
theorem dX8_isIn_4 : decode cX8_isIn 4 = .ok (.iand, 1) := by decide +kernel
theorem dX8_isIn_5 : decode cX8_isIn 5 = .ok (.iconst 1, 1) := by decide +kernel
theorem dX8_isIn_6 : decode cX8_isIn 6 = .ok (.if_icmp .ne 7, 3) := by decide +kernel
theorem dX8_isIn_9 : decode cX8_isIn 9 = .ok (.iconst 1, 1) := by decide +kernel
theorem dX8_isIn_10 : decode cX8_isIn 10 = .ok (.goto 4, 3) := by decide +kernel
theorem dX8_isIn_13 : decode cX8_isIn 13 = .ok (.iconst 0, 1) := by decide +kernel
theorem dX8_isIn_14 : decode cX8_isIn 14 = .ok (.ireturn, 1) := by decide +kernel
theorem dX8_no_0 : decode cX8_no 0 = .ok (.ldc2_w 122, 3) := by decide +kernel
theorem dX8_no_3 : decode cX8_no 3 = .ok (.iload_n 0, 1) := by decide +kernel
theorem dX8_no_4 : decode cX8_no 4 = .ok (.i2l, 1) := by decide +kernel
theorem dX8_no_5 : decode cX8_no 5 = .ok (.lsub, 1) := by decide +kernel
theorem dX8_no_6 : decode cX8_no 6 = .ok (.lreturn, 1) := by decide +kernel
theorem dX8_lowest_0 : decode cX8_lowest 0 = .ok (.lload_n 0, 1) := by decide +kernel
theorem dX8_lowest_1 : decode cX8_lowest 1 = .ok (.lstore 5, 2) := by decide +kernel
theorem dX8_lowest_3 : decode cX8_lowest 3 = .ok (.lload_n 2, 1) := by decide +kernel
theorem dX8_lowest_4 : decode cX8_lowest 4 = .ok (.lstore 7, 2) := by decide +kernel
theorem dX8_lowest_6 : decode cX8_lowest 6 = .ok (.lload 7, 2) := by decide +kernel
theorem dX8_lowest_8 : decode cX8_lowest 8 = .ok (.lconst 0, 1) := by decide +kernel
theorem dX8_lowest_9 : decode cX8_lowest 9 = .ok (.lcmp, 1) := by decide +kernel
theorem dX8_lowest_10 : decode cX8_lowest 10 = .ok (.ifCond .eq 21, 3) := by decide +kernel
theorem dX8_lowest_13 : decode cX8_lowest 13 = .ok (.lload 5, 2) := by decide +kernel
theorem dX8_lowest_15 : decode cX8_lowest 15 = .ok (.lload 7, 2) := by decide +kernel
theorem dX8_lowest_17 : decode cX8_lowest 17 = .ok (.lrem, 1) := by decide +kernel
theorem dX8_lowest_18 : decode cX8_lowest 18 = .ok (.lstore 9, 2) := by decide +kernel
theorem dX8_lowest_20 : decode cX8_lowest 20 = .ok (.lload 7, 2) := by decide +kernel
theorem dX8_lowest_22 : decode cX8_lowest 22 = .ok (.lstore 5, 2) := by decide +kernel
theorem dX8_lowest_24 : decode cX8_lowest 24 = .ok (.lload 9, 2) := by decide +kernel
theorem dX8_lowest_26 : decode cX8_lowest 26 = .ok (.lstore 7, 2) := by decide +kernel
theorem dX8_lowest_28 : decode cX8_lowest 28 = .ok (.goto (-22), 3) := by decide +kernel
theorem dX8_lowest_31 : decode cX8_lowest 31 = .ok (.iload 4, 2) := by decide +kernel
theorem dX8_lowest_33 : decode cX8_lowest 33 = .ok (.ifCond .ne 10, 3) := by decide +kernel
theorem dX8_lowest_36 : decode cX8_lowest 36 = .ok (.lload_n 0, 1) := by decide +kernel
theorem dX8_lowest_37 : decode cX8_lowest 37 = .ok (.lload 5, 2) := by decide +kernel
theorem dX8_lowest_39 : decode cX8_lowest 39 = .ok (.ldiv, 1) := by decide +kernel
theorem dX8_lowest_40 : decode cX8_lowest 40 = .ok (.goto 7, 3) := by decide +kernel
theorem dX8_lowest_43 : decode cX8_lowest 43 = .ok (.lload_n 2, 1) := by decide +kernel
theorem dX8_lowest_44 : decode cX8_lowest 44 = .ok (.lload 5, 2) := by decide +kernel
theorem dX8_lowest_46 : decode cX8_lowest 46 = .ok (.ldiv, 1) := by decide +kernel
theorem dX8_lowest_47 : decode cX8_lowest 47 = .ok (.lreturn, 1) := by decide +kernel
theorem dX8_isDay_0 : decode cX8_isDay 0 = .ok (.iload_n 0, 1) := by decide +kernel
theorem dX8_isDay_1 : decode cX8_isDay 1 = .ok (.iconst 0, 1) := by decide +kernel
theorem dX8_isDay_2 : decode cX8_isDay 2 = .ok (.bipush 19, 2) := by decide +kernel
theorem dX8_isDay_4 : decode cX8_isDay 4 = .ok (.invokestatic 124, 3) := by decide +kernel
theorem dX8_isDay_7 : decode cX8_isDay 7 = .ok (.ireturn, 1) := by decide +kernel
theorem dX8_isEight_0 : decode cX8_isEight 0 = .ok (.iload_n 0, 1) := by decide +kernel
theorem dX8_isEight_1 : decode cX8_isEight 1 = .ok (.iconst 0, 1) := by decide +kernel
theorem dX8_isEight_2 : decode cX8_isEight 2 = .ok (.bipush 7, 2) := by decide +kernel
theorem dX8_isEight_4 : decode cX8_isEight 4 = .ok (.invokestatic 124, 3) := by decide +kernel
theorem dX8_isEight_7 : decode cX8_isEight 7 = .ok (.ireturn, 1) := by decide +kernel
theorem dX8_type_0 : decode cX8_type 0 = .ok (.iload_n 1, 1) := by decide +kernel
theorem dX8_type_1 : decode cX8_type 1 = .ok (.iconst 0, 1) := by decide +kernel
theorem dX8_type_2 : decode cX8_type 2 = .ok (.sipush 255, 3) := by decide +kernel
theorem dX8_type_5 : decode cX8_type 5 = .ok (.invokestatic 124, 3) := by decide +kernel
theorem dX8_type_8 : decode cX8_type 8 = .ok (.ifCond .ne 6, 3) := by decide +kernel
theorem dX8_type_11 : decode cX8_type 11 = .ok (.bipush (-2), 2) := by decide +kernel
theorem dX8_type_13 : decode cX8_type 13 = .ok (.ireturn, 1) := by decide +kernel
theorem dX8_type_14 : decode cX8_type 14 = .ok (.aload_n 0, 1) := by decide +kernel
theorem dX8_type_15 : decode cX8_type 15 = .ok (.getfield 128, 3) := by decide +kernel
theorem dX8_type_18 : decode cX8_type 18 = .ok (.bipush 39, 2) := by decide +kernel
theorem dX8_type_20 : decode cX8_type 20 = .ok (.if_icmp .ne 6, 3) := by decide +kernel
theorem dX8_type_23 : decode cX8_type 23 = .ok (.bipush (-4), 2) := by decide +kernel
theorem dX8_type_25 : decode cX8_type 25 = .ok (.ireturn, 1) := by decide +kernel
theorem dX8_type_26 : decode cX8_type 26 = .ok (.aload_n 0, 1) := by decide +kernel
theorem dX8_type_27 : decode cX8_type 27 = .ok (.getfield 7, 3) := by decide +kernel
theorem dX8_type_30 : decode cX8_type 30 = .ok (.aload_n 0, 1) := by decide +kernel
theorem dX8_type_31 : decode cX8_type 31 = .ok (.getfield 128, 3) := by decide +kernel
theorem dX8_type_34 : decode cX8_type 34 = .ok (.iload_n 1, 1) := by decide +kernel
theorem dX8_type_35 : decode cX8_type 35 = .ok (.iastore, 1) := by decide +kernel
theorem dX8_type_36 : decode cX8_type 36 = .ok (.aload_n 0, 1) := by decide +kernel
theorem dX8_type_37 : decode cX8_type 37 = .ok (.dup, 1) := by decide +kernel
theorem dX8_type_38 : decode cX8_type 38 = .ok (.getfield 128, 3) := by decide +kernel
theorem dX8_type_41 : decode cX8_type 41 = .ok (.iconst 1, 1) := by decide +kernel
theorem dX8_type_42 : decode cX8_type 42 = .ok (.iadd, 1) := by decide +kernel
theorem dX8_type_43 : decode cX8_type 43 = .ok (.putfield 128, 3) := by decide +kernel
theorem dX8_type_46 : decode cX8_type 46 = .ok (.aload_n 0, 1) := by decide +kernel
theorem dX8_type_47 : decode cX8_type 47 = .ok (.getfield 128, 3) := by decide +kernel
theorem dX8_type_50 : decode cX8_type 50 = .ok (.ireturn, 1) := by decide +kernel
theorem dX8_wipe_0 : decode cX8_wipe 0 = .ok (.aload_n 0, 1) := by decide +kernel
theorem dX8_wipe_1 : decode cX8_wipe 1 = .ok (.getfield 128, 3) := by decide +kernel
theorem dX8_wipe_4 : decode cX8_wipe 4 = .ok (.istore_n 1, 1) := by decide +kernel
theorem dX8_wipe_5 : decode cX8_wipe 5 = .ok (.aload_n 0, 1) := by decide +kernel
theorem dX8_wipe_6 : decode cX8_wipe 6 = .ok (.iconst 0, 1) := by decide +kernel
theorem dX8_wipe_7 : decode cX8_wipe 7 = .ok (.putfield 128, 3) := by decide +kernel
theorem dX8_wipe_10 : decode cX8_wipe 10 = .ok (.iload_n 1, 1) := by decide +kernel
theorem dX8_wipe_11 : decode cX8_wipe 11 = .ok (.ireturn, 1) := by decide +kernel
theorem dX8_undo_0 : decode cX8_undo 0 = .ok (.aload_n 0, 1) := by decide +kernel
theorem dX8_undo_1 : decode cX8_undo 1 = .ok (.getfield 128, 3) := by decide +kernel
theorem dX8_undo_4 : decode cX8_undo 4 = .ok (.ifCond .ne 6, 3) := by decide +kernel
theorem dX8_undo_7 : decode cX8_undo 7 = .ok (.bipush (-3), 2) := by decide +kernel
theorem dX8_undo_9 : decode cX8_undo 9 = .ok (.ireturn, 1) := by decide +kernel
theorem dX8_undo_10 : decode cX8_undo 10 = .ok (.aload_n 0, 1) := by decide +kernel
theorem dX8_undo_11 : decode cX8_undo 11 = .ok (.dup, 1) := by decide +kernel
theorem dX8_undo_12 : decode cX8_undo 12 = .ok (.getfield 128, 3) := by decide +kernel
theorem dX8_undo_15 : decode cX8_undo 15 = .ok (.iconst 1, 1) := by decide +kernel
theorem dX8_undo_16 : decode cX8_undo 16 = .ok (.isub, 1) := by decide +kernel
theorem dX8_undo_17 : decode cX8_undo 17 = .ok (.putfield 128, 3) := by decide +kernel
theorem dX8_undo_20 : decode cX8_undo 20 = .ok (.aload_n 0, 1) := by decide +kernel
theorem dX8_undo_21 : decode cX8_undo 21 = .ok (.getfield 128, 3) := by decide +kernel
theorem dX8_undo_24 : decode cX8_undo 24 = .ok (.ireturn, 1) := by decide +kernel
theorem dX8_byteAt_0 : decode cX8_byteAt 0 = .ok (.iload_n 1, 1) := by decide +kernel
theorem dX8_byteAt_1 : decode cX8_byteAt 1 = .ok (.aload_n 0, 1) := by decide +kernel
theorem dX8_byteAt_2 : decode cX8_byteAt 2 = .ok (.getfield 128, 3) := by decide +kernel
theorem dX8_byteAt_5 : decode cX8_byteAt 5 = .ok (.if_icmp .ge 12, 3) := by decide +kernel
theorem dX8_byteAt_8 : decode cX8_byteAt 8 = .ok (.aload_n 0, 1) := by decide +kernel
theorem dX8_byteAt_9 : decode cX8_byteAt 9 = .ok (.getfield 7, 3) := by decide +kernel
theorem dX8_byteAt_12 : decode cX8_byteAt 12 = .ok (.iload_n 1, 1) := by decide +kernel
theorem dX8_byteAt_13 : decode cX8_byteAt 13 = .ok (.iaload, 1) := by decide +kernel
theorem dX8_byteAt_14 : decode cX8_byteAt 14 = .ok (.goto 4, 3) := by decide +kernel
theorem dX8_byteAt_17 : decode cX8_byteAt 17 = .ok (.iconst (-1), 1) := by decide +kernel
theorem dX8_byteAt_18 : decode cX8_byteAt 18 = .ok (.ireturn, 1) := by decide +kernel
theorem dX8_sortAt_0 : decode cX8_sortAt 0 = .ok (.aload_n 0, 1) := by decide +kernel
theorem dX8_sortAt_1 : decode cX8_sortAt 1 = .ok (.iload_n 1, 1) := by decide +kernel
theorem dX8_sortAt_2 : decode cX8_sortAt 2 = .ok (.invokevirtual 132, 3) := by decide +kernel
theorem dX8_sortAt_5 : decode cX8_sortAt 5 = .ok (.istore_n 2, 1) := by decide +kernel
theorem dX8_sortAt_6 : decode cX8_sortAt 6 = .ok (.iload_n 2, 1) := by decide +kernel
theorem dX8_sortAt_7 : decode cX8_sortAt 7 = .ok (.bipush 115, 2) := by decide +kernel
theorem dX8_sortAt_9 : decode cX8_sortAt 9 = .ok (.if_icmp .ne 7, 3) := by decide +kernel
theorem dX8_sortAt_12 : decode cX8_sortAt 12 = .ok (.iconst 0, 1) := by decide +kernel
theorem dX8_sortAt_13 : decode cX8_sortAt 13 = .ok (.goto 24, 3) := by decide +kernel
theorem dX8_sortAt_16 : decode cX8_sortAt 16 = .ok (.iload_n 2, 1) := by decide +kernel
theorem dX8_sortAt_17 : decode cX8_sortAt 17 = .ok (.bipush 108, 2) := by decide +kernel
theorem dX8_sortAt_19 : decode cX8_sortAt 19 = .ok (.if_icmp .ne 7, 3) := by decide +kernel
theorem dX8_sortAt_22 : decode cX8_sortAt 22 = .ok (.iconst 1, 1) := by decide +kernel
theorem dX8_sortAt_23 : decode cX8_sortAt 23 = .ok (.goto 14, 3) := by decide +kernel
theorem dX8_sortAt_26 : decode cX8_sortAt 26 = .ok (.iload_n 2, 1) := by decide +kernel
theorem dX8_sortAt_27 : decode cX8_sortAt 27 = .ok (.bipush 98, 2) := by decide +kernel
theorem dX8_sortAt_29 : decode cX8_sortAt 29 = .ok (.if_icmp .ne 7, 3) := by decide +kernel
theorem dX8_sortAt_32 : decode cX8_sortAt 32 = .ok (.iconst 2, 1) := by decide +kernel
theorem dX8_sortAt_33 : decode cX8_sortAt 33 = .ok (.goto 4, 3) := by decide +kernel
theorem dX8_sortAt_36 : decode cX8_sortAt 36 = .ok (.iconst (-1), 1) := by decide +kernel
theorem dX8_sortAt_37 : decode cX8_sortAt 37 = .ok (.ireturn, 1) := by decide +kernel
theorem dX8_readsCouple_0 : decode cX8_readsCouple 0 = .ok (.iconst 0, 1) := by decide +kernel
theorem dX8_readsCouple_1 : decode cX8_readsCouple 1 = .ok (.istore_n 3, 1) := by decide +kernel
theorem dX8_readsCouple_2 : decode cX8_readsCouple 2 = .ok (.iload_n 1, 1) := by decide +kernel
theorem dX8_readsCouple_3 : decode cX8_readsCouple 3 = .ok (.bipush 8, 2) := by decide +kernel
theorem dX8_readsCouple_5 : decode cX8_readsCouple 5 = .ok (.if_icmp .ge 31, 3) := by decide +kernel
theorem dX8_readsCouple_8 : decode cX8_readsCouple 8 = .ok (.iload_n 3, 1) := by decide +kernel
theorem dX8_readsCouple_9 : decode cX8_readsCouple 9 = .ok (.iconst 3, 1) := by decide +kernel
theorem dX8_readsCouple_10 : decode cX8_readsCouple 10 = .ok (.if_icmp .ge 26, 3) := by decide +kernel
theorem dX8_readsCouple_13 : decode cX8_readsCouple 13 = .ok (.aload_n 0, 1) := by decide +kernel
theorem dX8_readsCouple_14 : decode cX8_readsCouple 14 = .ok (.iload_n 2, 1) := by decide +kernel
theorem dX8_readsCouple_15 : decode cX8_readsCouple 15 = .ok (.iload_n 3, 1) := by decide +kernel
theorem dX8_readsCouple_16 : decode cX8_readsCouple 16 = .ok (.iadd, 1) := by decide +kernel
theorem dX8_readsCouple_17 : decode cX8_readsCouple 17 = .ok (.invokevirtual 132, 3) := by decide +kernel
theorem dX8_readsCouple_20 : decode cX8_readsCouple 20 = .ok (.bipush 48, 2) := by decide +kernel
theorem dX8_readsCouple_22 : decode cX8_readsCouple 22 = .ok (.bipush 57, 2) := by decide +kernel
theorem dX8_readsCouple_24 : decode cX8_readsCouple 24 = .ok (.invokestatic 124, 3) := by decide +kernel
theorem dX8_readsCouple_27 : decode cX8_readsCouple 27 = .ok (.ifCond .eq 9, 3) := by decide +kernel
theorem dX8_readsCouple_30 : decode cX8_readsCouple 30 = .ok (.iinc 3 1, 3) := by decide +kernel
theorem dX8_readsCouple_33 : decode cX8_readsCouple 33 = .ok (.goto (-31), 3) := by decide +kernel
theorem dX8_readsCouple_36 : decode cX8_readsCouple 36 = .ok (.iload_n 3, 1) := by decide +kernel
theorem dX8_readsCouple_37 : decode cX8_readsCouple 37 = .ok (.iload_n 3, 1) := by decide +kernel
theorem dX8_readsCouple_38 : decode cX8_readsCouple 38 = .ok (.iconst 3, 1) := by decide +kernel
theorem dX8_readsCouple_39 : decode cX8_readsCouple 39 = .ok (.if_icmp .ne 18, 3) := by decide +kernel
theorem dX8_readsCouple_42 : decode cX8_readsCouple 42 = .ok (.aload_n 0, 1) := by decide +kernel
theorem dX8_readsCouple_43 : decode cX8_readsCouple 43 = .ok (.iload_n 2, 1) := by decide +kernel
theorem dX8_readsCouple_44 : decode cX8_readsCouple 44 = .ok (.iconst 3, 1) := by decide +kernel
theorem dX8_readsCouple_45 : decode cX8_readsCouple 45 = .ok (.iadd, 1) := by decide +kernel
theorem dX8_readsCouple_46 : decode cX8_readsCouple 46 = .ok (.invokevirtual 136, 3) := by decide +kernel
theorem dX8_readsCouple_49 : decode cX8_readsCouple 49 = .ok (.iconst (-1), 1) := by decide +kernel
theorem dX8_readsCouple_50 : decode cX8_readsCouple 50 = .ok (.if_icmp .eq 7, 3) := by decide +kernel
theorem dX8_readsCouple_53 : decode cX8_readsCouple 53 = .ok (.iconst 1, 1) := by decide +kernel
theorem dX8_readsCouple_54 : decode cX8_readsCouple 54 = .ok (.goto 4, 3) := by decide +kernel
theorem dX8_readsCouple_57 : decode cX8_readsCouple 57 = .ok (.iconst 0, 1) := by decide +kernel
theorem dX8_readsCouple_58 : decode cX8_readsCouple 58 = .ok (.iadd, 1) := by decide +kernel
theorem dX8_readsCouple_59 : decode cX8_readsCouple 59 = .ok (.istore_n 3, 1) := by decide +kernel
theorem dX8_readsCouple_60 : decode cX8_readsCouple 60 = .ok (.iload_n 3, 1) := by decide +kernel
theorem dX8_readsCouple_61 : decode cX8_readsCouple 61 = .ok (.iconst 4, 1) := by decide +kernel
theorem dX8_readsCouple_62 : decode cX8_readsCouple 62 = .ok (.if_icmp .ne 62, 3) := by decide +kernel
theorem dX8_readsCouple_65 : decode cX8_readsCouple 65 = .ok (.aload_n 0, 1) := by decide +kernel
theorem dX8_readsCouple_66 : decode cX8_readsCouple 66 = .ok (.getfield 13, 3) := by decide +kernel
theorem dX8_readsCouple_69 : decode cX8_readsCouple 69 = .ok (.iload_n 1, 1) := by decide +kernel
theorem dX8_readsCouple_70 : decode cX8_readsCouple 70 = .ok (.aload_n 0, 1) := by decide +kernel
theorem dX8_readsCouple_71 : decode cX8_readsCouple 71 = .ok (.iload_n 2, 1) := by decide +kernel
theorem dX8_readsCouple_72 : decode cX8_readsCouple 72 = .ok (.invokevirtual 132, 3) := by decide +kernel
theorem dX8_readsCouple_75 : decode cX8_readsCouple 75 = .ok (.bipush 48, 2) := by decide +kernel
theorem dX8_readsCouple_77 : decode cX8_readsCouple 77 = .ok (.isub, 1) := by decide +kernel
theorem dX8_readsCouple_78 : decode cX8_readsCouple 78 = .ok (.iastore, 1) := by decide +kernel
theorem dX8_readsCouple_79 : decode cX8_readsCouple 79 = .ok (.aload_n 0, 1) := by decide +kernel
theorem dX8_readsCouple_80 : decode cX8_readsCouple 80 = .ok (.getfield 16, 3) := by decide +kernel
theorem dX8_readsCouple_83 : decode cX8_readsCouple 83 = .ok (.iload_n 1, 1) := by decide +kernel
theorem dX8_readsCouple_84 : decode cX8_readsCouple 84 = .ok (.aload_n 0, 1) := by decide +kernel
theorem dX8_readsCouple_85 : decode cX8_readsCouple 85 = .ok (.iload_n 2, 1) := by decide +kernel
theorem dX8_readsCouple_86 : decode cX8_readsCouple 86 = .ok (.iconst 1, 1) := by decide +kernel
theorem dX8_readsCouple_87 : decode cX8_readsCouple 87 = .ok (.iadd, 1) := by decide +kernel
theorem dX8_readsCouple_88 : decode cX8_readsCouple 88 = .ok (.invokevirtual 132, 3) := by decide +kernel
theorem dX8_readsCouple_91 : decode cX8_readsCouple 91 = .ok (.bipush 48, 2) := by decide +kernel
theorem dX8_readsCouple_93 : decode cX8_readsCouple 93 = .ok (.isub, 1) := by decide +kernel
theorem dX8_readsCouple_94 : decode cX8_readsCouple 94 = .ok (.iastore, 1) := by decide +kernel
theorem dX8_readsCouple_95 : decode cX8_readsCouple 95 = .ok (.aload_n 0, 1) := by decide +kernel
theorem dX8_readsCouple_96 : decode cX8_readsCouple 96 = .ok (.getfield 19, 3) := by decide +kernel
theorem dX8_readsCouple_99 : decode cX8_readsCouple 99 = .ok (.iload_n 1, 1) := by decide +kernel
theorem dX8_readsCouple_100 : decode cX8_readsCouple 100 = .ok (.aload_n 0, 1) := by decide +kernel
theorem dX8_readsCouple_101 : decode cX8_readsCouple 101 = .ok (.iload_n 2, 1) := by decide +kernel
theorem dX8_readsCouple_102 : decode cX8_readsCouple 102 = .ok (.iconst 2, 1) := by decide +kernel
theorem dX8_readsCouple_103 : decode cX8_readsCouple 103 = .ok (.iadd, 1) := by decide +kernel
theorem dX8_readsCouple_104 : decode cX8_readsCouple 104 = .ok (.invokevirtual 132, 3) := by decide +kernel
theorem dX8_readsCouple_107 : decode cX8_readsCouple 107 = .ok (.bipush 48, 2) := by decide +kernel
theorem dX8_readsCouple_109 : decode cX8_readsCouple 109 = .ok (.isub, 1) := by decide +kernel
theorem dX8_readsCouple_110 : decode cX8_readsCouple 110 = .ok (.iastore, 1) := by decide +kernel
theorem dX8_readsCouple_111 : decode cX8_readsCouple 111 = .ok (.aload_n 0, 1) := by decide +kernel
theorem dX8_readsCouple_112 : decode cX8_readsCouple 112 = .ok (.getfield 22, 3) := by decide +kernel
theorem dX8_readsCouple_115 : decode cX8_readsCouple 115 = .ok (.iload_n 1, 1) := by decide +kernel
theorem dX8_readsCouple_116 : decode cX8_readsCouple 116 = .ok (.aload_n 0, 1) := by decide +kernel
theorem dX8_readsCouple_117 : decode cX8_readsCouple 117 = .ok (.iload_n 2, 1) := by decide +kernel
theorem dX8_readsCouple_118 : decode cX8_readsCouple 118 = .ok (.iconst 3, 1) := by decide +kernel
theorem dX8_readsCouple_119 : decode cX8_readsCouple 119 = .ok (.iadd, 1) := by decide +kernel
theorem dX8_readsCouple_120 : decode cX8_readsCouple 120 = .ok (.invokevirtual 136, 3) := by decide +kernel
theorem dX8_readsCouple_123 : decode cX8_readsCouple 123 = .ok (.iastore, 1) := by decide +kernel
theorem dX8_readsCouple_124 : decode cX8_readsCouple 124 = .ok (.iload_n 3, 1) := by decide +kernel
theorem dX8_readsCouple_125 : decode cX8_readsCouple 125 = .ok (.ireturn, 1) := by decide +kernel
theorem dX8_faultNow_0 : decode cX8_faultNow 0 = .ok (.iconst 0, 1) := by decide +kernel
theorem dX8_faultNow_1 : decode cX8_faultNow 1 = .ok (.istore_n 1, 1) := by decide +kernel
theorem dX8_faultNow_2 : decode cX8_faultNow 2 = .ok (.iconst 0, 1) := by decide +kernel
theorem dX8_faultNow_3 : decode cX8_faultNow 3 = .ok (.istore_n 2, 1) := by decide +kernel
theorem dX8_faultNow_4 : decode cX8_faultNow 4 = .ok (.aload_n 0, 1) := by decide +kernel
theorem dX8_faultNow_5 : decode cX8_faultNow 5 = .ok (.iconst 0, 1) := by decide +kernel
theorem dX8_faultNow_6 : decode cX8_faultNow 6 = .ok (.putfield 139, 3) := by decide +kernel
theorem dX8_faultNow_9 : decode cX8_faultNow 9 = .ok (.iload_n 2, 1) := by decide +kernel
theorem dX8_faultNow_10 : decode cX8_faultNow 10 = .ok (.aload_n 0, 1) := by decide +kernel
theorem dX8_faultNow_11 : decode cX8_faultNow 11 = .ok (.getfield 128, 3) := by decide +kernel
theorem dX8_faultNow_14 : decode cX8_faultNow 14 = .ok (.if_icmp .lt 7, 3) := by decide +kernel
theorem dX8_faultNow_17 : decode cX8_faultNow 17 = .ok (.iload_n 2, 1) := by decide +kernel
theorem dX8_faultNow_18 : decode cX8_faultNow 18 = .ok (.ifCond .le 58, 3) := by decide +kernel
theorem dX8_faultNow_21 : decode cX8_faultNow 21 = .ok (.aload_n 0, 1) := by decide +kernel
theorem dX8_faultNow_22 : decode cX8_faultNow 22 = .ok (.iload_n 1, 1) := by decide +kernel
theorem dX8_faultNow_23 : decode cX8_faultNow 23 = .ok (.iload_n 2, 1) := by decide +kernel
theorem dX8_faultNow_24 : decode cX8_faultNow 24 = .ok (.invokevirtual 142, 3) := by decide +kernel
theorem dX8_faultNow_27 : decode cX8_faultNow 27 = .ok (.istore_n 3, 1) := by decide +kernel
theorem dX8_faultNow_28 : decode cX8_faultNow 28 = .ok (.iload_n 3, 1) := by decide +kernel
theorem dX8_faultNow_29 : decode cX8_faultNow 29 = .ok (.iconst 4, 1) := by decide +kernel
theorem dX8_faultNow_30 : decode cX8_faultNow 30 = .ok (.if_icmp .ge 7, 3) := by decide +kernel
theorem dX8_faultNow_33 : decode cX8_faultNow 33 = .ok (.iload_n 2, 1) := by decide +kernel
theorem dX8_faultNow_34 : decode cX8_faultNow 34 = .ok (.iload_n 3, 1) := by decide +kernel
theorem dX8_faultNow_35 : decode cX8_faultNow 35 = .ok (.iadd, 1) := by decide +kernel
theorem dX8_faultNow_36 : decode cX8_faultNow 36 = .ok (.ireturn, 1) := by decide +kernel
theorem dX8_faultNow_37 : decode cX8_faultNow 37 = .ok (.iinc 1 1, 3) := by decide +kernel
theorem dX8_faultNow_40 : decode cX8_faultNow 40 = .ok (.iinc 2 4, 3) := by decide +kernel
theorem dX8_faultNow_43 : decode cX8_faultNow 43 = .ok (.iload_n 2, 1) := by decide +kernel
theorem dX8_faultNow_44 : decode cX8_faultNow 44 = .ok (.aload_n 0, 1) := by decide +kernel
theorem dX8_faultNow_45 : decode cX8_faultNow 45 = .ok (.getfield 128, 3) := by decide +kernel
theorem dX8_faultNow_48 : decode cX8_faultNow 48 = .ok (.if_icmp .ne 10, 3) := by decide +kernel
theorem dX8_faultNow_51 : decode cX8_faultNow 51 = .ok (.aload_n 0, 1) := by decide +kernel
theorem dX8_faultNow_52 : decode cX8_faultNow 52 = .ok (.iload_n 1, 1) := by decide +kernel
theorem dX8_faultNow_53 : decode cX8_faultNow 53 = .ok (.putfield 139, 3) := by decide +kernel
theorem dX8_faultNow_56 : decode cX8_faultNow 56 = .ok (.iconst (-1), 1) := by decide +kernel
theorem dX8_faultNow_57 : decode cX8_faultNow 57 = .ok (.ireturn, 1) := by decide +kernel
theorem dX8_faultNow_58 : decode cX8_faultNow 58 = .ok (.aload_n 0, 1) := by decide +kernel
theorem dX8_faultNow_59 : decode cX8_faultNow 59 = .ok (.iload_n 2, 1) := by decide +kernel
theorem dX8_faultNow_60 : decode cX8_faultNow 60 = .ok (.invokevirtual 132, 3) := by decide +kernel
theorem dX8_faultNow_63 : decode cX8_faultNow 63 = .ok (.bipush 59, 2) := by decide +kernel
theorem dX8_faultNow_65 : decode cX8_faultNow 65 = .ok (.if_icmp .eq 5, 3) := by decide +kernel
theorem dX8_faultNow_68 : decode cX8_faultNow 68 = .ok (.iload_n 2, 1) := by decide +kernel
theorem dX8_faultNow_69 : decode cX8_faultNow 69 = .ok (.ireturn, 1) := by decide +kernel
theorem dX8_faultNow_70 : decode cX8_faultNow 70 = .ok (.iinc 2 1, 3) := by decide +kernel
theorem dX8_faultNow_73 : decode cX8_faultNow 73 = .ok (.goto (-64), 3) := by decide +kernel
theorem dX8_faultNow_76 : decode cX8_faultNow 76 = .ok (.iconst (-1), 1) := by decide +kernel
theorem dX8_faultNow_77 : decode cX8_faultNow 77 = .ok (.ireturn, 1) := by decide +kernel
theorem dX8_reads_0 : decode cX8_reads 0 = .ok (.aload_n 0, 1) := by decide +kernel
theorem dX8_reads_1 : decode cX8_reads 1 = .ok (.invokevirtual 146, 3) := by decide +kernel
theorem dX8_reads_4 : decode cX8_reads 4 = .ok (.istore_n 1, 1) := by decide +kernel
theorem dX8_reads_5 : decode cX8_reads 5 = .ok (.return_, 1) := by decide +kernel
theorem dX8_fault_0 : decode cX8_fault 0 = .ok (.aload_n 0, 1) := by decide +kernel
theorem dX8_fault_1 : decode cX8_fault 1 = .ok (.invokevirtual 146, 3) := by decide +kernel
theorem dX8_fault_4 : decode cX8_fault 4 = .ok (.ireturn, 1) := by decide +kernel
theorem dX8_isCouple_0 : decode cX8_isCouple 0 = .ok (.aload_n 0, 1) := by decide +kernel
theorem dX8_isCouple_1 : decode cX8_isCouple 1 = .ok (.invokevirtual 150, 3) := by decide +kernel
theorem dX8_isCouple_4 : decode cX8_isCouple 4 = .ok (.iload_n 1, 1) := by decide +kernel
theorem dX8_isCouple_5 : decode cX8_isCouple 5 = .ok (.iconst 0, 1) := by decide +kernel
theorem dX8_isCouple_6 : decode cX8_isCouple 6 = .ok (.aload_n 0, 1) := by decide +kernel
theorem dX8_isCouple_7 : decode cX8_isCouple 7 = .ok (.getfield 139, 3) := by decide +kernel
theorem dX8_isCouple_10 : decode cX8_isCouple 10 = .ok (.iconst 1, 1) := by decide +kernel
theorem dX8_isCouple_11 : decode cX8_isCouple 11 = .ok (.isub, 1) := by decide +kernel
theorem dX8_isCouple_12 : decode cX8_isCouple 12 = .ok (.invokestatic 124, 3) := by decide +kernel
theorem dX8_isCouple_15 : decode cX8_isCouple 15 = .ok (.ireturn, 1) := by decide +kernel
theorem dX8_coupleOf_0 : decode cX8_coupleOf 0 = .ok (.iload_n 2, 1) := by decide +kernel
theorem dX8_coupleOf_1 : decode cX8_coupleOf 1 = .ok (.ifCond .ne 12, 3) := by decide +kernel
theorem dX8_coupleOf_4 : decode cX8_coupleOf 4 = .ok (.aload_n 0, 1) := by decide +kernel
theorem dX8_coupleOf_5 : decode cX8_coupleOf 5 = .ok (.getfield 13, 3) := by decide +kernel
theorem dX8_coupleOf_8 : decode cX8_coupleOf 8 = .ok (.iload_n 1, 1) := by decide +kernel
theorem dX8_coupleOf_9 : decode cX8_coupleOf 9 = .ok (.iaload, 1) := by decide +kernel
theorem dX8_coupleOf_10 : decode cX8_coupleOf 10 = .ok (.goto 37, 3) := by decide +kernel
theorem dX8_coupleOf_13 : decode cX8_coupleOf 13 = .ok (.iload_n 2, 1) := by decide +kernel
theorem dX8_coupleOf_14 : decode cX8_coupleOf 14 = .ok (.iconst 1, 1) := by decide +kernel
theorem dX8_coupleOf_15 : decode cX8_coupleOf 15 = .ok (.if_icmp .ne 12, 3) := by decide +kernel
theorem dX8_coupleOf_18 : decode cX8_coupleOf 18 = .ok (.aload_n 0, 1) := by decide +kernel
theorem dX8_coupleOf_19 : decode cX8_coupleOf 19 = .ok (.getfield 16, 3) := by decide +kernel
theorem dX8_coupleOf_22 : decode cX8_coupleOf 22 = .ok (.iload_n 1, 1) := by decide +kernel
theorem dX8_coupleOf_23 : decode cX8_coupleOf 23 = .ok (.iaload, 1) := by decide +kernel
theorem dX8_coupleOf_24 : decode cX8_coupleOf 24 = .ok (.goto 23, 3) := by decide +kernel
theorem dX8_coupleOf_27 : decode cX8_coupleOf 27 = .ok (.iload_n 2, 1) := by decide +kernel
theorem dX8_coupleOf_28 : decode cX8_coupleOf 28 = .ok (.iconst 2, 1) := by decide +kernel
theorem dX8_coupleOf_29 : decode cX8_coupleOf 29 = .ok (.if_icmp .ne 12, 3) := by decide +kernel
theorem dX8_coupleOf_32 : decode cX8_coupleOf 32 = .ok (.aload_n 0, 1) := by decide +kernel
theorem dX8_coupleOf_33 : decode cX8_coupleOf 33 = .ok (.getfield 19, 3) := by decide +kernel
theorem dX8_coupleOf_36 : decode cX8_coupleOf 36 = .ok (.iload_n 1, 1) := by decide +kernel
theorem dX8_coupleOf_37 : decode cX8_coupleOf 37 = .ok (.iaload, 1) := by decide +kernel
theorem dX8_coupleOf_38 : decode cX8_coupleOf 38 = .ok (.goto 9, 3) := by decide +kernel
theorem dX8_coupleOf_41 : decode cX8_coupleOf 41 = .ok (.aload_n 0, 1) := by decide +kernel
theorem dX8_coupleOf_42 : decode cX8_coupleOf 42 = .ok (.getfield 22, 3) := by decide +kernel
theorem dX8_coupleOf_45 : decode cX8_coupleOf 45 = .ok (.iload_n 1, 1) := by decide +kernel
theorem dX8_coupleOf_46 : decode cX8_coupleOf 46 = .ok (.iaload, 1) := by decide +kernel
theorem dX8_coupleOf_47 : decode cX8_coupleOf 47 = .ok (.ireturn, 1) := by decide +kernel
theorem dX8_couple_0 : decode cX8_couple 0 = .ok (.aload_n 0, 1) := by decide +kernel
theorem dX8_couple_1 : decode cX8_couple 1 = .ok (.iload_n 1, 1) := by decide +kernel
theorem dX8_couple_2 : decode cX8_couple 2 = .ok (.invokevirtual 153, 3) := by decide +kernel
theorem dX8_couple_5 : decode cX8_couple 5 = .ok (.ifCond .eq 21, 3) := by decide +kernel
theorem dX8_couple_8 : decode cX8_couple 8 = .ok (.iload_n 2, 1) := by decide +kernel
theorem dX8_couple_9 : decode cX8_couple 9 = .ok (.iconst 0, 1) := by decide +kernel
theorem dX8_couple_10 : decode cX8_couple 10 = .ok (.iconst 3, 1) := by decide +kernel
theorem dX8_couple_11 : decode cX8_couple 11 = .ok (.invokestatic 124, 3) := by decide +kernel
theorem dX8_couple_14 : decode cX8_couple 14 = .ok (.ifCond .eq 12, 3) := by decide +kernel
theorem dX8_couple_17 : decode cX8_couple 17 = .ok (.aload_n 0, 1) := by decide +kernel
theorem dX8_couple_18 : decode cX8_couple 18 = .ok (.iload_n 1, 1) := by decide +kernel
theorem dX8_couple_19 : decode cX8_couple 19 = .ok (.iload_n 2, 1) := by decide +kernel
theorem dX8_couple_20 : decode cX8_couple 20 = .ok (.invokevirtual 157, 3) := by decide +kernel
theorem dX8_couple_23 : decode cX8_couple 23 = .ok (.goto 5, 3) := by decide +kernel
theorem dX8_couple_26 : decode cX8_couple 26 = .ok (.bipush (-2), 2) := by decide +kernel
theorem dX8_couple_28 : decode cX8_couple 28 = .ok (.ireturn, 1) := by decide +kernel
theorem dX8_event_0 : decode cX8_event 0 = .ok (.iload_n 1, 1) := by decide +kernel
theorem dX8_event_1 : decode cX8_event 1 = .ok (.iconst 0, 1) := by decide +kernel
theorem dX8_event_2 : decode cX8_event 2 = .ok (.iconst 2, 1) := by decide +kernel
theorem dX8_event_3 : decode cX8_event 3 = .ok (.invokestatic 124, 3) := by decide +kernel
theorem dX8_event_6 : decode cX8_event 6 = .ok (.ifCond .eq 28, 3) := by decide +kernel
theorem dX8_event_9 : decode cX8_event 9 = .ok (.iload_n 2, 1) := by decide +kernel
theorem dX8_event_10 : decode cX8_event 10 = .ok (.invokestatic 160, 3) := by decide +kernel
theorem dX8_event_13 : decode cX8_event 13 = .ok (.ifCond .eq 21, 3) := by decide +kernel
theorem dX8_event_16 : decode cX8_event 16 = .ok (.iload_n 3, 1) := by decide +kernel
theorem dX8_event_17 : decode cX8_event 17 = .ok (.invokestatic 163, 3) := by decide +kernel
theorem dX8_event_20 : decode cX8_event 20 = .ok (.ifCond .eq 14, 3) := by decide +kernel
theorem dX8_event_23 : decode cX8_event 23 = .ok (.iload 4, 2) := by decide +kernel
theorem dX8_event_25 : decode cX8_event 25 = .ok (.iconst 0, 1) := by decide +kernel
theorem dX8_event_26 : decode cX8_event 26 = .ok (.bipush 9, 2) := by decide +kernel
theorem dX8_event_28 : decode cX8_event 28 = .ok (.invokestatic 124, 3) := by decide +kernel
theorem dX8_event_31 : decode cX8_event 31 = .ok (.ifCond .ne 6, 3) := by decide +kernel
theorem dX8_event_34 : decode cX8_event 34 = .ok (.bipush (-2), 2) := by decide +kernel
theorem dX8_event_36 : decode cX8_event 36 = .ok (.ireturn, 1) := by decide +kernel
theorem dX8_event_37 : decode cX8_event 37 = .ok (.aload_n 0, 1) := by decide +kernel
theorem dX8_event_38 : decode cX8_event 38 = .ok (.getfield 166, 3) := by decide +kernel
theorem dX8_event_41 : decode cX8_event 41 = .ok (.bipush 8, 2) := by decide +kernel
theorem dX8_event_43 : decode cX8_event 43 = .ok (.if_icmp .ne 6, 3) := by decide +kernel
theorem dX8_event_46 : decode cX8_event 46 = .ok (.bipush (-4), 2) := by decide +kernel
theorem dX8_event_48 : decode cX8_event 48 = .ok (.ireturn, 1) := by decide +kernel
theorem dX8_event_49 : decode cX8_event 49 = .ok (.aload_n 0, 1) := by decide +kernel
theorem dX8_event_50 : decode cX8_event 50 = .ok (.getfield 25, 3) := by decide +kernel
theorem dX8_event_53 : decode cX8_event 53 = .ok (.aload_n 0, 1) := by decide +kernel
theorem dX8_event_54 : decode cX8_event 54 = .ok (.getfield 166, 3) := by decide +kernel
theorem dX8_event_57 : decode cX8_event 57 = .ok (.iload_n 1, 1) := by decide +kernel
theorem dX8_event_58 : decode cX8_event 58 = .ok (.iastore, 1) := by decide +kernel
theorem dX8_event_59 : decode cX8_event 59 = .ok (.aload_n 0, 1) := by decide +kernel
theorem dX8_event_60 : decode cX8_event 60 = .ok (.getfield 28, 3) := by decide +kernel
theorem dX8_event_63 : decode cX8_event 63 = .ok (.aload_n 0, 1) := by decide +kernel
theorem dX8_event_64 : decode cX8_event 64 = .ok (.getfield 166, 3) := by decide +kernel
theorem dX8_event_67 : decode cX8_event 67 = .ok (.iload_n 2, 1) := by decide +kernel
theorem dX8_event_68 : decode cX8_event 68 = .ok (.iastore, 1) := by decide +kernel
theorem dX8_event_69 : decode cX8_event 69 = .ok (.aload_n 0, 1) := by decide +kernel
theorem dX8_event_70 : decode cX8_event 70 = .ok (.getfield 31, 3) := by decide +kernel
theorem dX8_event_73 : decode cX8_event 73 = .ok (.aload_n 0, 1) := by decide +kernel
theorem dX8_event_74 : decode cX8_event 74 = .ok (.getfield 166, 3) := by decide +kernel
theorem dX8_event_77 : decode cX8_event 77 = .ok (.iload_n 3, 1) := by decide +kernel
theorem dX8_event_78 : decode cX8_event 78 = .ok (.iastore, 1) := by decide +kernel
theorem dX8_event_79 : decode cX8_event 79 = .ok (.aload_n 0, 1) := by decide +kernel
theorem dX8_event_80 : decode cX8_event 80 = .ok (.getfield 34, 3) := by decide +kernel
theorem dX8_event_83 : decode cX8_event 83 = .ok (.aload_n 0, 1) := by decide +kernel
theorem dX8_event_84 : decode cX8_event 84 = .ok (.getfield 166, 3) := by decide +kernel
theorem dX8_event_87 : decode cX8_event 87 = .ok (.iload 4, 2) := by decide +kernel
theorem dX8_event_89 : decode cX8_event 89 = .ok (.iastore, 1) := by decide +kernel
theorem dX8_event_90 : decode cX8_event 90 = .ok (.aload_n 0, 1) := by decide +kernel
theorem dX8_event_91 : decode cX8_event 91 = .ok (.dup, 1) := by decide +kernel
theorem dX8_event_92 : decode cX8_event 92 = .ok (.getfield 166, 3) := by decide +kernel
theorem dX8_event_95 : decode cX8_event 95 = .ok (.iconst 1, 1) := by decide +kernel
theorem dX8_event_96 : decode cX8_event 96 = .ok (.iadd, 1) := by decide +kernel
theorem dX8_event_97 : decode cX8_event 97 = .ok (.putfield 166, 3) := by decide +kernel
theorem dX8_event_100 : decode cX8_event 100 = .ok (.aload_n 0, 1) := by decide +kernel
theorem dX8_event_101 : decode cX8_event 101 = .ok (.getfield 166, 3) := by decide +kernel
theorem dX8_event_104 : decode cX8_event 104 = .ok (.ireturn, 1) := by decide +kernel
theorem dX8_back_0 : decode cX8_back 0 = .ok (.aload_n 0, 1) := by decide +kernel
theorem dX8_back_1 : decode cX8_back 1 = .ok (.getfield 166, 3) := by decide +kernel
theorem dX8_back_4 : decode cX8_back 4 = .ok (.ifCond .ne 6, 3) := by decide +kernel
theorem dX8_back_7 : decode cX8_back 7 = .ok (.bipush (-3), 2) := by decide +kernel
theorem dX8_back_9 : decode cX8_back 9 = .ok (.ireturn, 1) := by decide +kernel
theorem dX8_back_10 : decode cX8_back 10 = .ok (.aload_n 0, 1) := by decide +kernel
theorem dX8_back_11 : decode cX8_back 11 = .ok (.dup, 1) := by decide +kernel
theorem dX8_back_12 : decode cX8_back 12 = .ok (.getfield 166, 3) := by decide +kernel
theorem dX8_back_15 : decode cX8_back 15 = .ok (.iconst 1, 1) := by decide +kernel
theorem dX8_back_16 : decode cX8_back 16 = .ok (.isub, 1) := by decide +kernel
theorem dX8_back_17 : decode cX8_back 17 = .ok (.putfield 166, 3) := by decide +kernel
theorem dX8_back_20 : decode cX8_back 20 = .ok (.aload_n 0, 1) := by decide +kernel
theorem dX8_back_21 : decode cX8_back 21 = .ok (.getfield 166, 3) := by decide +kernel
theorem dX8_back_24 : decode cX8_back 24 = .ok (.ireturn, 1) := by decide +kernel
theorem dX8_read_0 : decode cX8_read 0 = .ok (.iload_n 1, 1) := by decide +kernel
theorem dX8_read_1 : decode cX8_read 1 = .ok (.invokestatic 169, 3) := by decide +kernel
theorem dX8_read_4 : decode cX8_read 4 = .ok (.ifCond .ne 6, 3) := by decide +kernel
theorem dX8_read_7 : decode cX8_read 7 = .ok (.bipush (-2), 2) := by decide +kernel
theorem dX8_read_9 : decode cX8_read 9 = .ok (.ireturn, 1) := by decide +kernel
theorem dX8_read_10 : decode cX8_read 10 = .ok (.aload_n 0, 1) := by decide +kernel
theorem dX8_read_11 : decode cX8_read 11 = .ok (.getfield 106, 3) := by decide +kernel
theorem dX8_read_14 : decode cX8_read 14 = .ok (.iload_n 1, 1) := by decide +kernel
theorem dX8_read_15 : decode cX8_read 15 = .ok (.baload, 1) := by decide +kernel
theorem dX8_read_16 : decode cX8_read 16 = .ok (.ifCond .ne 9, 3) := by decide +kernel
theorem dX8_read_19 : decode cX8_read 19 = .ok (.aload_n 0, 1) := by decide +kernel
theorem dX8_read_20 : decode cX8_read 20 = .ok (.iconst 1, 1) := by decide +kernel
theorem dX8_read_21 : decode cX8_read 21 = .ok (.invokevirtual 172, 3) := by decide +kernel
theorem dX8_read_24 : decode cX8_read 24 = .ok (.ireturn, 1) := by decide +kernel
theorem dX8_read_25 : decode cX8_read 25 = .ok (.iconst 0, 1) := by decide +kernel
theorem dX8_read_26 : decode cX8_read 26 = .ok (.istore_n 2, 1) := by decide +kernel
theorem dX8_read_27 : decode cX8_read 27 = .ok (.bipush 60, 2) := by decide +kernel
theorem dX8_read_29 : decode cX8_read 29 = .ok (.iload_n 1, 1) := by decide +kernel
theorem dX8_read_30 : decode cX8_read 30 = .ok (.imul, 1) := by decide +kernel
theorem dX8_read_31 : decode cX8_read 31 = .ok (.istore_n 3, 1) := by decide +kernel
theorem dX8_read_32 : decode cX8_read 32 = .ok (.iconst 4, 1) := by decide +kernel
theorem dX8_read_33 : decode cX8_read 33 = .ok (.iload_n 2, 1) := by decide +kernel
theorem dX8_read_34 : decode cX8_read 34 = .ok (.imul, 1) := by decide +kernel
theorem dX8_read_35 : decode cX8_read 35 = .ok (.iconst 3, 1) := by decide +kernel
theorem dX8_read_36 : decode cX8_read 36 = .ok (.iadd, 1) := by decide +kernel
theorem dX8_read_37 : decode cX8_read 37 = .ok (.aload_n 0, 1) := by decide +kernel
theorem dX8_read_38 : decode cX8_read 38 = .ok (.getfield 113, 3) := by decide +kernel
theorem dX8_read_41 : decode cX8_read 41 = .ok (.iload_n 1, 1) := by decide +kernel
theorem dX8_read_42 : decode cX8_read 42 = .ok (.iaload, 1) := by decide +kernel
theorem dX8_read_43 : decode cX8_read 43 = .ok (.if_icmp .ge 62, 3) := by decide +kernel
theorem dX8_read_46 : decode cX8_read 46 = .ok (.aload_n 0, 1) := by decide +kernel
theorem dX8_read_47 : decode cX8_read 47 = .ok (.aload_n 0, 1) := by decide +kernel
theorem dX8_read_48 : decode cX8_read 48 = .ok (.getfield 116, 3) := by decide +kernel
theorem dX8_read_51 : decode cX8_read 51 = .ok (.iload_n 3, 1) := by decide +kernel
theorem dX8_read_52 : decode cX8_read 52 = .ok (.iconst 4, 1) := by decide +kernel
theorem dX8_read_53 : decode cX8_read 53 = .ok (.iload_n 2, 1) := by decide +kernel
theorem dX8_read_54 : decode cX8_read 54 = .ok (.imul, 1) := by decide +kernel
theorem dX8_read_55 : decode cX8_read 55 = .ok (.iadd, 1) := by decide +kernel
theorem dX8_read_56 : decode cX8_read 56 = .ok (.iaload, 1) := by decide +kernel
theorem dX8_read_57 : decode cX8_read 57 = .ok (.aload_n 0, 1) := by decide +kernel
theorem dX8_read_58 : decode cX8_read 58 = .ok (.getfield 116, 3) := by decide +kernel
theorem dX8_read_61 : decode cX8_read 61 = .ok (.iload_n 3, 1) := by decide +kernel
theorem dX8_read_62 : decode cX8_read 62 = .ok (.iconst 4, 1) := by decide +kernel
theorem dX8_read_63 : decode cX8_read 63 = .ok (.iload_n 2, 1) := by decide +kernel
theorem dX8_read_64 : decode cX8_read 64 = .ok (.imul, 1) := by decide +kernel
theorem dX8_read_65 : decode cX8_read 65 = .ok (.iadd, 1) := by decide +kernel
theorem dX8_read_66 : decode cX8_read 66 = .ok (.iconst 1, 1) := by decide +kernel
theorem dX8_read_67 : decode cX8_read 67 = .ok (.iadd, 1) := by decide +kernel
theorem dX8_read_68 : decode cX8_read 68 = .ok (.iaload, 1) := by decide +kernel
theorem dX8_read_69 : decode cX8_read 69 = .ok (.aload_n 0, 1) := by decide +kernel
theorem dX8_read_70 : decode cX8_read 70 = .ok (.getfield 116, 3) := by decide +kernel
theorem dX8_read_73 : decode cX8_read 73 = .ok (.iload_n 3, 1) := by decide +kernel
theorem dX8_read_74 : decode cX8_read 74 = .ok (.iconst 4, 1) := by decide +kernel
theorem dX8_read_75 : decode cX8_read 75 = .ok (.iload_n 2, 1) := by decide +kernel
theorem dX8_read_76 : decode cX8_read 76 = .ok (.imul, 1) := by decide +kernel
theorem dX8_read_77 : decode cX8_read 77 = .ok (.iadd, 1) := by decide +kernel
theorem dX8_read_78 : decode cX8_read 78 = .ok (.iconst 2, 1) := by decide +kernel
theorem dX8_read_79 : decode cX8_read 79 = .ok (.iadd, 1) := by decide +kernel
theorem dX8_read_80 : decode cX8_read 80 = .ok (.iaload, 1) := by decide +kernel
theorem dX8_read_81 : decode cX8_read 81 = .ok (.aload_n 0, 1) := by decide +kernel
theorem dX8_read_82 : decode cX8_read 82 = .ok (.getfield 116, 3) := by decide +kernel
theorem dX8_read_85 : decode cX8_read 85 = .ok (.iload_n 3, 1) := by decide +kernel
theorem dX8_read_86 : decode cX8_read 86 = .ok (.iconst 4, 1) := by decide +kernel
theorem dX8_read_87 : decode cX8_read 87 = .ok (.iload_n 2, 1) := by decide +kernel
theorem dX8_read_88 : decode cX8_read 88 = .ok (.imul, 1) := by decide +kernel
theorem dX8_read_89 : decode cX8_read 89 = .ok (.iadd, 1) := by decide +kernel
theorem dX8_read_90 : decode cX8_read 90 = .ok (.iconst 3, 1) := by decide +kernel
theorem dX8_read_91 : decode cX8_read 91 = .ok (.iadd, 1) := by decide +kernel
theorem dX8_read_92 : decode cX8_read 92 = .ok (.iaload, 1) := by decide +kernel
theorem dX8_read_93 : decode cX8_read 93 = .ok (.invokevirtual 175, 3) := by decide +kernel
theorem dX8_read_96 : decode cX8_read 96 = .ok (.ifCond .le 9, 3) := by decide +kernel
theorem dX8_read_99 : decode cX8_read 99 = .ok (.iinc 2 1, 3) := by decide +kernel
theorem dX8_read_102 : decode cX8_read 102 = .ok (.goto (-70), 3) := by decide +kernel
theorem dX8_read_105 : decode cX8_read 105 = .ok (.iload_n 2, 1) := by decide +kernel
theorem dX8_read_106 : decode cX8_read 106 = .ok (.ireturn, 1) := by decide +kernel
theorem dX8_asTold_0 : decode cX8_asTold 0 = .ok (.aload_n 0, 1) := by decide +kernel
theorem dX8_asTold_1 : decode cX8_asTold 1 = .ok (.invokevirtual 150, 3) := by decide +kernel
theorem dX8_asTold_4 : decode cX8_asTold 4 = .ok (.aload_n 0, 1) := by decide +kernel
theorem dX8_asTold_5 : decode cX8_asTold 5 = .ok (.aload_n 0, 1) := by decide +kernel
theorem dX8_asTold_6 : decode cX8_asTold 6 = .ok (.getfield 166, 3) := by decide +kernel
theorem dX8_asTold_9 : decode cX8_asTold 9 = .ok (.putfield 179, 3) := by decide +kernel
theorem dX8_asTold_12 : decode cX8_asTold 12 = .ok (.iconst 0, 1) := by decide +kernel
theorem dX8_asTold_13 : decode cX8_asTold 13 = .ok (.istore_n 1, 1) := by decide +kernel
theorem dX8_asTold_14 : decode cX8_asTold 14 = .ok (.iload_n 1, 1) := by decide +kernel
theorem dX8_asTold_15 : decode cX8_asTold 15 = .ok (.aload_n 0, 1) := by decide +kernel
theorem dX8_asTold_16 : decode cX8_asTold 16 = .ok (.getfield 166, 3) := by decide +kernel
theorem dX8_asTold_19 : decode cX8_asTold 19 = .ok (.if_icmp .ge 57, 3) := by decide +kernel
theorem dX8_asTold_22 : decode cX8_asTold 22 = .ok (.aload_n 0, 1) := by decide +kernel
theorem dX8_asTold_23 : decode cX8_asTold 23 = .ok (.getfield 37, 3) := by decide +kernel
theorem dX8_asTold_26 : decode cX8_asTold 26 = .ok (.iload_n 1, 1) := by decide +kernel
theorem dX8_asTold_27 : decode cX8_asTold 27 = .ok (.aload_n 0, 1) := by decide +kernel
theorem dX8_asTold_28 : decode cX8_asTold 28 = .ok (.getfield 25, 3) := by decide +kernel
theorem dX8_asTold_31 : decode cX8_asTold 31 = .ok (.iload_n 1, 1) := by decide +kernel
theorem dX8_asTold_32 : decode cX8_asTold 32 = .ok (.iaload, 1) := by decide +kernel
theorem dX8_asTold_33 : decode cX8_asTold 33 = .ok (.iastore, 1) := by decide +kernel
theorem dX8_asTold_34 : decode cX8_asTold 34 = .ok (.aload_n 0, 1) := by decide +kernel
theorem dX8_asTold_35 : decode cX8_asTold 35 = .ok (.getfield 40, 3) := by decide +kernel
theorem dX8_asTold_38 : decode cX8_asTold 38 = .ok (.iload_n 1, 1) := by decide +kernel
theorem dX8_asTold_39 : decode cX8_asTold 39 = .ok (.aload_n 0, 1) := by decide +kernel
theorem dX8_asTold_40 : decode cX8_asTold 40 = .ok (.getfield 28, 3) := by decide +kernel
theorem dX8_asTold_43 : decode cX8_asTold 43 = .ok (.iload_n 1, 1) := by decide +kernel
theorem dX8_asTold_44 : decode cX8_asTold 44 = .ok (.iaload, 1) := by decide +kernel
theorem dX8_asTold_45 : decode cX8_asTold 45 = .ok (.iastore, 1) := by decide +kernel
theorem dX8_asTold_46 : decode cX8_asTold 46 = .ok (.aload_n 0, 1) := by decide +kernel
theorem dX8_asTold_47 : decode cX8_asTold 47 = .ok (.getfield 43, 3) := by decide +kernel
theorem dX8_asTold_50 : decode cX8_asTold 50 = .ok (.iload_n 1, 1) := by decide +kernel
theorem dX8_asTold_51 : decode cX8_asTold 51 = .ok (.aload_n 0, 1) := by decide +kernel
theorem dX8_asTold_52 : decode cX8_asTold 52 = .ok (.getfield 31, 3) := by decide +kernel
theorem dX8_asTold_55 : decode cX8_asTold 55 = .ok (.iload_n 1, 1) := by decide +kernel
theorem dX8_asTold_56 : decode cX8_asTold 56 = .ok (.iaload, 1) := by decide +kernel
theorem dX8_asTold_57 : decode cX8_asTold 57 = .ok (.iastore, 1) := by decide +kernel
theorem dX8_asTold_58 : decode cX8_asTold 58 = .ok (.aload_n 0, 1) := by decide +kernel
theorem dX8_asTold_59 : decode cX8_asTold 59 = .ok (.getfield 46, 3) := by decide +kernel
theorem dX8_asTold_62 : decode cX8_asTold 62 = .ok (.iload_n 1, 1) := by decide +kernel
theorem dX8_asTold_63 : decode cX8_asTold 63 = .ok (.aload_n 0, 1) := by decide +kernel
theorem dX8_asTold_64 : decode cX8_asTold 64 = .ok (.getfield 34, 3) := by decide +kernel
theorem dX8_asTold_67 : decode cX8_asTold 67 = .ok (.iload_n 1, 1) := by decide +kernel
theorem dX8_asTold_68 : decode cX8_asTold 68 = .ok (.iaload, 1) := by decide +kernel
theorem dX8_asTold_69 : decode cX8_asTold 69 = .ok (.iastore, 1) := by decide +kernel
theorem dX8_asTold_70 : decode cX8_asTold 70 = .ok (.iinc 1 1, 3) := by decide +kernel
theorem dX8_asTold_73 : decode cX8_asTold 73 = .ok (.goto (-59), 3) := by decide +kernel
theorem dX8_asTold_76 : decode cX8_asTold 76 = .ok (.aload_n 0, 1) := by decide +kernel
theorem dX8_asTold_77 : decode cX8_asTold 77 = .ok (.iconst 0, 1) := by decide +kernel
theorem dX8_asTold_78 : decode cX8_asTold 78 = .ok (.putfield 182, 3) := by decide +kernel
theorem dX8_asTold_81 : decode cX8_asTold 81 = .ok (.return_, 1) := by decide +kernel
theorem dX8_legX_0 : decode cX8_legX 0 = .ok (.iload_n 2, 1) := by decide +kernel
theorem dX8_legX_1 : decode cX8_legX 1 = .ok (.ifCond .ne 9, 3) := by decide +kernel
theorem dX8_legX_4 : decode cX8_legX 4 = .ok (.iload_n 0, 1) := by decide +kernel
theorem dX8_legX_5 : decode cX8_legX 5 = .ok (.iload_n 1, 1) := by decide +kernel
theorem dX8_legX_6 : decode cX8_legX 6 = .ok (.iadd, 1) := by decide +kernel
theorem dX8_legX_7 : decode cX8_legX 7 = .ok (.goto 15, 3) := by decide +kernel
theorem dX8_legX_10 : decode cX8_legX 10 = .ok (.iload_n 2, 1) := by decide +kernel
theorem dX8_legX_11 : decode cX8_legX 11 = .ok (.iconst 2, 1) := by decide +kernel
theorem dX8_legX_12 : decode cX8_legX 12 = .ok (.if_icmp .ne 9, 3) := by decide +kernel
theorem dX8_legX_15 : decode cX8_legX 15 = .ok (.iload_n 0, 1) := by decide +kernel
theorem dX8_legX_16 : decode cX8_legX 16 = .ok (.iload_n 1, 1) := by decide +kernel
theorem dX8_legX_17 : decode cX8_legX 17 = .ok (.isub, 1) := by decide +kernel
theorem dX8_legX_18 : decode cX8_legX 18 = .ok (.goto 4, 3) := by decide +kernel
theorem dX8_legX_21 : decode cX8_legX 21 = .ok (.iload_n 0, 1) := by decide +kernel
theorem dX8_legX_22 : decode cX8_legX 22 = .ok (.ireturn, 1) := by decide +kernel
theorem dX8_legY_0 : decode cX8_legY 0 = .ok (.iload_n 2, 1) := by decide +kernel
theorem dX8_legY_1 : decode cX8_legY 1 = .ok (.iconst 1, 1) := by decide +kernel
theorem dX8_legY_2 : decode cX8_legY 2 = .ok (.if_icmp .ne 9, 3) := by decide +kernel
theorem dX8_legY_5 : decode cX8_legY 5 = .ok (.iload_n 0, 1) := by decide +kernel
theorem dX8_legY_6 : decode cX8_legY 6 = .ok (.iload_n 1, 1) := by decide +kernel
theorem dX8_legY_7 : decode cX8_legY 7 = .ok (.iadd, 1) := by decide +kernel
theorem dX8_legY_8 : decode cX8_legY 8 = .ok (.goto 15, 3) := by decide +kernel
theorem dX8_legY_11 : decode cX8_legY 11 = .ok (.iload_n 2, 1) := by decide +kernel
theorem dX8_legY_12 : decode cX8_legY 12 = .ok (.iconst 3, 1) := by decide +kernel
theorem dX8_legY_13 : decode cX8_legY 13 = .ok (.if_icmp .ne 9, 3) := by decide +kernel
theorem dX8_legY_16 : decode cX8_legY 16 = .ok (.iload_n 0, 1) := by decide +kernel
theorem dX8_legY_17 : decode cX8_legY 17 = .ok (.iload_n 1, 1) := by decide +kernel
theorem dX8_legY_18 : decode cX8_legY 18 = .ok (.isub, 1) := by decide +kernel
theorem dX8_legY_19 : decode cX8_legY 19 = .ok (.goto 4, 3) := by decide +kernel
theorem dX8_legY_22 : decode cX8_legY 22 = .ok (.iload_n 0, 1) := by decide +kernel
theorem dX8_legY_23 : decode cX8_legY 23 = .ok (.ireturn, 1) := by decide +kernel
theorem dX8_changesOver_0 : decode cX8_changesOver 0 = .ok (.aload_n 0, 1) := by decide +kernel
theorem dX8_changesOver_1 : decode cX8_changesOver 1 = .ok (.getfield 49, 3) := by decide +kernel
theorem dX8_changesOver_4 : decode cX8_changesOver 4 = .ok (.iload_n 1, 1) := by decide +kernel
theorem dX8_changesOver_5 : decode cX8_changesOver 5 = .ok (.iaload, 1) := by decide +kernel
theorem dX8_changesOver_6 : decode cX8_changesOver 6 = .ok (.aload_n 0, 1) := by decide +kernel
theorem dX8_changesOver_7 : decode cX8_changesOver 7 = .ok (.getfield 55, 3) := by decide +kernel
theorem dX8_changesOver_10 : decode cX8_changesOver 10 = .ok (.iload_n 1, 1) := by decide +kernel
theorem dX8_changesOver_11 : decode cX8_changesOver 11 = .ok (.iaload, 1) := by decide +kernel
theorem dX8_changesOver_12 : decode cX8_changesOver 12 = .ok (.aload_n 0, 1) := by decide +kernel
theorem dX8_changesOver_13 : decode cX8_changesOver 13 = .ok (.getfield 58, 3) := by decide +kernel
theorem dX8_changesOver_16 : decode cX8_changesOver 16 = .ok (.iload_n 1, 1) := by decide +kernel
theorem dX8_changesOver_17 : decode cX8_changesOver 17 = .ok (.iaload, 1) := by decide +kernel
theorem dX8_changesOver_18 : decode cX8_changesOver 18 = .ok (.invokestatic 185, 3) := by decide +kernel
theorem dX8_changesOver_21 : decode cX8_changesOver 21 = .ok (.istore_n 2, 1) := by decide +kernel
theorem dX8_changesOver_22 : decode cX8_changesOver 22 = .ok (.aload_n 0, 1) := by decide +kernel
theorem dX8_changesOver_23 : decode cX8_changesOver 23 = .ok (.getfield 52, 3) := by decide +kernel
theorem dX8_changesOver_26 : decode cX8_changesOver 26 = .ok (.iload_n 1, 1) := by decide +kernel
theorem dX8_changesOver_27 : decode cX8_changesOver 27 = .ok (.iaload, 1) := by decide +kernel
theorem dX8_changesOver_28 : decode cX8_changesOver 28 = .ok (.aload_n 0, 1) := by decide +kernel
theorem dX8_changesOver_29 : decode cX8_changesOver 29 = .ok (.getfield 55, 3) := by decide +kernel
theorem dX8_changesOver_32 : decode cX8_changesOver 32 = .ok (.iload_n 1, 1) := by decide +kernel
theorem dX8_changesOver_33 : decode cX8_changesOver 33 = .ok (.iaload, 1) := by decide +kernel
theorem dX8_changesOver_34 : decode cX8_changesOver 34 = .ok (.aload_n 0, 1) := by decide +kernel
theorem dX8_changesOver_35 : decode cX8_changesOver 35 = .ok (.getfield 58, 3) := by decide +kernel
theorem dX8_changesOver_38 : decode cX8_changesOver 38 = .ok (.iload_n 1, 1) := by decide +kernel
theorem dX8_changesOver_39 : decode cX8_changesOver 39 = .ok (.iaload, 1) := by decide +kernel
theorem dX8_changesOver_40 : decode cX8_changesOver 40 = .ok (.invokestatic 189, 3) := by decide +kernel
theorem dX8_changesOver_43 : decode cX8_changesOver 43 = .ok (.istore_n 3, 1) := by decide +kernel
theorem dX8_changesOver_44 : decode cX8_changesOver 44 = .ok (.aload_n 0, 1) := by decide +kernel
theorem dX8_changesOver_45 : decode cX8_changesOver 45 = .ok (.getfield 49, 3) := by decide +kernel
theorem dX8_changesOver_48 : decode cX8_changesOver 48 = .ok (.iload_n 1, 1) := by decide +kernel
theorem dX8_changesOver_49 : decode cX8_changesOver 49 = .ok (.iload_n 2, 1) := by decide +kernel
theorem dX8_changesOver_50 : decode cX8_changesOver 50 = .ok (.iastore, 1) := by decide +kernel
theorem dX8_changesOver_51 : decode cX8_changesOver 51 = .ok (.aload_n 0, 1) := by decide +kernel
theorem dX8_changesOver_52 : decode cX8_changesOver 52 = .ok (.getfield 52, 3) := by decide +kernel
theorem dX8_changesOver_55 : decode cX8_changesOver 55 = .ok (.iload_n 1, 1) := by decide +kernel
theorem dX8_changesOver_56 : decode cX8_changesOver 56 = .ok (.iload_n 3, 1) := by decide +kernel
theorem dX8_changesOver_57 : decode cX8_changesOver 57 = .ok (.iastore, 1) := by decide +kernel
theorem dX8_changesOver_58 : decode cX8_changesOver 58 = .ok (.aload_n 0, 1) := by decide +kernel
theorem dX8_changesOver_59 : decode cX8_changesOver 59 = .ok (.getfield 58, 3) := by decide +kernel
theorem dX8_changesOver_62 : decode cX8_changesOver 62 = .ok (.iload_n 1, 1) := by decide +kernel
theorem dX8_changesOver_63 : decode cX8_changesOver 63 = .ok (.aload_n 0, 1) := by decide +kernel
theorem dX8_changesOver_64 : decode cX8_changesOver 64 = .ok (.getfield 58, 3) := by decide +kernel
theorem dX8_changesOver_67 : decode cX8_changesOver 67 = .ok (.iload_n 1, 1) := by decide +kernel
theorem dX8_changesOver_68 : decode cX8_changesOver 68 = .ok (.iaload, 1) := by decide +kernel
theorem dX8_changesOver_69 : decode cX8_changesOver 69 = .ok (.iconst 2, 1) := by decide +kernel
theorem dX8_changesOver_70 : decode cX8_changesOver 70 = .ok (.iadd, 1) := by decide +kernel
theorem dX8_changesOver_71 : decode cX8_changesOver 71 = .ok (.iconst 4, 1) := by decide +kernel
theorem dX8_changesOver_72 : decode cX8_changesOver 72 = .ok (.irem, 1) := by decide +kernel
theorem dX8_changesOver_73 : decode cX8_changesOver 73 = .ok (.iastore, 1) := by decide +kernel
theorem dX8_changesOver_74 : decode cX8_changesOver 74 = .ok (.aload_n 0, 1) := by decide +kernel
theorem dX8_changesOver_75 : decode cX8_changesOver 75 = .ok (.getfield 64, 3) := by decide +kernel
theorem dX8_changesOver_78 : decode cX8_changesOver 78 = .ok (.iload_n 1, 1) := by decide +kernel
theorem dX8_changesOver_79 : decode cX8_changesOver 79 = .ok (.dup2, 1) := by decide +kernel
theorem dX8_changesOver_80 : decode cX8_changesOver 80 = .ok (.iaload, 1) := by decide +kernel
theorem dX8_changesOver_81 : decode cX8_changesOver 81 = .ok (.aload_n 0, 1) := by decide +kernel
theorem dX8_changesOver_82 : decode cX8_changesOver 82 = .ok (.getfield 61, 3) := by decide +kernel
theorem dX8_changesOver_85 : decode cX8_changesOver 85 = .ok (.iload_n 1, 1) := by decide +kernel
theorem dX8_changesOver_86 : decode cX8_changesOver 86 = .ok (.iaload, 1) := by decide +kernel
theorem dX8_changesOver_87 : decode cX8_changesOver 87 = .ok (.iconst 1, 1) := by decide +kernel
theorem dX8_changesOver_88 : decode cX8_changesOver 88 = .ok (.iconst 3, 1) := by decide +kernel
theorem dX8_changesOver_89 : decode cX8_changesOver 89 = .ok (.invokestatic 124, 3) := by decide +kernel
theorem dX8_changesOver_92 : decode cX8_changesOver 92 = .ok (.ifCond .eq 7, 3) := by decide +kernel
theorem dX8_changesOver_95 : decode cX8_changesOver 95 = .ok (.iconst 1, 1) := by decide +kernel
theorem dX8_changesOver_96 : decode cX8_changesOver 96 = .ok (.goto 4, 3) := by decide +kernel
theorem dX8_changesOver_99 : decode cX8_changesOver 99 = .ok (.iconst 0, 1) := by decide +kernel
theorem dX8_changesOver_100 : decode cX8_changesOver 100 = .ok (.iadd, 1) := by decide +kernel
theorem dX8_changesOver_101 : decode cX8_changesOver 101 = .ok (.iastore, 1) := by decide +kernel
theorem dX8_changesOver_102 : decode cX8_changesOver 102 = .ok (.aload_n 0, 1) := by decide +kernel
theorem dX8_changesOver_103 : decode cX8_changesOver 103 = .ok (.getfield 61, 3) := by decide +kernel
theorem dX8_changesOver_106 : decode cX8_changesOver 106 = .ok (.iload_n 1, 1) := by decide +kernel
theorem dX8_changesOver_107 : decode cX8_changesOver 107 = .ok (.iconst 0, 1) := by decide +kernel
theorem dX8_changesOver_108 : decode cX8_changesOver 108 = .ok (.iastore, 1) := by decide +kernel
theorem dX8_changesOver_109 : decode cX8_changesOver 109 = .ok (.return_, 1) := by decide +kernel
theorem dX8_befalls_0 : decode cX8_befalls 0 = .ok (.aload_n 0, 1) := by decide +kernel
theorem dX8_befalls_1 : decode cX8_befalls 1 = .ok (.getfield 43, 3) := by decide +kernel
theorem dX8_befalls_4 : decode cX8_befalls 4 = .ok (.iload_n 1, 1) := by decide +kernel
theorem dX8_befalls_5 : decode cX8_befalls 5 = .ok (.iaload, 1) := by decide +kernel
theorem dX8_befalls_6 : decode cX8_befalls 6 = .ok (.istore_n 2, 1) := by decide +kernel
theorem dX8_befalls_7 : decode cX8_befalls 7 = .ok (.aload_n 0, 1) := by decide +kernel
theorem dX8_befalls_8 : decode cX8_befalls 8 = .ok (.getfield 37, 3) := by decide +kernel
theorem dX8_befalls_11 : decode cX8_befalls 11 = .ok (.iload_n 1, 1) := by decide +kernel
theorem dX8_befalls_12 : decode cX8_befalls 12 = .ok (.iaload, 1) := by decide +kernel
theorem dX8_befalls_13 : decode cX8_befalls 13 = .ok (.ifCond .ne 22, 3) := by decide +kernel
theorem dX8_befalls_16 : decode cX8_befalls 16 = .ok (.aload_n 0, 1) := by decide +kernel
theorem dX8_befalls_17 : decode cX8_befalls 17 = .ok (.getfield 55, 3) := by decide +kernel
theorem dX8_befalls_20 : decode cX8_befalls 20 = .ok (.iload_n 2, 1) := by decide +kernel
theorem dX8_befalls_21 : decode cX8_befalls 21 = .ok (.aload_n 0, 1) := by decide +kernel
theorem dX8_befalls_22 : decode cX8_befalls 22 = .ok (.getfield 46, 3) := by decide +kernel
theorem dX8_befalls_25 : decode cX8_befalls 25 = .ok (.iload_n 1, 1) := by decide +kernel
theorem dX8_befalls_26 : decode cX8_befalls 26 = .ok (.iaload, 1) := by decide +kernel
theorem dX8_befalls_27 : decode cX8_befalls 27 = .ok (.iastore, 1) := by decide +kernel
theorem dX8_befalls_28 : decode cX8_befalls 28 = .ok (.aload_n 0, 1) := by decide +kernel
theorem dX8_befalls_29 : decode cX8_befalls 29 = .ok (.getfield 61, 3) := by decide +kernel
theorem dX8_befalls_32 : decode cX8_befalls 32 = .ok (.iload_n 2, 1) := by decide +kernel
theorem dX8_befalls_33 : decode cX8_befalls 33 = .ok (.iconst 0, 1) := by decide +kernel
theorem dX8_befalls_34 : decode cX8_befalls 34 = .ok (.iastore, 1) := by decide +kernel
theorem dX8_befalls_35 : decode cX8_befalls 35 = .ok (.aload_n 0, 1) := by decide +kernel
theorem dX8_befalls_36 : decode cX8_befalls 36 = .ok (.getfield 37, 3) := by decide +kernel
theorem dX8_befalls_39 : decode cX8_befalls 39 = .ok (.iload_n 1, 1) := by decide +kernel
theorem dX8_befalls_40 : decode cX8_befalls 40 = .ok (.iaload, 1) := by decide +kernel
theorem dX8_befalls_41 : decode cX8_befalls 41 = .ok (.iconst 1, 1) := by decide +kernel
theorem dX8_befalls_42 : decode cX8_befalls 42 = .ok (.if_icmp .ne 8, 3) := by decide +kernel
theorem dX8_befalls_45 : decode cX8_befalls 45 = .ok (.aload_n 0, 1) := by decide +kernel
theorem dX8_befalls_46 : decode cX8_befalls 46 = .ok (.iload_n 2, 1) := by decide +kernel
theorem dX8_befalls_47 : decode cX8_befalls 47 = .ok (.invokevirtual 192, 3) := by decide +kernel
theorem dX8_befalls_50 : decode cX8_befalls 50 = .ok (.aload_n 0, 1) := by decide +kernel
theorem dX8_befalls_51 : decode cX8_befalls 51 = .ok (.dup, 1) := by decide +kernel
theorem dX8_befalls_52 : decode cX8_befalls 52 = .ok (.getfield 196, 3) := by decide +kernel
theorem dX8_befalls_55 : decode cX8_befalls 55 = .ok (.aload_n 0, 1) := by decide +kernel
theorem dX8_befalls_56 : decode cX8_befalls 56 = .ok (.getfield 37, 3) := by decide +kernel
theorem dX8_befalls_59 : decode cX8_befalls 59 = .ok (.iload_n 1, 1) := by decide +kernel
theorem dX8_befalls_60 : decode cX8_befalls 60 = .ok (.iaload, 1) := by decide +kernel
theorem dX8_befalls_61 : decode cX8_befalls 61 = .ok (.iconst 2, 1) := by decide +kernel
theorem dX8_befalls_62 : decode cX8_befalls 62 = .ok (.if_icmp .ne 9, 3) := by decide +kernel
theorem dX8_befalls_65 : decode cX8_befalls 65 = .ok (.iconst 1, 1) := by decide +kernel
theorem dX8_befalls_66 : decode cX8_befalls 66 = .ok (.iload_n 2, 1) := by decide +kernel
theorem dX8_befalls_67 : decode cX8_befalls 67 = .ok (.ishl, 1) := by decide +kernel
theorem dX8_befalls_68 : decode cX8_befalls 68 = .ok (.goto 4, 3) := by decide +kernel
theorem dX8_befalls_71 : decode cX8_befalls 71 = .ok (.iconst 0, 1) := by decide +kernel
theorem dX8_befalls_72 : decode cX8_befalls 72 = .ok (.ior, 1) := by decide +kernel
theorem dX8_befalls_73 : decode cX8_befalls 73 = .ok (.putfield 196, 3) := by decide +kernel
theorem dX8_befalls_76 : decode cX8_befalls 76 = .ok (.return_, 1) := by decide +kernel
theorem dX8_goesRound_0 : decode cX8_goesRound 0 = .ok (.aload_n 0, 1) := by decide +kernel
theorem dX8_goesRound_1 : decode cX8_goesRound 1 = .ok (.getfield 22, 3) := by decide +kernel
theorem dX8_goesRound_4 : decode cX8_goesRound 4 = .ok (.iload_n 1, 1) := by decide +kernel
theorem dX8_goesRound_5 : decode cX8_goesRound 5 = .ok (.iaload, 1) := by decide +kernel
theorem dX8_goesRound_6 : decode cX8_goesRound 6 = .ok (.iconst 2, 1) := by decide +kernel
theorem dX8_goesRound_7 : decode cX8_goesRound 7 = .ok (.if_icmp .ne 7, 3) := by decide +kernel
theorem dX8_goesRound_10 : decode cX8_goesRound 10 = .ok (.iconst 2, 1) := by decide +kernel
theorem dX8_goesRound_11 : decode cX8_goesRound 11 = .ok (.goto 24, 3) := by decide +kernel
theorem dX8_goesRound_14 : decode cX8_goesRound 14 = .ok (.aload_n 0, 1) := by decide +kernel
theorem dX8_goesRound_15 : decode cX8_goesRound 15 = .ok (.getfield 22, 3) := by decide +kernel
theorem dX8_goesRound_18 : decode cX8_goesRound 18 = .ok (.iload_n 1, 1) := by decide +kernel
theorem dX8_goesRound_19 : decode cX8_goesRound 19 = .ok (.iaload, 1) := by decide +kernel
theorem dX8_goesRound_20 : decode cX8_goesRound 20 = .ok (.ifCond .ne 14, 3) := by decide +kernel
theorem dX8_goesRound_23 : decode cX8_goesRound 23 = .ok (.iload_n 2, 1) := by decide +kernel
theorem dX8_goesRound_24 : decode cX8_goesRound 24 = .ok (.iconst 2, 1) := by decide +kernel
theorem dX8_goesRound_25 : decode cX8_goesRound 25 = .ok (.irem, 1) := by decide +kernel
theorem dX8_goesRound_26 : decode cX8_goesRound 26 = .ok (.iconst 1, 1) := by decide +kernel
theorem dX8_goesRound_27 : decode cX8_goesRound 27 = .ok (.if_icmp .ne 7, 3) := by decide +kernel
theorem dX8_goesRound_30 : decode cX8_goesRound 30 = .ok (.iconst 0, 1) := by decide +kernel
theorem dX8_goesRound_31 : decode cX8_goesRound 31 = .ok (.goto 4, 3) := by decide +kernel
theorem dX8_goesRound_34 : decode cX8_goesRound 34 = .ok (.iconst 1, 1) := by decide +kernel
theorem dX8_goesRound_35 : decode cX8_goesRound 35 = .ok (.istore_n 3, 1) := by decide +kernel
theorem dX8_goesRound_36 : decode cX8_goesRound 36 = .ok (.aload_n 0, 1) := by decide +kernel
theorem dX8_goesRound_37 : decode cX8_goesRound 37 = .ok (.getfield 55, 3) := by decide +kernel
theorem dX8_goesRound_40 : decode cX8_goesRound 40 = .ok (.iload_n 1, 1) := by decide +kernel
theorem dX8_goesRound_41 : decode cX8_goesRound 41 = .ok (.iaload, 1) := by decide +kernel
theorem dX8_goesRound_42 : decode cX8_goesRound 42 = .ok (.ifCond .le 60, 3) := by decide +kernel
theorem dX8_goesRound_45 : decode cX8_goesRound 45 = .ok (.aload_n 0, 1) := by decide +kernel
theorem dX8_goesRound_46 : decode cX8_goesRound 46 = .ok (.getfield 196, 3) := by decide +kernel
theorem dX8_goesRound_49 : decode cX8_goesRound 49 = .ok (.iload_n 1, 1) := by decide +kernel
theorem dX8_goesRound_50 : decode cX8_goesRound 50 = .ok (.invokestatic 199, 3) := by decide +kernel
theorem dX8_goesRound_53 : decode cX8_goesRound 53 = .ok (.ifCond .ne 49, 3) := by decide +kernel
theorem dX8_goesRound_56 : decode cX8_goesRound 56 = .ok (.aload_n 0, 1) := by decide +kernel
theorem dX8_goesRound_57 : decode cX8_goesRound 57 = .ok (.getfield 58, 3) := by decide +kernel
theorem dX8_goesRound_60 : decode cX8_goesRound 60 = .ok (.iload_n 1, 1) := by decide +kernel
theorem dX8_goesRound_61 : decode cX8_goesRound 61 = .ok (.aload_n 0, 1) := by decide +kernel
theorem dX8_goesRound_62 : decode cX8_goesRound 62 = .ok (.getfield 58, 3) := by decide +kernel
theorem dX8_goesRound_65 : decode cX8_goesRound 65 = .ok (.iload_n 1, 1) := by decide +kernel
theorem dX8_goesRound_66 : decode cX8_goesRound 66 = .ok (.iaload, 1) := by decide +kernel
theorem dX8_goesRound_67 : decode cX8_goesRound 67 = .ok (.iload_n 3, 1) := by decide +kernel
theorem dX8_goesRound_68 : decode cX8_goesRound 68 = .ok (.iadd, 1) := by decide +kernel
theorem dX8_goesRound_69 : decode cX8_goesRound 69 = .ok (.iconst 4, 1) := by decide +kernel
theorem dX8_goesRound_70 : decode cX8_goesRound 70 = .ok (.irem, 1) := by decide +kernel
theorem dX8_goesRound_71 : decode cX8_goesRound 71 = .ok (.iastore, 1) := by decide +kernel
theorem dX8_goesRound_72 : decode cX8_goesRound 72 = .ok (.aload_n 0, 1) := by decide +kernel
theorem dX8_goesRound_73 : decode cX8_goesRound 73 = .ok (.getfield 61, 3) := by decide +kernel
theorem dX8_goesRound_76 : decode cX8_goesRound 76 = .ok (.iload_n 1, 1) := by decide +kernel
theorem dX8_goesRound_77 : decode cX8_goesRound 77 = .ok (.aload_n 0, 1) := by decide +kernel
theorem dX8_goesRound_78 : decode cX8_goesRound 78 = .ok (.getfield 61, 3) := by decide +kernel
theorem dX8_goesRound_81 : decode cX8_goesRound 81 = .ok (.iload_n 1, 1) := by decide +kernel
theorem dX8_goesRound_82 : decode cX8_goesRound 82 = .ok (.iaload, 1) := by decide +kernel
theorem dX8_goesRound_83 : decode cX8_goesRound 83 = .ok (.iload_n 3, 1) := by decide +kernel
theorem dX8_goesRound_84 : decode cX8_goesRound 84 = .ok (.iadd, 1) := by decide +kernel
theorem dX8_goesRound_85 : decode cX8_goesRound 85 = .ok (.iconst 4, 1) := by decide +kernel
theorem dX8_goesRound_86 : decode cX8_goesRound 86 = .ok (.if_icmp .le 7, 3) := by decide +kernel
theorem dX8_goesRound_89 : decode cX8_goesRound 89 = .ok (.iconst 4, 1) := by decide +kernel
theorem dX8_goesRound_90 : decode cX8_goesRound 90 = .ok (.goto 11, 3) := by decide +kernel
theorem dX8_goesRound_93 : decode cX8_goesRound 93 = .ok (.aload_n 0, 1) := by decide +kernel
theorem dX8_goesRound_94 : decode cX8_goesRound 94 = .ok (.getfield 61, 3) := by decide +kernel
theorem dX8_goesRound_97 : decode cX8_goesRound 97 = .ok (.iload_n 1, 1) := by decide +kernel
theorem dX8_goesRound_98 : decode cX8_goesRound 98 = .ok (.iaload, 1) := by decide +kernel
theorem dX8_goesRound_99 : decode cX8_goesRound 99 = .ok (.iload_n 3, 1) := by decide +kernel
theorem dX8_goesRound_100 : decode cX8_goesRound 100 = .ok (.iadd, 1) := by decide +kernel
theorem dX8_goesRound_101 : decode cX8_goesRound 101 = .ok (.iastore, 1) := by decide +kernel
theorem dX8_goesRound_102 : decode cX8_goesRound 102 = .ok (.return_, 1) := by decide +kernel
theorem dX8_goesBy_0 : decode cX8_goesBy 0 = .ok (.iconst 0, 1) := by decide +kernel
theorem dX8_goesBy_1 : decode cX8_goesBy 1 = .ok (.istore_n 2, 1) := by decide +kernel
theorem dX8_goesBy_2 : decode cX8_goesBy 2 = .ok (.iload_n 2, 1) := by decide +kernel
theorem dX8_goesBy_3 : decode cX8_goesBy 3 = .ok (.aload_n 0, 1) := by decide +kernel
theorem dX8_goesBy_4 : decode cX8_goesBy 4 = .ok (.getfield 179, 3) := by decide +kernel
theorem dX8_goesBy_7 : decode cX8_goesBy 7 = .ok (.if_icmp .ge 48, 3) := by decide +kernel
theorem dX8_goesBy_10 : decode cX8_goesBy 10 = .ok (.aload_n 0, 1) := by decide +kernel
theorem dX8_goesBy_11 : decode cX8_goesBy 11 = .ok (.getfield 40, 3) := by decide +kernel
theorem dX8_goesBy_14 : decode cX8_goesBy 14 = .ok (.iload_n 2, 1) := by decide +kernel
theorem dX8_goesBy_15 : decode cX8_goesBy 15 = .ok (.iaload, 1) := by decide +kernel
theorem dX8_goesBy_16 : decode cX8_goesBy 16 = .ok (.iload_n 1, 1) := by decide +kernel
theorem dX8_goesBy_17 : decode cX8_goesBy 17 = .ok (.if_icmp .ne 32, 3) := by decide +kernel
theorem dX8_goesBy_20 : decode cX8_goesBy 20 = .ok (.aload_n 0, 1) := by decide +kernel
theorem dX8_goesBy_21 : decode cX8_goesBy 21 = .ok (.getfield 43, 3) := by decide +kernel
theorem dX8_goesBy_24 : decode cX8_goesBy 24 = .ok (.iload_n 2, 1) := by decide +kernel
theorem dX8_goesBy_25 : decode cX8_goesBy 25 = .ok (.iaload, 1) := by decide +kernel
theorem dX8_goesBy_26 : decode cX8_goesBy 26 = .ok (.aload_n 0, 1) := by decide +kernel
theorem dX8_goesBy_27 : decode cX8_goesBy 27 = .ok (.getfield 139, 3) := by decide +kernel
theorem dX8_goesBy_30 : decode cX8_goesBy 30 = .ok (.if_icmp .ge 19, 3) := by decide +kernel
theorem dX8_goesBy_33 : decode cX8_goesBy 33 = .ok (.aload_n 0, 1) := by decide +kernel
theorem dX8_goesBy_34 : decode cX8_goesBy 34 = .ok (.getfield 182, 3) := by decide +kernel
theorem dX8_goesBy_37 : decode cX8_goesBy 37 = .ok (.iload_n 2, 1) := by decide +kernel
theorem dX8_goesBy_38 : decode cX8_goesBy 38 = .ok (.invokestatic 199, 3) := by decide +kernel
theorem dX8_goesBy_41 : decode cX8_goesBy 41 = .ok (.ifCond .ne 8, 3) := by decide +kernel
theorem dX8_goesBy_44 : decode cX8_goesBy 44 = .ok (.aload_n 0, 1) := by decide +kernel
theorem dX8_goesBy_45 : decode cX8_goesBy 45 = .ok (.iload_n 2, 1) := by decide +kernel
theorem dX8_goesBy_46 : decode cX8_goesBy 46 = .ok (.invokevirtual 203, 3) := by decide +kernel
theorem dX8_goesBy_49 : decode cX8_goesBy 49 = .ok (.iinc 2 1, 3) := by decide +kernel
theorem dX8_goesBy_52 : decode cX8_goesBy 52 = .ok (.goto (-50), 3) := by decide +kernel
theorem dX8_goesBy_55 : decode cX8_goesBy 55 = .ok (.aload_n 0, 1) := by decide +kernel
theorem dX8_goesBy_56 : decode cX8_goesBy 56 = .ok (.getfield 85, 3) := by decide +kernel
theorem dX8_goesBy_59 : decode cX8_goesBy 59 = .ok (.iload_n 1, 1) := by decide +kernel
theorem dX8_goesBy_60 : decode cX8_goesBy 60 = .ok (.aload_n 0, 1) := by decide +kernel
theorem dX8_goesBy_61 : decode cX8_goesBy 61 = .ok (.getfield 196, 3) := by decide +kernel
theorem dX8_goesBy_64 : decode cX8_goesBy 64 = .ok (.iastore, 1) := by decide +kernel
theorem dX8_goesBy_65 : decode cX8_goesBy 65 = .ok (.iconst 0, 1) := by decide +kernel
theorem dX8_goesBy_66 : decode cX8_goesBy 66 = .ok (.istore_n 2, 1) := by decide +kernel
theorem dX8_goesBy_67 : decode cX8_goesBy 67 = .ok (.iload_n 2, 1) := by decide +kernel
theorem dX8_goesBy_68 : decode cX8_goesBy 68 = .ok (.aload_n 0, 1) := by decide +kernel
theorem dX8_goesBy_69 : decode cX8_goesBy 69 = .ok (.getfield 139, 3) := by decide +kernel
theorem dX8_goesBy_72 : decode cX8_goesBy 72 = .ok (.if_icmp .ge 94, 3) := by decide +kernel
theorem dX8_goesBy_75 : decode cX8_goesBy 75 = .ok (.aload_n 0, 1) := by decide +kernel
theorem dX8_goesBy_76 : decode cX8_goesBy 76 = .ok (.iload_n 2, 1) := by decide +kernel
theorem dX8_goesBy_77 : decode cX8_goesBy 77 = .ok (.iload_n 1, 1) := by decide +kernel
theorem dX8_goesBy_78 : decode cX8_goesBy 78 = .ok (.invokevirtual 206, 3) := by decide +kernel
theorem dX8_goesBy_81 : decode cX8_goesBy 81 = .ok (.bipush 8, 2) := by decide +kernel
theorem dX8_goesBy_83 : decode cX8_goesBy 83 = .ok (.iload_n 1, 1) := by decide +kernel
theorem dX8_goesBy_84 : decode cX8_goesBy 84 = .ok (.imul, 1) := by decide +kernel
theorem dX8_goesBy_85 : decode cX8_goesBy 85 = .ok (.iload_n 2, 1) := by decide +kernel
theorem dX8_goesBy_86 : decode cX8_goesBy 86 = .ok (.iadd, 1) := by decide +kernel
theorem dX8_goesBy_87 : decode cX8_goesBy 87 = .ok (.istore_n 3, 1) := by decide +kernel
theorem dX8_goesBy_88 : decode cX8_goesBy 88 = .ok (.aload_n 0, 1) := by decide +kernel
theorem dX8_goesBy_89 : decode cX8_goesBy 89 = .ok (.getfield 67, 3) := by decide +kernel
theorem dX8_goesBy_92 : decode cX8_goesBy 92 = .ok (.iload_n 3, 1) := by decide +kernel
theorem dX8_goesBy_93 : decode cX8_goesBy 93 = .ok (.aload_n 0, 1) := by decide +kernel
theorem dX8_goesBy_94 : decode cX8_goesBy 94 = .ok (.getfield 49, 3) := by decide +kernel
theorem dX8_goesBy_97 : decode cX8_goesBy 97 = .ok (.iload_n 2, 1) := by decide +kernel
theorem dX8_goesBy_98 : decode cX8_goesBy 98 = .ok (.iaload, 1) := by decide +kernel
theorem dX8_goesBy_99 : decode cX8_goesBy 99 = .ok (.iastore, 1) := by decide +kernel
theorem dX8_goesBy_100 : decode cX8_goesBy 100 = .ok (.aload_n 0, 1) := by decide +kernel
theorem dX8_goesBy_101 : decode cX8_goesBy 101 = .ok (.getfield 70, 3) := by decide +kernel
theorem dX8_goesBy_104 : decode cX8_goesBy 104 = .ok (.iload_n 3, 1) := by decide +kernel
theorem dX8_goesBy_105 : decode cX8_goesBy 105 = .ok (.aload_n 0, 1) := by decide +kernel
theorem dX8_goesBy_106 : decode cX8_goesBy 106 = .ok (.getfield 52, 3) := by decide +kernel
theorem dX8_goesBy_109 : decode cX8_goesBy 109 = .ok (.iload_n 2, 1) := by decide +kernel
theorem dX8_goesBy_110 : decode cX8_goesBy 110 = .ok (.iaload, 1) := by decide +kernel
theorem dX8_goesBy_111 : decode cX8_goesBy 111 = .ok (.iastore, 1) := by decide +kernel
theorem dX8_goesBy_112 : decode cX8_goesBy 112 = .ok (.aload_n 0, 1) := by decide +kernel
theorem dX8_goesBy_113 : decode cX8_goesBy 113 = .ok (.getfield 73, 3) := by decide +kernel
theorem dX8_goesBy_116 : decode cX8_goesBy 116 = .ok (.iload_n 3, 1) := by decide +kernel
theorem dX8_goesBy_117 : decode cX8_goesBy 117 = .ok (.aload_n 0, 1) := by decide +kernel
theorem dX8_goesBy_118 : decode cX8_goesBy 118 = .ok (.getfield 55, 3) := by decide +kernel
theorem dX8_goesBy_121 : decode cX8_goesBy 121 = .ok (.iload_n 2, 1) := by decide +kernel
theorem dX8_goesBy_122 : decode cX8_goesBy 122 = .ok (.iaload, 1) := by decide +kernel
theorem dX8_goesBy_123 : decode cX8_goesBy 123 = .ok (.iastore, 1) := by decide +kernel
theorem dX8_goesBy_124 : decode cX8_goesBy 124 = .ok (.aload_n 0, 1) := by decide +kernel
theorem dX8_goesBy_125 : decode cX8_goesBy 125 = .ok (.getfield 76, 3) := by decide +kernel
theorem dX8_goesBy_128 : decode cX8_goesBy 128 = .ok (.iload_n 3, 1) := by decide +kernel
theorem dX8_goesBy_129 : decode cX8_goesBy 129 = .ok (.aload_n 0, 1) := by decide +kernel
theorem dX8_goesBy_130 : decode cX8_goesBy 130 = .ok (.getfield 58, 3) := by decide +kernel
theorem dX8_goesBy_133 : decode cX8_goesBy 133 = .ok (.iload_n 2, 1) := by decide +kernel
theorem dX8_goesBy_134 : decode cX8_goesBy 134 = .ok (.iaload, 1) := by decide +kernel
theorem dX8_goesBy_135 : decode cX8_goesBy 135 = .ok (.iastore, 1) := by decide +kernel
theorem dX8_goesBy_136 : decode cX8_goesBy 136 = .ok (.aload_n 0, 1) := by decide +kernel
theorem dX8_goesBy_137 : decode cX8_goesBy 137 = .ok (.getfield 79, 3) := by decide +kernel
theorem dX8_goesBy_140 : decode cX8_goesBy 140 = .ok (.iload_n 3, 1) := by decide +kernel
theorem dX8_goesBy_141 : decode cX8_goesBy 141 = .ok (.aload_n 0, 1) := by decide +kernel
theorem dX8_goesBy_142 : decode cX8_goesBy 142 = .ok (.getfield 61, 3) := by decide +kernel
theorem dX8_goesBy_145 : decode cX8_goesBy 145 = .ok (.iload_n 2, 1) := by decide +kernel
theorem dX8_goesBy_146 : decode cX8_goesBy 146 = .ok (.iaload, 1) := by decide +kernel
theorem dX8_goesBy_147 : decode cX8_goesBy 147 = .ok (.iastore, 1) := by decide +kernel
theorem dX8_goesBy_148 : decode cX8_goesBy 148 = .ok (.aload_n 0, 1) := by decide +kernel
theorem dX8_goesBy_149 : decode cX8_goesBy 149 = .ok (.getfield 82, 3) := by decide +kernel
theorem dX8_goesBy_152 : decode cX8_goesBy 152 = .ok (.iload_n 3, 1) := by decide +kernel
theorem dX8_goesBy_153 : decode cX8_goesBy 153 = .ok (.aload_n 0, 1) := by decide +kernel
theorem dX8_goesBy_154 : decode cX8_goesBy 154 = .ok (.getfield 64, 3) := by decide +kernel
theorem dX8_goesBy_157 : decode cX8_goesBy 157 = .ok (.iload_n 2, 1) := by decide +kernel
theorem dX8_goesBy_158 : decode cX8_goesBy 158 = .ok (.iaload, 1) := by decide +kernel
theorem dX8_goesBy_159 : decode cX8_goesBy 159 = .ok (.iastore, 1) := by decide +kernel
theorem dX8_goesBy_160 : decode cX8_goesBy 160 = .ok (.iinc 2 1, 3) := by decide +kernel
theorem dX8_goesBy_163 : decode cX8_goesBy 163 = .ok (.goto (-96), 3) := by decide +kernel
theorem dX8_goesBy_166 : decode cX8_goesBy 166 = .ok (.return_, 1) := by decide +kernel
theorem dX8_runs_0 : decode cX8_runs 0 = .ok (.iconst 0, 1) := by decide +kernel
theorem dX8_runs_1 : decode cX8_runs 1 = .ok (.istore_n 1, 1) := by decide +kernel
theorem dX8_runs_2 : decode cX8_runs 2 = .ok (.iload_n 1, 1) := by decide +kernel
theorem dX8_runs_3 : decode cX8_runs 3 = .ok (.aload_n 0, 1) := by decide +kernel
theorem dX8_runs_4 : decode cX8_runs 4 = .ok (.getfield 139, 3) := by decide +kernel
theorem dX8_runs_7 : decode cX8_runs 7 = .ok (.if_icmp .ge 66, 3) := by decide +kernel
theorem dX8_runs_10 : decode cX8_runs 10 = .ok (.aload_n 0, 1) := by decide +kernel
theorem dX8_runs_11 : decode cX8_runs 11 = .ok (.getfield 49, 3) := by decide +kernel
theorem dX8_runs_14 : decode cX8_runs 14 = .ok (.iload_n 1, 1) := by decide +kernel
theorem dX8_runs_15 : decode cX8_runs 15 = .ok (.aload_n 0, 1) := by decide +kernel
theorem dX8_runs_16 : decode cX8_runs 16 = .ok (.getfield 13, 3) := by decide +kernel
theorem dX8_runs_19 : decode cX8_runs 19 = .ok (.iload_n 1, 1) := by decide +kernel
theorem dX8_runs_20 : decode cX8_runs 20 = .ok (.iaload, 1) := by decide +kernel
theorem dX8_runs_21 : decode cX8_runs 21 = .ok (.iastore, 1) := by decide +kernel
theorem dX8_runs_22 : decode cX8_runs 22 = .ok (.aload_n 0, 1) := by decide +kernel
theorem dX8_runs_23 : decode cX8_runs 23 = .ok (.getfield 52, 3) := by decide +kernel
theorem dX8_runs_26 : decode cX8_runs 26 = .ok (.iload_n 1, 1) := by decide +kernel
theorem dX8_runs_27 : decode cX8_runs 27 = .ok (.aload_n 0, 1) := by decide +kernel
theorem dX8_runs_28 : decode cX8_runs 28 = .ok (.getfield 16, 3) := by decide +kernel
theorem dX8_runs_31 : decode cX8_runs 31 = .ok (.iload_n 1, 1) := by decide +kernel
theorem dX8_runs_32 : decode cX8_runs 32 = .ok (.iaload, 1) := by decide +kernel
theorem dX8_runs_33 : decode cX8_runs 33 = .ok (.iastore, 1) := by decide +kernel
theorem dX8_runs_34 : decode cX8_runs 34 = .ok (.aload_n 0, 1) := by decide +kernel
theorem dX8_runs_35 : decode cX8_runs 35 = .ok (.getfield 55, 3) := by decide +kernel
theorem dX8_runs_38 : decode cX8_runs 38 = .ok (.iload_n 1, 1) := by decide +kernel
theorem dX8_runs_39 : decode cX8_runs 39 = .ok (.aload_n 0, 1) := by decide +kernel
theorem dX8_runs_40 : decode cX8_runs 40 = .ok (.getfield 19, 3) := by decide +kernel
theorem dX8_runs_43 : decode cX8_runs 43 = .ok (.iload_n 1, 1) := by decide +kernel
theorem dX8_runs_44 : decode cX8_runs 44 = .ok (.iaload, 1) := by decide +kernel
theorem dX8_runs_45 : decode cX8_runs 45 = .ok (.iastore, 1) := by decide +kernel
theorem dX8_runs_46 : decode cX8_runs 46 = .ok (.aload_n 0, 1) := by decide +kernel
theorem dX8_runs_47 : decode cX8_runs 47 = .ok (.getfield 58, 3) := by decide +kernel
theorem dX8_runs_50 : decode cX8_runs 50 = .ok (.iload_n 1, 1) := by decide +kernel
theorem dX8_runs_51 : decode cX8_runs 51 = .ok (.iconst 0, 1) := by decide +kernel
theorem dX8_runs_52 : decode cX8_runs 52 = .ok (.iastore, 1) := by decide +kernel
theorem dX8_runs_53 : decode cX8_runs 53 = .ok (.aload_n 0, 1) := by decide +kernel
theorem dX8_runs_54 : decode cX8_runs 54 = .ok (.getfield 61, 3) := by decide +kernel
theorem dX8_runs_57 : decode cX8_runs 57 = .ok (.iload_n 1, 1) := by decide +kernel
theorem dX8_runs_58 : decode cX8_runs 58 = .ok (.iconst 0, 1) := by decide +kernel
theorem dX8_runs_59 : decode cX8_runs 59 = .ok (.iastore, 1) := by decide +kernel
theorem dX8_runs_60 : decode cX8_runs 60 = .ok (.aload_n 0, 1) := by decide +kernel
theorem dX8_runs_61 : decode cX8_runs 61 = .ok (.getfield 64, 3) := by decide +kernel
theorem dX8_runs_64 : decode cX8_runs 64 = .ok (.iload_n 1, 1) := by decide +kernel
theorem dX8_runs_65 : decode cX8_runs 65 = .ok (.iconst 0, 1) := by decide +kernel
theorem dX8_runs_66 : decode cX8_runs 66 = .ok (.iastore, 1) := by decide +kernel
theorem dX8_runs_67 : decode cX8_runs 67 = .ok (.iinc 1 1, 3) := by decide +kernel
theorem dX8_runs_70 : decode cX8_runs 70 = .ok (.goto (-68), 3) := by decide +kernel
theorem dX8_runs_73 : decode cX8_runs 73 = .ok (.aload_n 0, 1) := by decide +kernel
theorem dX8_runs_74 : decode cX8_runs 74 = .ok (.iconst 0, 1) := by decide +kernel
theorem dX8_runs_75 : decode cX8_runs 75 = .ok (.putfield 196, 3) := by decide +kernel
theorem dX8_runs_78 : decode cX8_runs 78 = .ok (.iconst 0, 1) := by decide +kernel
theorem dX8_runs_79 : decode cX8_runs 79 = .ok (.istore_n 1, 1) := by decide +kernel
theorem dX8_runs_80 : decode cX8_runs 80 = .ok (.iload_n 1, 1) := by decide +kernel
theorem dX8_runs_81 : decode cX8_runs 81 = .ok (.bipush 20, 2) := by decide +kernel
theorem dX8_runs_83 : decode cX8_runs 83 = .ok (.if_icmp .ge 14, 3) := by decide +kernel
theorem dX8_runs_86 : decode cX8_runs 86 = .ok (.aload_n 0, 1) := by decide +kernel
theorem dX8_runs_87 : decode cX8_runs 87 = .ok (.iload_n 1, 1) := by decide +kernel
theorem dX8_runs_88 : decode cX8_runs 88 = .ok (.invokevirtual 210, 3) := by decide +kernel
theorem dX8_runs_91 : decode cX8_runs 91 = .ok (.iinc 1 1, 3) := by decide +kernel
theorem dX8_runs_94 : decode cX8_runs 94 = .ok (.goto (-14), 3) := by decide +kernel
theorem dX8_runs_97 : decode cX8_runs 97 = .ok (.return_, 1) := by decide +kernel
theorem dX8_runsTold_0 : decode cX8_runsTold 0 = .ok (.aload_n 0, 1) := by decide +kernel
theorem dX8_runsTold_1 : decode cX8_runsTold 1 = .ok (.invokevirtual 213, 3) := by decide +kernel
theorem dX8_runsTold_4 : decode cX8_runsTold 4 = .ok (.aload_n 0, 1) := by decide +kernel
theorem dX8_runsTold_5 : decode cX8_runsTold 5 = .ok (.invokevirtual 216, 3) := by decide +kernel
theorem dX8_runsTold_8 : decode cX8_runsTold 8 = .ok (.return_, 1) := by decide +kernel
theorem dX8_atOf_0 : decode cX8_atOf 0 = .ok (.aload_n 0, 1) := by decide +kernel
theorem dX8_atOf_1 : decode cX8_atOf 1 = .ok (.invokevirtual 219, 3) := by decide +kernel
theorem dX8_atOf_4 : decode cX8_atOf 4 = .ok (.bipush 8, 2) := by decide +kernel
theorem dX8_atOf_6 : decode cX8_atOf 6 = .ok (.iload_n 1, 1) := by decide +kernel
theorem dX8_atOf_7 : decode cX8_atOf 7 = .ok (.imul, 1) := by decide +kernel
theorem dX8_atOf_8 : decode cX8_atOf 8 = .ok (.iload_n 2, 1) := by decide +kernel
theorem dX8_atOf_9 : decode cX8_atOf 9 = .ok (.iadd, 1) := by decide +kernel
theorem dX8_atOf_10 : decode cX8_atOf 10 = .ok (.istore 4, 2) := by decide +kernel
theorem dX8_atOf_12 : decode cX8_atOf 12 = .ok (.iload_n 3, 1) := by decide +kernel
theorem dX8_atOf_13 : decode cX8_atOf 13 = .ok (.tableswitch 74 0 3 #[31, 39, 47, 55], 31) := by decide +kernel
theorem dX8_atOf_44 : decode cX8_atOf 44 = .ok (.aload_n 0, 1) := by decide +kernel
theorem dX8_atOf_45 : decode cX8_atOf 45 = .ok (.getfield 73, 3) := by decide +kernel
theorem dX8_atOf_48 : decode cX8_atOf 48 = .ok (.iload 4, 2) := by decide +kernel
theorem dX8_atOf_50 : decode cX8_atOf 50 = .ok (.iaload, 1) := by decide +kernel
theorem dX8_atOf_51 : decode cX8_atOf 51 = .ok (.ireturn, 1) := by decide +kernel
theorem dX8_atOf_52 : decode cX8_atOf 52 = .ok (.aload_n 0, 1) := by decide +kernel
theorem dX8_atOf_53 : decode cX8_atOf 53 = .ok (.getfield 76, 3) := by decide +kernel
theorem dX8_atOf_56 : decode cX8_atOf 56 = .ok (.iload 4, 2) := by decide +kernel
theorem dX8_atOf_58 : decode cX8_atOf 58 = .ok (.iaload, 1) := by decide +kernel
theorem dX8_atOf_59 : decode cX8_atOf 59 = .ok (.ireturn, 1) := by decide +kernel
theorem dX8_atOf_60 : decode cX8_atOf 60 = .ok (.aload_n 0, 1) := by decide +kernel
theorem dX8_atOf_61 : decode cX8_atOf 61 = .ok (.getfield 79, 3) := by decide +kernel
theorem dX8_atOf_64 : decode cX8_atOf 64 = .ok (.iload 4, 2) := by decide +kernel
theorem dX8_atOf_66 : decode cX8_atOf 66 = .ok (.iaload, 1) := by decide +kernel
theorem dX8_atOf_67 : decode cX8_atOf 67 = .ok (.ireturn, 1) := by decide +kernel
theorem dX8_atOf_68 : decode cX8_atOf 68 = .ok (.aload_n 0, 1) := by decide +kernel
theorem dX8_atOf_69 : decode cX8_atOf 69 = .ok (.getfield 85, 3) := by decide +kernel
theorem dX8_atOf_72 : decode cX8_atOf 72 = .ok (.iload_n 1, 1) := by decide +kernel
theorem dX8_atOf_73 : decode cX8_atOf 73 = .ok (.iaload, 1) := by decide +kernel
theorem dX8_atOf_74 : decode cX8_atOf 74 = .ok (.iload_n 2, 1) := by decide +kernel
theorem dX8_atOf_75 : decode cX8_atOf 75 = .ok (.invokestatic 199, 3) := by decide +kernel
theorem dX8_atOf_78 : decode cX8_atOf 78 = .ok (.ifCond .eq 7, 3) := by decide +kernel
theorem dX8_atOf_81 : decode cX8_atOf 81 = .ok (.iconst 1, 1) := by decide +kernel
theorem dX8_atOf_82 : decode cX8_atOf 82 = .ok (.goto 4, 3) := by decide +kernel
theorem dX8_atOf_85 : decode cX8_atOf 85 = .ok (.iconst 0, 1) := by decide +kernel
theorem dX8_atOf_86 : decode cX8_atOf 86 = .ok (.ireturn, 1) := by decide +kernel
theorem dX8_atOf_87 : decode cX8_atOf 87 = .ok (.aload_n 0, 1) := by decide +kernel
theorem dX8_atOf_88 : decode cX8_atOf 88 = .ok (.getfield 82, 3) := by decide +kernel
theorem dX8_atOf_91 : decode cX8_atOf 91 = .ok (.iload 4, 2) := by decide +kernel
theorem dX8_atOf_93 : decode cX8_atOf 93 = .ok (.iaload, 1) := by decide +kernel
theorem dX8_atOf_94 : decode cX8_atOf 94 = .ok (.ireturn, 1) := by decide +kernel
theorem dX8_at_0 : decode cX8_at 0 = .ok (.iload_n 1, 1) := by decide +kernel
theorem dX8_at_1 : decode cX8_at 1 = .ok (.invokestatic 160, 3) := by decide +kernel
theorem dX8_at_4 : decode cX8_at 4 = .ok (.ifCond .eq 30, 3) := by decide +kernel
theorem dX8_at_7 : decode cX8_at 7 = .ok (.aload_n 0, 1) := by decide +kernel
theorem dX8_at_8 : decode cX8_at 8 = .ok (.iload_n 2, 1) := by decide +kernel
theorem dX8_at_9 : decode cX8_at 9 = .ok (.invokevirtual 153, 3) := by decide +kernel
theorem dX8_at_12 : decode cX8_at 12 = .ok (.ifCond .eq 22, 3) := by decide +kernel
theorem dX8_at_15 : decode cX8_at 15 = .ok (.iload_n 3, 1) := by decide +kernel
theorem dX8_at_16 : decode cX8_at 16 = .ok (.iconst 0, 1) := by decide +kernel
theorem dX8_at_17 : decode cX8_at 17 = .ok (.iconst 4, 1) := by decide +kernel
theorem dX8_at_18 : decode cX8_at 18 = .ok (.invokestatic 124, 3) := by decide +kernel
theorem dX8_at_21 : decode cX8_at 21 = .ok (.ifCond .eq 13, 3) := by decide +kernel
theorem dX8_at_24 : decode cX8_at 24 = .ok (.aload_n 0, 1) := by decide +kernel
theorem dX8_at_25 : decode cX8_at 25 = .ok (.iload_n 1, 1) := by decide +kernel
theorem dX8_at_26 : decode cX8_at 26 = .ok (.iload_n 2, 1) := by decide +kernel
theorem dX8_at_27 : decode cX8_at 27 = .ok (.iload_n 3, 1) := by decide +kernel
theorem dX8_at_28 : decode cX8_at 28 = .ok (.invokevirtual 222, 3) := by decide +kernel
theorem dX8_at_31 : decode cX8_at 31 = .ok (.goto 5, 3) := by decide +kernel
theorem dX8_at_34 : decode cX8_at 34 = .ok (.bipush (-2), 2) := by decide +kernel
theorem dX8_at_36 : decode cX8_at 36 = .ok (.ireturn, 1) := by decide +kernel
theorem dX8_legXAt_0 : decode cX8_legXAt 0 = .ok (.aload_n 0, 1) := by decide +kernel
theorem dX8_legXAt_1 : decode cX8_legXAt 1 = .ok (.getfield 67, 3) := by decide +kernel
theorem dX8_legXAt_4 : decode cX8_legXAt 4 = .ok (.iload_n 1, 1) := by decide +kernel
theorem dX8_legXAt_5 : decode cX8_legXAt 5 = .ok (.iaload, 1) := by decide +kernel
theorem dX8_legXAt_6 : decode cX8_legXAt 6 = .ok (.aload_n 0, 1) := by decide +kernel
theorem dX8_legXAt_7 : decode cX8_legXAt 7 = .ok (.getfield 73, 3) := by decide +kernel
theorem dX8_legXAt_10 : decode cX8_legXAt 10 = .ok (.iload_n 1, 1) := by decide +kernel
theorem dX8_legXAt_11 : decode cX8_legXAt 11 = .ok (.iaload, 1) := by decide +kernel
theorem dX8_legXAt_12 : decode cX8_legXAt 12 = .ok (.aload_n 0, 1) := by decide +kernel
theorem dX8_legXAt_13 : decode cX8_legXAt 13 = .ok (.getfield 76, 3) := by decide +kernel
theorem dX8_legXAt_16 : decode cX8_legXAt 16 = .ok (.iload_n 1, 1) := by decide +kernel
theorem dX8_legXAt_17 : decode cX8_legXAt 17 = .ok (.iaload, 1) := by decide +kernel
theorem dX8_legXAt_18 : decode cX8_legXAt 18 = .ok (.invokestatic 185, 3) := by decide +kernel
theorem dX8_legXAt_21 : decode cX8_legXAt 21 = .ok (.ireturn, 1) := by decide +kernel
theorem dX8_legYAt_0 : decode cX8_legYAt 0 = .ok (.aload_n 0, 1) := by decide +kernel
theorem dX8_legYAt_1 : decode cX8_legYAt 1 = .ok (.getfield 70, 3) := by decide +kernel
theorem dX8_legYAt_4 : decode cX8_legYAt 4 = .ok (.iload_n 1, 1) := by decide +kernel
theorem dX8_legYAt_5 : decode cX8_legYAt 5 = .ok (.iaload, 1) := by decide +kernel
theorem dX8_legYAt_6 : decode cX8_legYAt 6 = .ok (.aload_n 0, 1) := by decide +kernel
theorem dX8_legYAt_7 : decode cX8_legYAt 7 = .ok (.getfield 73, 3) := by decide +kernel
theorem dX8_legYAt_10 : decode cX8_legYAt 10 = .ok (.iload_n 1, 1) := by decide +kernel
theorem dX8_legYAt_11 : decode cX8_legYAt 11 = .ok (.iaload, 1) := by decide +kernel
theorem dX8_legYAt_12 : decode cX8_legYAt 12 = .ok (.aload_n 0, 1) := by decide +kernel
theorem dX8_legYAt_13 : decode cX8_legYAt 13 = .ok (.getfield 76, 3) := by decide +kernel
theorem dX8_legYAt_16 : decode cX8_legYAt 16 = .ok (.iload_n 1, 1) := by decide +kernel
theorem dX8_legYAt_17 : decode cX8_legYAt 17 = .ok (.iaload, 1) := by decide +kernel
theorem dX8_legYAt_18 : decode cX8_legYAt 18 = .ok (.invokestatic 189, 3) := by decide +kernel
theorem dX8_legYAt_21 : decode cX8_legYAt 21 = .ok (.ireturn, 1) := by decide +kernel
theorem dX8_placeOf_0 : decode cX8_placeOf 0 = .ok (.aload_n 0, 1) := by decide +kernel
theorem dX8_placeOf_1 : decode cX8_placeOf 1 = .ok (.invokevirtual 219, 3) := by decide +kernel
theorem dX8_placeOf_4 : decode cX8_placeOf 4 = .ok (.bipush 8, 2) := by decide +kernel
theorem dX8_placeOf_6 : decode cX8_placeOf 6 = .ok (.iload_n 1, 1) := by decide +kernel
theorem dX8_placeOf_7 : decode cX8_placeOf 7 = .ok (.imul, 1) := by decide +kernel
theorem dX8_placeOf_8 : decode cX8_placeOf 8 = .ok (.iload_n 2, 1) := by decide +kernel
theorem dX8_placeOf_9 : decode cX8_placeOf 9 = .ok (.iadd, 1) := by decide +kernel
theorem dX8_placeOf_10 : decode cX8_placeOf 10 = .ok (.istore 4, 2) := by decide +kernel
theorem dX8_placeOf_12 : decode cX8_placeOf 12 = .ok (.iload_n 3, 1) := by decide +kernel
theorem dX8_placeOf_13 : decode cX8_placeOf 13 = .ok (.ifCond .ne 13, 3) := by decide +kernel
theorem dX8_placeOf_16 : decode cX8_placeOf 16 = .ok (.aload_n 0, 1) := by decide +kernel
theorem dX8_placeOf_17 : decode cX8_placeOf 17 = .ok (.getfield 67, 3) := by decide +kernel
theorem dX8_placeOf_20 : decode cX8_placeOf 20 = .ok (.iload 4, 2) := by decide +kernel
theorem dX8_placeOf_22 : decode cX8_placeOf 22 = .ok (.iaload, 1) := by decide +kernel
theorem dX8_placeOf_23 : decode cX8_placeOf 23 = .ok (.goto 38, 3) := by decide +kernel
theorem dX8_placeOf_26 : decode cX8_placeOf 26 = .ok (.iload_n 3, 1) := by decide +kernel
theorem dX8_placeOf_27 : decode cX8_placeOf 27 = .ok (.iconst 1, 1) := by decide +kernel
theorem dX8_placeOf_28 : decode cX8_placeOf 28 = .ok (.if_icmp .ne 13, 3) := by decide +kernel
theorem dX8_placeOf_31 : decode cX8_placeOf 31 = .ok (.aload_n 0, 1) := by decide +kernel
theorem dX8_placeOf_32 : decode cX8_placeOf 32 = .ok (.getfield 70, 3) := by decide +kernel
theorem dX8_placeOf_35 : decode cX8_placeOf 35 = .ok (.iload 4, 2) := by decide +kernel
theorem dX8_placeOf_37 : decode cX8_placeOf 37 = .ok (.iaload, 1) := by decide +kernel
theorem dX8_placeOf_38 : decode cX8_placeOf 38 = .ok (.goto 23, 3) := by decide +kernel
theorem dX8_placeOf_41 : decode cX8_placeOf 41 = .ok (.iload_n 3, 1) := by decide +kernel
theorem dX8_placeOf_42 : decode cX8_placeOf 42 = .ok (.iconst 2, 1) := by decide +kernel
theorem dX8_placeOf_43 : decode cX8_placeOf 43 = .ok (.if_icmp .ne 12, 3) := by decide +kernel
theorem dX8_placeOf_46 : decode cX8_placeOf 46 = .ok (.aload_n 0, 1) := by decide +kernel
theorem dX8_placeOf_47 : decode cX8_placeOf 47 = .ok (.iload 4, 2) := by decide +kernel
theorem dX8_placeOf_49 : decode cX8_placeOf 49 = .ok (.invokevirtual 225, 3) := by decide +kernel
theorem dX8_placeOf_52 : decode cX8_placeOf 52 = .ok (.goto 9, 3) := by decide +kernel
theorem dX8_placeOf_55 : decode cX8_placeOf 55 = .ok (.aload_n 0, 1) := by decide +kernel
theorem dX8_placeOf_56 : decode cX8_placeOf 56 = .ok (.iload 4, 2) := by decide +kernel
theorem dX8_placeOf_58 : decode cX8_placeOf 58 = .ok (.invokevirtual 228, 3) := by decide +kernel
theorem dX8_placeOf_61 : decode cX8_placeOf 61 = .ok (.ireturn, 1) := by decide +kernel
theorem dX8_place_0 : decode cX8_place 0 = .ok (.iload_n 1, 1) := by decide +kernel
theorem dX8_place_1 : decode cX8_place 1 = .ok (.invokestatic 160, 3) := by decide +kernel
theorem dX8_place_4 : decode cX8_place 4 = .ok (.ifCond .eq 30, 3) := by decide +kernel
theorem dX8_place_7 : decode cX8_place 7 = .ok (.aload_n 0, 1) := by decide +kernel
theorem dX8_place_8 : decode cX8_place 8 = .ok (.iload_n 2, 1) := by decide +kernel
theorem dX8_place_9 : decode cX8_place 9 = .ok (.invokevirtual 153, 3) := by decide +kernel
theorem dX8_place_12 : decode cX8_place 12 = .ok (.ifCond .eq 22, 3) := by decide +kernel
theorem dX8_place_15 : decode cX8_place 15 = .ok (.iload_n 3, 1) := by decide +kernel
theorem dX8_place_16 : decode cX8_place 16 = .ok (.iconst 0, 1) := by decide +kernel
theorem dX8_place_17 : decode cX8_place 17 = .ok (.iconst 3, 1) := by decide +kernel
theorem dX8_place_18 : decode cX8_place 18 = .ok (.invokestatic 124, 3) := by decide +kernel
theorem dX8_place_21 : decode cX8_place 21 = .ok (.ifCond .eq 13, 3) := by decide +kernel
theorem dX8_place_24 : decode cX8_place 24 = .ok (.aload_n 0, 1) := by decide +kernel
theorem dX8_place_25 : decode cX8_place 25 = .ok (.iload_n 1, 1) := by decide +kernel
theorem dX8_place_26 : decode cX8_place 26 = .ok (.iload_n 2, 1) := by decide +kernel
theorem dX8_place_27 : decode cX8_place 27 = .ok (.iload_n 3, 1) := by decide +kernel
theorem dX8_place_28 : decode cX8_place 28 = .ok (.invokevirtual 231, 3) := by decide +kernel
theorem dX8_place_31 : decode cX8_place 31 = .ok (.goto 5, 3) := by decide +kernel
theorem dX8_place_34 : decode cX8_place 34 = .ok (.ldc 234, 2) := by decide +kernel
theorem dX8_place_36 : decode cX8_place 36 = .ok (.ireturn, 1) := by decide +kernel
theorem dX8_areNow_0 : decode cX8_areNow 0 = .ok (.bipush 8, 2) := by decide +kernel
theorem dX8_areNow_2 : decode cX8_areNow 2 = .ok (.iload_n 1, 1) := by decide +kernel
theorem dX8_areNow_3 : decode cX8_areNow 3 = .ok (.imul, 1) := by decide +kernel
theorem dX8_areNow_4 : decode cX8_areNow 4 = .ok (.iload_n 2, 1) := by decide +kernel
theorem dX8_areNow_5 : decode cX8_areNow 5 = .ok (.iadd, 1) := by decide +kernel
theorem dX8_areNow_6 : decode cX8_areNow 6 = .ok (.istore 4, 2) := by decide +kernel
theorem dX8_areNow_8 : decode cX8_areNow 8 = .ok (.bipush 8, 2) := by decide +kernel
theorem dX8_areNow_10 : decode cX8_areNow 10 = .ok (.iload_n 1, 1) := by decide +kernel
theorem dX8_areNow_11 : decode cX8_areNow 11 = .ok (.imul, 1) := by decide +kernel
theorem dX8_areNow_12 : decode cX8_areNow 12 = .ok (.iload_n 3, 1) := by decide +kernel
theorem dX8_areNow_13 : decode cX8_areNow 13 = .ok (.iadd, 1) := by decide +kernel
theorem dX8_areNow_14 : decode cX8_areNow 14 = .ok (.istore 5, 2) := by decide +kernel
theorem dX8_areNow_16 : decode cX8_areNow 16 = .ok (.aload_n 0, 1) := by decide +kernel
theorem dX8_areNow_17 : decode cX8_areNow 17 = .ok (.getfield 67, 3) := by decide +kernel
theorem dX8_areNow_20 : decode cX8_areNow 20 = .ok (.iload 4, 2) := by decide +kernel
theorem dX8_areNow_22 : decode cX8_areNow 22 = .ok (.iaload, 1) := by decide +kernel
theorem dX8_areNow_23 : decode cX8_areNow 23 = .ok (.aload_n 0, 1) := by decide +kernel
theorem dX8_areNow_24 : decode cX8_areNow 24 = .ok (.getfield 67, 3) := by decide +kernel
theorem dX8_areNow_27 : decode cX8_areNow 27 = .ok (.iload 5, 2) := by decide +kernel
theorem dX8_areNow_29 : decode cX8_areNow 29 = .ok (.iaload, 1) := by decide +kernel
theorem dX8_areNow_30 : decode cX8_areNow 30 = .ok (.isub, 1) := by decide +kernel
theorem dX8_areNow_31 : decode cX8_areNow 31 = .ok (.istore 6, 2) := by decide +kernel
theorem dX8_areNow_33 : decode cX8_areNow 33 = .ok (.aload_n 0, 1) := by decide +kernel
theorem dX8_areNow_34 : decode cX8_areNow 34 = .ok (.getfield 70, 3) := by decide +kernel
theorem dX8_areNow_37 : decode cX8_areNow 37 = .ok (.iload 4, 2) := by decide +kernel
theorem dX8_areNow_39 : decode cX8_areNow 39 = .ok (.iaload, 1) := by decide +kernel
theorem dX8_areNow_40 : decode cX8_areNow 40 = .ok (.aload_n 0, 1) := by decide +kernel
theorem dX8_areNow_41 : decode cX8_areNow 41 = .ok (.getfield 70, 3) := by decide +kernel
theorem dX8_areNow_44 : decode cX8_areNow 44 = .ok (.iload 5, 2) := by decide +kernel
theorem dX8_areNow_46 : decode cX8_areNow 46 = .ok (.iaload, 1) := by decide +kernel
theorem dX8_areNow_47 : decode cX8_areNow 47 = .ok (.isub, 1) := by decide +kernel
theorem dX8_areNow_48 : decode cX8_areNow 48 = .ok (.istore 7, 2) := by decide +kernel
theorem dX8_areNow_50 : decode cX8_areNow 50 = .ok (.iload 6, 2) := by decide +kernel
theorem dX8_areNow_52 : decode cX8_areNow 52 = .ok (.iload 6, 2) := by decide +kernel
theorem dX8_areNow_54 : decode cX8_areNow 54 = .ok (.imul, 1) := by decide +kernel
theorem dX8_areNow_55 : decode cX8_areNow 55 = .ok (.iload 7, 2) := by decide +kernel
theorem dX8_areNow_57 : decode cX8_areNow 57 = .ok (.iload 7, 2) := by decide +kernel
theorem dX8_areNow_59 : decode cX8_areNow 59 = .ok (.imul, 1) := by decide +kernel
theorem dX8_areNow_60 : decode cX8_areNow 60 = .ok (.iadd, 1) := by decide +kernel
theorem dX8_areNow_61 : decode cX8_areNow 61 = .ok (.istore 8, 2) := by decide +kernel
theorem dX8_areNow_63 : decode cX8_areNow 63 = .ok (.aload_n 0, 1) := by decide +kernel
theorem dX8_areNow_64 : decode cX8_areNow 64 = .ok (.getfield 73, 3) := by decide +kernel
theorem dX8_areNow_67 : decode cX8_areNow 67 = .ok (.iload 4, 2) := by decide +kernel
theorem dX8_areNow_69 : decode cX8_areNow 69 = .ok (.iaload, 1) := by decide +kernel
theorem dX8_areNow_70 : decode cX8_areNow 70 = .ok (.aload_n 0, 1) := by decide +kernel
theorem dX8_areNow_71 : decode cX8_areNow 71 = .ok (.getfield 73, 3) := by decide +kernel
theorem dX8_areNow_74 : decode cX8_areNow 74 = .ok (.iload 5, 2) := by decide +kernel
theorem dX8_areNow_76 : decode cX8_areNow 76 = .ok (.iaload, 1) := by decide +kernel
theorem dX8_areNow_77 : decode cX8_areNow 77 = .ok (.iadd, 1) := by decide +kernel
theorem dX8_areNow_78 : decode cX8_areNow 78 = .ok (.istore 9, 2) := by decide +kernel
theorem dX8_areNow_80 : decode cX8_areNow 80 = .ok (.aload_n 0, 1) := by decide +kernel
theorem dX8_areNow_81 : decode cX8_areNow 81 = .ok (.getfield 73, 3) := by decide +kernel
theorem dX8_areNow_84 : decode cX8_areNow 84 = .ok (.iload 4, 2) := by decide +kernel
theorem dX8_areNow_86 : decode cX8_areNow 86 = .ok (.iaload, 1) := by decide +kernel
theorem dX8_areNow_87 : decode cX8_areNow 87 = .ok (.aload_n 0, 1) := by decide +kernel
theorem dX8_areNow_88 : decode cX8_areNow 88 = .ok (.getfield 73, 3) := by decide +kernel
theorem dX8_areNow_91 : decode cX8_areNow 91 = .ok (.iload 5, 2) := by decide +kernel
theorem dX8_areNow_93 : decode cX8_areNow 93 = .ok (.iaload, 1) := by decide +kernel
theorem dX8_areNow_94 : decode cX8_areNow 94 = .ok (.isub, 1) := by decide +kernel
theorem dX8_areNow_95 : decode cX8_areNow 95 = .ok (.istore 10, 2) := by decide +kernel
theorem dX8_areNow_97 : decode cX8_areNow 97 = .ok (.iload 8, 2) := by decide +kernel
theorem dX8_areNow_99 : decode cX8_areNow 99 = .ok (.ifCond .ne 10, 3) := by decide +kernel
theorem dX8_areNow_102 : decode cX8_areNow 102 = .ok (.iload 10, 2) := by decide +kernel
theorem dX8_areNow_104 : decode cX8_areNow 104 = .ok (.ifCond .ne 5, 3) := by decide +kernel
theorem dX8_areNow_107 : decode cX8_areNow 107 = .ok (.iconst 5, 1) := by decide +kernel
theorem dX8_areNow_108 : decode cX8_areNow 108 = .ok (.ireturn, 1) := by decide +kernel
theorem dX8_areNow_109 : decode cX8_areNow 109 = .ok (.iload 8, 2) := by decide +kernel
theorem dX8_areNow_111 : decode cX8_areNow 111 = .ok (.iload 9, 2) := by decide +kernel
theorem dX8_areNow_113 : decode cX8_areNow 113 = .ok (.iload 9, 2) := by decide +kernel
theorem dX8_areNow_115 : decode cX8_areNow 115 = .ok (.imul, 1) := by decide +kernel
theorem dX8_areNow_116 : decode cX8_areNow 116 = .ok (.if_icmp .le 5, 3) := by decide +kernel
theorem dX8_areNow_119 : decode cX8_areNow 119 = .ok (.iconst 0, 1) := by decide +kernel
theorem dX8_areNow_120 : decode cX8_areNow 120 = .ok (.ireturn, 1) := by decide +kernel
theorem dX8_areNow_121 : decode cX8_areNow 121 = .ok (.iload 8, 2) := by decide +kernel
theorem dX8_areNow_123 : decode cX8_areNow 123 = .ok (.iload 9, 2) := by decide +kernel
theorem dX8_areNow_125 : decode cX8_areNow 125 = .ok (.iload 9, 2) := by decide +kernel
theorem dX8_areNow_127 : decode cX8_areNow 127 = .ok (.imul, 1) := by decide +kernel
theorem dX8_areNow_128 : decode cX8_areNow 128 = .ok (.if_icmp .ne 5, 3) := by decide +kernel
theorem dX8_areNow_131 : decode cX8_areNow 131 = .ok (.iconst 1, 1) := by decide +kernel
theorem dX8_areNow_132 : decode cX8_areNow 132 = .ok (.ireturn, 1) := by decide +kernel
theorem dX8_areNow_133 : decode cX8_areNow 133 = .ok (.iload 8, 2) := by decide +kernel
theorem dX8_areNow_135 : decode cX8_areNow 135 = .ok (.iload 10, 2) := by decide +kernel
theorem dX8_areNow_137 : decode cX8_areNow 137 = .ok (.iload 10, 2) := by decide +kernel
theorem dX8_areNow_139 : decode cX8_areNow 139 = .ok (.imul, 1) := by decide +kernel
theorem dX8_areNow_140 : decode cX8_areNow 140 = .ok (.if_icmp .ge 7, 3) := by decide +kernel
theorem dX8_areNow_143 : decode cX8_areNow 143 = .ok (.iconst 4, 1) := by decide +kernel
theorem dX8_areNow_144 : decode cX8_areNow 144 = .ok (.goto 18, 3) := by decide +kernel
theorem dX8_areNow_147 : decode cX8_areNow 147 = .ok (.iload 8, 2) := by decide +kernel
theorem dX8_areNow_149 : decode cX8_areNow 149 = .ok (.iload 10, 2) := by decide +kernel
theorem dX8_areNow_151 : decode cX8_areNow 151 = .ok (.iload 10, 2) := by decide +kernel
theorem dX8_areNow_153 : decode cX8_areNow 153 = .ok (.imul, 1) := by decide +kernel
theorem dX8_areNow_154 : decode cX8_areNow 154 = .ok (.if_icmp .ne 7, 3) := by decide +kernel
theorem dX8_areNow_157 : decode cX8_areNow 157 = .ok (.iconst 3, 1) := by decide +kernel
theorem dX8_areNow_158 : decode cX8_areNow 158 = .ok (.goto 4, 3) := by decide +kernel
theorem dX8_areNow_161 : decode cX8_areNow 161 = .ok (.iconst 2, 1) := by decide +kernel
theorem dX8_areNow_162 : decode cX8_areNow 162 = .ok (.ireturn, 1) := by decide +kernel
theorem dX8_areOf_0 : decode cX8_areOf 0 = .ok (.aload_n 0, 1) := by decide +kernel
theorem dX8_areOf_1 : decode cX8_areOf 1 = .ok (.invokevirtual 219, 3) := by decide +kernel
theorem dX8_areOf_4 : decode cX8_areOf 4 = .ok (.aload_n 0, 1) := by decide +kernel
theorem dX8_areOf_5 : decode cX8_areOf 5 = .ok (.iload_n 1, 1) := by decide +kernel
theorem dX8_areOf_6 : decode cX8_areOf 6 = .ok (.iload_n 2, 1) := by decide +kernel
theorem dX8_areOf_7 : decode cX8_areOf 7 = .ok (.iload_n 3, 1) := by decide +kernel
theorem dX8_areOf_8 : decode cX8_areOf 8 = .ok (.invokevirtual 235, 3) := by decide +kernel
theorem dX8_areOf_11 : decode cX8_areOf 11 = .ok (.ireturn, 1) := by decide +kernel
theorem dX8_are_0 : decode cX8_are 0 = .ok (.iload_n 1, 1) := by decide +kernel
theorem dX8_are_1 : decode cX8_are 1 = .ok (.invokestatic 160, 3) := by decide +kernel
theorem dX8_are_4 : decode cX8_are 4 = .ok (.ifCond .eq 34, 3) := by decide +kernel
theorem dX8_are_7 : decode cX8_are 7 = .ok (.aload_n 0, 1) := by decide +kernel
theorem dX8_are_8 : decode cX8_are 8 = .ok (.iload_n 2, 1) := by decide +kernel
theorem dX8_are_9 : decode cX8_are 9 = .ok (.invokevirtual 153, 3) := by decide +kernel
theorem dX8_are_12 : decode cX8_are 12 = .ok (.ifCond .eq 26, 3) := by decide +kernel
theorem dX8_are_15 : decode cX8_are 15 = .ok (.aload_n 0, 1) := by decide +kernel
theorem dX8_are_16 : decode cX8_are 16 = .ok (.iload_n 3, 1) := by decide +kernel
theorem dX8_are_17 : decode cX8_are 17 = .ok (.invokevirtual 153, 3) := by decide +kernel
theorem dX8_are_20 : decode cX8_are 20 = .ok (.ifCond .eq 18, 3) := by decide +kernel
theorem dX8_are_23 : decode cX8_are 23 = .ok (.iload_n 2, 1) := by decide +kernel
theorem dX8_are_24 : decode cX8_are 24 = .ok (.iload_n 3, 1) := by decide +kernel
theorem dX8_are_25 : decode cX8_are 25 = .ok (.if_icmp .eq 13, 3) := by decide +kernel
theorem dX8_are_28 : decode cX8_are 28 = .ok (.aload_n 0, 1) := by decide +kernel
theorem dX8_are_29 : decode cX8_are 29 = .ok (.iload_n 1, 1) := by decide +kernel
theorem dX8_are_30 : decode cX8_are 30 = .ok (.iload_n 2, 1) := by decide +kernel
theorem dX8_are_31 : decode cX8_are 31 = .ok (.iload_n 3, 1) := by decide +kernel
theorem dX8_are_32 : decode cX8_are 32 = .ok (.invokevirtual 238, 3) := by decide +kernel
theorem dX8_are_35 : decode cX8_are 35 = .ok (.goto 5, 3) := by decide +kernel
theorem dX8_are_38 : decode cX8_are 38 = .ok (.bipush (-2), 2) := by decide +kernel
theorem dX8_are_40 : decode cX8_are 40 = .ok (.ireturn, 1) := by decide +kernel
theorem dX8_pairsNow_0 : decode cX8_pairsNow 0 = .ok (.iconst 0, 1) := by decide +kernel
theorem dX8_pairsNow_1 : decode cX8_pairsNow 1 = .ok (.istore_n 3, 1) := by decide +kernel
theorem dX8_pairsNow_2 : decode cX8_pairsNow 2 = .ok (.iconst 0, 1) := by decide +kernel
theorem dX8_pairsNow_3 : decode cX8_pairsNow 3 = .ok (.istore 4, 2) := by decide +kernel
theorem dX8_pairsNow_5 : decode cX8_pairsNow 5 = .ok (.iload 4, 2) := by decide +kernel
theorem dX8_pairsNow_7 : decode cX8_pairsNow 7 = .ok (.aload_n 0, 1) := by decide +kernel
theorem dX8_pairsNow_8 : decode cX8_pairsNow 8 = .ok (.getfield 139, 3) := by decide +kernel
theorem dX8_pairsNow_11 : decode cX8_pairsNow 11 = .ok (.if_icmp .ge 135, 3) := by decide +kernel
theorem dX8_pairsNow_14 : decode cX8_pairsNow 14 = .ok (.iload 4, 2) := by decide +kernel
theorem dX8_pairsNow_16 : decode cX8_pairsNow 16 = .ok (.iconst 1, 1) := by decide +kernel
theorem dX8_pairsNow_17 : decode cX8_pairsNow 17 = .ok (.iadd, 1) := by decide +kernel
theorem dX8_pairsNow_18 : decode cX8_pairsNow 18 = .ok (.istore 5, 2) := by decide +kernel
theorem dX8_pairsNow_20 : decode cX8_pairsNow 20 = .ok (.iload 5, 2) := by decide +kernel
theorem dX8_pairsNow_22 : decode cX8_pairsNow 22 = .ok (.aload_n 0, 1) := by decide +kernel
theorem dX8_pairsNow_23 : decode cX8_pairsNow 23 = .ok (.getfield 139, 3) := by decide +kernel
theorem dX8_pairsNow_26 : decode cX8_pairsNow 26 = .ok (.if_icmp .ge 114, 3) := by decide +kernel
theorem dX8_pairsNow_29 : decode cX8_pairsNow 29 = .ok (.aload_n 0, 1) := by decide +kernel
theorem dX8_pairsNow_30 : decode cX8_pairsNow 30 = .ok (.getfield 79, 3) := by decide +kernel
theorem dX8_pairsNow_33 : decode cX8_pairsNow 33 = .ok (.bipush 8, 2) := by decide +kernel
theorem dX8_pairsNow_35 : decode cX8_pairsNow 35 = .ok (.iload_n 1, 1) := by decide +kernel
theorem dX8_pairsNow_36 : decode cX8_pairsNow 36 = .ok (.imul, 1) := by decide +kernel
theorem dX8_pairsNow_37 : decode cX8_pairsNow 37 = .ok (.iload 4, 2) := by decide +kernel
theorem dX8_pairsNow_39 : decode cX8_pairsNow 39 = .ok (.iadd, 1) := by decide +kernel
theorem dX8_pairsNow_40 : decode cX8_pairsNow 40 = .ok (.iaload, 1) := by decide +kernel
theorem dX8_pairsNow_41 : decode cX8_pairsNow 41 = .ok (.iconst 4, 1) := by decide +kernel
theorem dX8_pairsNow_42 : decode cX8_pairsNow 42 = .ok (.if_icmp .ne 23, 3) := by decide +kernel
theorem dX8_pairsNow_45 : decode cX8_pairsNow 45 = .ok (.aload_n 0, 1) := by decide +kernel
theorem dX8_pairsNow_46 : decode cX8_pairsNow 46 = .ok (.getfield 79, 3) := by decide +kernel
theorem dX8_pairsNow_49 : decode cX8_pairsNow 49 = .ok (.bipush 8, 2) := by decide +kernel
theorem dX8_pairsNow_51 : decode cX8_pairsNow 51 = .ok (.iload_n 1, 1) := by decide +kernel
theorem dX8_pairsNow_52 : decode cX8_pairsNow 52 = .ok (.imul, 1) := by decide +kernel
theorem dX8_pairsNow_53 : decode cX8_pairsNow 53 = .ok (.iload 5, 2) := by decide +kernel
theorem dX8_pairsNow_55 : decode cX8_pairsNow 55 = .ok (.iadd, 1) := by decide +kernel
theorem dX8_pairsNow_56 : decode cX8_pairsNow 56 = .ok (.iaload, 1) := by decide +kernel
theorem dX8_pairsNow_57 : decode cX8_pairsNow 57 = .ok (.iconst 4, 1) := by decide +kernel
theorem dX8_pairsNow_58 : decode cX8_pairsNow 58 = .ok (.if_icmp .ne 7, 3) := by decide +kernel
theorem dX8_pairsNow_61 : decode cX8_pairsNow 61 = .ok (.iconst 1, 1) := by decide +kernel
theorem dX8_pairsNow_62 : decode cX8_pairsNow 62 = .ok (.goto 4, 3) := by decide +kernel
theorem dX8_pairsNow_65 : decode cX8_pairsNow 65 = .ok (.iconst 0, 1) := by decide +kernel
theorem dX8_pairsNow_66 : decode cX8_pairsNow 66 = .ok (.istore 6, 2) := by decide +kernel
theorem dX8_pairsNow_68 : decode cX8_pairsNow 68 = .ok (.aload_n 0, 1) := by decide +kernel
theorem dX8_pairsNow_69 : decode cX8_pairsNow 69 = .ok (.iload_n 1, 1) := by decide +kernel
theorem dX8_pairsNow_70 : decode cX8_pairsNow 70 = .ok (.iload 4, 2) := by decide +kernel
theorem dX8_pairsNow_72 : decode cX8_pairsNow 72 = .ok (.iload 5, 2) := by decide +kernel
theorem dX8_pairsNow_74 : decode cX8_pairsNow 74 = .ok (.invokevirtual 235, 3) := by decide +kernel
theorem dX8_pairsNow_77 : decode cX8_pairsNow 77 = .ok (.istore 7, 2) := by decide +kernel
theorem dX8_pairsNow_79 : decode cX8_pairsNow 79 = .ok (.iload_n 2, 1) := by decide +kernel
theorem dX8_pairsNow_80 : decode cX8_pairsNow 80 = .ok (.ifCond .ne 17, 3) := by decide +kernel
theorem dX8_pairsNow_83 : decode cX8_pairsNow 83 = .ok (.iload 7, 2) := by decide +kernel
theorem dX8_pairsNow_85 : decode cX8_pairsNow 85 = .ok (.iconst 2, 1) := by decide +kernel
theorem dX8_pairsNow_86 : decode cX8_pairsNow 86 = .ok (.if_icmp .ne 7, 3) := by decide +kernel
theorem dX8_pairsNow_89 : decode cX8_pairsNow 89 = .ok (.iconst 1, 1) := by decide +kernel
theorem dX8_pairsNow_90 : decode cX8_pairsNow 90 = .ok (.goto 24, 3) := by decide +kernel
theorem dX8_pairsNow_93 : decode cX8_pairsNow 93 = .ok (.iconst 0, 1) := by decide +kernel
theorem dX8_pairsNow_94 : decode cX8_pairsNow 94 = .ok (.goto 20, 3) := by decide +kernel
theorem dX8_pairsNow_97 : decode cX8_pairsNow 97 = .ok (.iload 7, 2) := by decide +kernel
theorem dX8_pairsNow_99 : decode cX8_pairsNow 99 = .ok (.iconst 1, 1) := by decide +kernel
theorem dX8_pairsNow_100 : decode cX8_pairsNow 100 = .ok (.if_icmp .eq 9, 3) := by decide +kernel
theorem dX8_pairsNow_103 : decode cX8_pairsNow 103 = .ok (.iload 7, 2) := by decide +kernel
theorem dX8_pairsNow_105 : decode cX8_pairsNow 105 = .ok (.iconst 3, 1) := by decide +kernel
theorem dX8_pairsNow_106 : decode cX8_pairsNow 106 = .ok (.if_icmp .ne 7, 3) := by decide +kernel
theorem dX8_pairsNow_109 : decode cX8_pairsNow 109 = .ok (.iconst 1, 1) := by decide +kernel
theorem dX8_pairsNow_110 : decode cX8_pairsNow 110 = .ok (.goto 4, 3) := by decide +kernel
theorem dX8_pairsNow_113 : decode cX8_pairsNow 113 = .ok (.iconst 0, 1) := by decide +kernel
theorem dX8_pairsNow_114 : decode cX8_pairsNow 114 = .ok (.istore 8, 2) := by decide +kernel
theorem dX8_pairsNow_116 : decode cX8_pairsNow 116 = .ok (.iload_n 3, 1) := by decide +kernel
theorem dX8_pairsNow_117 : decode cX8_pairsNow 117 = .ok (.iload 6, 2) := by decide +kernel
theorem dX8_pairsNow_119 : decode cX8_pairsNow 119 = .ok (.ifCond .eq 12, 3) := by decide +kernel
theorem dX8_pairsNow_122 : decode cX8_pairsNow 122 = .ok (.iload 8, 2) := by decide +kernel
theorem dX8_pairsNow_124 : decode cX8_pairsNow 124 = .ok (.ifCond .eq 7, 3) := by decide +kernel
theorem dX8_pairsNow_127 : decode cX8_pairsNow 127 = .ok (.iconst 1, 1) := by decide +kernel
theorem dX8_pairsNow_128 : decode cX8_pairsNow 128 = .ok (.goto 4, 3) := by decide +kernel
theorem dX8_pairsNow_131 : decode cX8_pairsNow 131 = .ok (.iconst 0, 1) := by decide +kernel
theorem dX8_pairsNow_132 : decode cX8_pairsNow 132 = .ok (.iadd, 1) := by decide +kernel
theorem dX8_pairsNow_133 : decode cX8_pairsNow 133 = .ok (.istore_n 3, 1) := by decide +kernel
theorem dX8_pairsNow_134 : decode cX8_pairsNow 134 = .ok (.iinc 5 1, 3) := by decide +kernel
theorem dX8_pairsNow_137 : decode cX8_pairsNow 137 = .ok (.goto (-117), 3) := by decide +kernel
theorem dX8_pairsNow_140 : decode cX8_pairsNow 140 = .ok (.iinc 4 1, 3) := by decide +kernel
theorem dX8_pairsNow_143 : decode cX8_pairsNow 143 = .ok (.goto (-138), 3) := by decide +kernel
theorem dX8_pairsNow_146 : decode cX8_pairsNow 146 = .ok (.iload_n 3, 1) := by decide +kernel
theorem dX8_pairsNow_147 : decode cX8_pairsNow 147 = .ok (.ireturn, 1) := by decide +kernel
theorem dX8_pairsOf_0 : decode cX8_pairsOf 0 = .ok (.aload_n 0, 1) := by decide +kernel
theorem dX8_pairsOf_1 : decode cX8_pairsOf 1 = .ok (.invokevirtual 219, 3) := by decide +kernel
theorem dX8_pairsOf_4 : decode cX8_pairsOf 4 = .ok (.aload_n 0, 1) := by decide +kernel
theorem dX8_pairsOf_5 : decode cX8_pairsOf 5 = .ok (.iload_n 1, 1) := by decide +kernel
theorem dX8_pairsOf_6 : decode cX8_pairsOf 6 = .ok (.iload_n 2, 1) := by decide +kernel
theorem dX8_pairsOf_7 : decode cX8_pairsOf 7 = .ok (.invokevirtual 241, 3) := by decide +kernel
theorem dX8_pairsOf_10 : decode cX8_pairsOf 10 = .ok (.ireturn, 1) := by decide +kernel
theorem dX8_pairs_0 : decode cX8_pairs 0 = .ok (.iload_n 1, 1) := by decide +kernel
theorem dX8_pairs_1 : decode cX8_pairs 1 = .ok (.invokestatic 160, 3) := by decide +kernel
theorem dX8_pairs_4 : decode cX8_pairs 4 = .ok (.ifCond .eq 21, 3) := by decide +kernel
theorem dX8_pairs_7 : decode cX8_pairs 7 = .ok (.iload_n 2, 1) := by decide +kernel
theorem dX8_pairs_8 : decode cX8_pairs 8 = .ok (.iconst 0, 1) := by decide +kernel
theorem dX8_pairs_9 : decode cX8_pairs 9 = .ok (.iconst 1, 1) := by decide +kernel
theorem dX8_pairs_10 : decode cX8_pairs 10 = .ok (.invokestatic 124, 3) := by decide +kernel
theorem dX8_pairs_13 : decode cX8_pairs 13 = .ok (.ifCond .eq 12, 3) := by decide +kernel
theorem dX8_pairs_16 : decode cX8_pairs 16 = .ok (.aload_n 0, 1) := by decide +kernel
theorem dX8_pairs_17 : decode cX8_pairs 17 = .ok (.iload_n 1, 1) := by decide +kernel
theorem dX8_pairs_18 : decode cX8_pairs 18 = .ok (.iload_n 2, 1) := by decide +kernel
theorem dX8_pairs_19 : decode cX8_pairs 19 = .ok (.invokevirtual 244, 3) := by decide +kernel
theorem dX8_pairs_22 : decode cX8_pairs 22 = .ok (.goto 5, 3) := by decide +kernel
theorem dX8_pairs_25 : decode cX8_pairs 25 = .ok (.bipush (-2), 2) := by decide +kernel
theorem dX8_pairs_27 : decode cX8_pairs 27 = .ok (.ireturn, 1) := by decide +kernel
theorem dX8_closedNow_0 : decode cX8_closedNow 0 = .ok (.iconst 0, 1) := by decide +kernel
theorem dX8_closedNow_1 : decode cX8_closedNow 1 = .ok (.istore_n 2, 1) := by decide +kernel
theorem dX8_closedNow_2 : decode cX8_closedNow 2 = .ok (.iconst 0, 1) := by decide +kernel
theorem dX8_closedNow_3 : decode cX8_closedNow 3 = .ok (.istore_n 3, 1) := by decide +kernel
theorem dX8_closedNow_4 : decode cX8_closedNow 4 = .ok (.iload_n 3, 1) := by decide +kernel
theorem dX8_closedNow_5 : decode cX8_closedNow 5 = .ok (.aload_n 0, 1) := by decide +kernel
theorem dX8_closedNow_6 : decode cX8_closedNow 6 = .ok (.getfield 139, 3) := by decide +kernel
theorem dX8_closedNow_9 : decode cX8_closedNow 9 = .ok (.if_icmp .ge 34, 3) := by decide +kernel
theorem dX8_closedNow_12 : decode cX8_closedNow 12 = .ok (.iload_n 2, 1) := by decide +kernel
theorem dX8_closedNow_13 : decode cX8_closedNow 13 = .ok (.aload_n 0, 1) := by decide +kernel
theorem dX8_closedNow_14 : decode cX8_closedNow 14 = .ok (.getfield 79, 3) := by decide +kernel
theorem dX8_closedNow_17 : decode cX8_closedNow 17 = .ok (.bipush 8, 2) := by decide +kernel
theorem dX8_closedNow_19 : decode cX8_closedNow 19 = .ok (.iload_n 1, 1) := by decide +kernel
theorem dX8_closedNow_20 : decode cX8_closedNow 20 = .ok (.imul, 1) := by decide +kernel
theorem dX8_closedNow_21 : decode cX8_closedNow 21 = .ok (.iload_n 3, 1) := by decide +kernel
theorem dX8_closedNow_22 : decode cX8_closedNow 22 = .ok (.iadd, 1) := by decide +kernel
theorem dX8_closedNow_23 : decode cX8_closedNow 23 = .ok (.iaload, 1) := by decide +kernel
theorem dX8_closedNow_24 : decode cX8_closedNow 24 = .ok (.iconst 4, 1) := by decide +kernel
theorem dX8_closedNow_25 : decode cX8_closedNow 25 = .ok (.if_icmp .ne 9, 3) := by decide +kernel
theorem dX8_closedNow_28 : decode cX8_closedNow 28 = .ok (.iconst 1, 1) := by decide +kernel
theorem dX8_closedNow_29 : decode cX8_closedNow 29 = .ok (.iload_n 3, 1) := by decide +kernel
theorem dX8_closedNow_30 : decode cX8_closedNow 30 = .ok (.ishl, 1) := by decide +kernel
theorem dX8_closedNow_31 : decode cX8_closedNow 31 = .ok (.goto 4, 3) := by decide +kernel
theorem dX8_closedNow_34 : decode cX8_closedNow 34 = .ok (.iconst 0, 1) := by decide +kernel
theorem dX8_closedNow_35 : decode cX8_closedNow 35 = .ok (.ior, 1) := by decide +kernel
theorem dX8_closedNow_36 : decode cX8_closedNow 36 = .ok (.istore_n 2, 1) := by decide +kernel
theorem dX8_closedNow_37 : decode cX8_closedNow 37 = .ok (.iinc 3 1, 3) := by decide +kernel
theorem dX8_closedNow_40 : decode cX8_closedNow 40 = .ok (.goto (-36), 3) := by decide +kernel
theorem dX8_closedNow_43 : decode cX8_closedNow 43 = .ok (.iload_n 2, 1) := by decide +kernel
theorem dX8_closedNow_44 : decode cX8_closedNow 44 = .ok (.ireturn, 1) := by decide +kernel
theorem dX8_closedOf_0 : decode cX8_closedOf 0 = .ok (.aload_n 0, 1) := by decide +kernel
theorem dX8_closedOf_1 : decode cX8_closedOf 1 = .ok (.invokevirtual 219, 3) := by decide +kernel
theorem dX8_closedOf_4 : decode cX8_closedOf 4 = .ok (.aload_n 0, 1) := by decide +kernel
theorem dX8_closedOf_5 : decode cX8_closedOf 5 = .ok (.iload_n 1, 1) := by decide +kernel
theorem dX8_closedOf_6 : decode cX8_closedOf 6 = .ok (.invokevirtual 247, 3) := by decide +kernel
theorem dX8_closedOf_9 : decode cX8_closedOf 9 = .ok (.ireturn, 1) := by decide +kernel
theorem dX8_closed_0 : decode cX8_closed 0 = .ok (.iload_n 1, 1) := by decide +kernel
theorem dX8_closed_1 : decode cX8_closed 1 = .ok (.invokestatic 160, 3) := by decide +kernel
theorem dX8_closed_4 : decode cX8_closed 4 = .ok (.ifCond .eq 11, 3) := by decide +kernel
theorem dX8_closed_7 : decode cX8_closed 7 = .ok (.aload_n 0, 1) := by decide +kernel
theorem dX8_closed_8 : decode cX8_closed 8 = .ok (.iload_n 1, 1) := by decide +kernel
theorem dX8_closed_9 : decode cX8_closed 9 = .ok (.invokevirtual 250, 3) := by decide +kernel
theorem dX8_closed_12 : decode cX8_closed 12 = .ok (.goto 5, 3) := by decide +kernel
theorem dX8_closed_15 : decode cX8_closed 15 = .ok (.bipush (-2), 2) := by decide +kernel
theorem dX8_closed_17 : decode cX8_closed 17 = .ok (.ireturn, 1) := by decide +kernel
theorem dX8_isNew_0 : decode cX8_isNew 0 = .ok (.iconst 1, 1) := by decide +kernel
theorem dX8_isNew_1 : decode cX8_isNew 1 = .ok (.istore_n 2, 1) := by decide +kernel
theorem dX8_isNew_2 : decode cX8_isNew 2 = .ok (.iconst 0, 1) := by decide +kernel
theorem dX8_isNew_3 : decode cX8_isNew 3 = .ok (.istore_n 3, 1) := by decide +kernel
theorem dX8_isNew_4 : decode cX8_isNew 4 = .ok (.iload_n 3, 1) := by decide +kernel
theorem dX8_isNew_5 : decode cX8_isNew 5 = .ok (.iload_n 1, 1) := by decide +kernel
theorem dX8_isNew_6 : decode cX8_isNew 6 = .ok (.if_icmp .ge 60, 3) := by decide +kernel
theorem dX8_isNew_9 : decode cX8_isNew 9 = .ok (.iload_n 2, 1) := by decide +kernel
theorem dX8_isNew_10 : decode cX8_isNew 10 = .ok (.ifCond .eq 48, 3) := by decide +kernel
theorem dX8_isNew_13 : decode cX8_isNew 13 = .ok (.iload_n 3, 1) := by decide +kernel
theorem dX8_isNew_14 : decode cX8_isNew 14 = .ok (.bipush 8, 2) := by decide +kernel
theorem dX8_isNew_16 : decode cX8_isNew 16 = .ok (.irem, 1) := by decide +kernel
theorem dX8_isNew_17 : decode cX8_isNew 17 = .ok (.aload_n 0, 1) := by decide +kernel
theorem dX8_isNew_18 : decode cX8_isNew 18 = .ok (.getfield 139, 3) := by decide +kernel
theorem dX8_isNew_21 : decode cX8_isNew 21 = .ok (.if_icmp .ge 33, 3) := by decide +kernel
theorem dX8_isNew_24 : decode cX8_isNew 24 = .ok (.aload_n 0, 1) := by decide +kernel
theorem dX8_isNew_25 : decode cX8_isNew 25 = .ok (.getfield 67, 3) := by decide +kernel
theorem dX8_isNew_28 : decode cX8_isNew 28 = .ok (.iload_n 3, 1) := by decide +kernel
theorem dX8_isNew_29 : decode cX8_isNew 29 = .ok (.iaload, 1) := by decide +kernel
theorem dX8_isNew_30 : decode cX8_isNew 30 = .ok (.aload_n 0, 1) := by decide +kernel
theorem dX8_isNew_31 : decode cX8_isNew 31 = .ok (.getfield 67, 3) := by decide +kernel
theorem dX8_isNew_34 : decode cX8_isNew 34 = .ok (.iload_n 1, 1) := by decide +kernel
theorem dX8_isNew_35 : decode cX8_isNew 35 = .ok (.iaload, 1) := by decide +kernel
theorem dX8_isNew_36 : decode cX8_isNew 36 = .ok (.if_icmp .ne 18, 3) := by decide +kernel
theorem dX8_isNew_39 : decode cX8_isNew 39 = .ok (.aload_n 0, 1) := by decide +kernel
theorem dX8_isNew_40 : decode cX8_isNew 40 = .ok (.getfield 70, 3) := by decide +kernel
theorem dX8_isNew_43 : decode cX8_isNew 43 = .ok (.iload_n 3, 1) := by decide +kernel
theorem dX8_isNew_44 : decode cX8_isNew 44 = .ok (.iaload, 1) := by decide +kernel
theorem dX8_isNew_45 : decode cX8_isNew 45 = .ok (.aload_n 0, 1) := by decide +kernel
theorem dX8_isNew_46 : decode cX8_isNew 46 = .ok (.getfield 70, 3) := by decide +kernel
theorem dX8_isNew_49 : decode cX8_isNew 49 = .ok (.iload_n 1, 1) := by decide +kernel
theorem dX8_isNew_50 : decode cX8_isNew 50 = .ok (.iaload, 1) := by decide +kernel
theorem dX8_isNew_51 : decode cX8_isNew 51 = .ok (.if_icmp .eq 7, 3) := by decide +kernel
theorem dX8_isNew_54 : decode cX8_isNew 54 = .ok (.iconst 1, 1) := by decide +kernel
theorem dX8_isNew_55 : decode cX8_isNew 55 = .ok (.goto 4, 3) := by decide +kernel
theorem dX8_isNew_58 : decode cX8_isNew 58 = .ok (.iconst 0, 1) := by decide +kernel
theorem dX8_isNew_59 : decode cX8_isNew 59 = .ok (.istore_n 2, 1) := by decide +kernel
theorem dX8_isNew_60 : decode cX8_isNew 60 = .ok (.iinc 3 1, 3) := by decide +kernel
theorem dX8_isNew_63 : decode cX8_isNew 63 = .ok (.goto (-59), 3) := by decide +kernel
theorem dX8_isNew_66 : decode cX8_isNew 66 = .ok (.iload_n 2, 1) := by decide +kernel
theorem dX8_isNew_67 : decode cX8_isNew 67 = .ok (.ireturn, 1) := by decide +kernel
theorem dX8_holesOf_0 : decode cX8_holesOf 0 = .ok (.aload_n 0, 1) := by decide +kernel
theorem dX8_holesOf_1 : decode cX8_holesOf 1 = .ok (.invokevirtual 219, 3) := by decide +kernel
theorem dX8_holesOf_4 : decode cX8_holesOf 4 = .ok (.iconst 0, 1) := by decide +kernel
theorem dX8_holesOf_5 : decode cX8_holesOf 5 = .ok (.istore_n 1, 1) := by decide +kernel
theorem dX8_holesOf_6 : decode cX8_holesOf 6 = .ok (.iconst 0, 1) := by decide +kernel
theorem dX8_holesOf_7 : decode cX8_holesOf 7 = .ok (.istore_n 2, 1) := by decide +kernel
theorem dX8_holesOf_8 : decode cX8_holesOf 8 = .ok (.iload_n 2, 1) := by decide +kernel
theorem dX8_holesOf_9 : decode cX8_holesOf 9 = .ok (.sipush 160, 3) := by decide +kernel
theorem dX8_holesOf_12 : decode cX8_holesOf 12 = .ok (.if_icmp .ge 36, 3) := by decide +kernel
theorem dX8_holesOf_15 : decode cX8_holesOf 15 = .ok (.iload_n 1, 1) := by decide +kernel
theorem dX8_holesOf_16 : decode cX8_holesOf 16 = .ok (.iload_n 2, 1) := by decide +kernel
theorem dX8_holesOf_17 : decode cX8_holesOf 17 = .ok (.bipush 8, 2) := by decide +kernel
theorem dX8_holesOf_19 : decode cX8_holesOf 19 = .ok (.irem, 1) := by decide +kernel
theorem dX8_holesOf_20 : decode cX8_holesOf 20 = .ok (.aload_n 0, 1) := by decide +kernel
theorem dX8_holesOf_21 : decode cX8_holesOf 21 = .ok (.getfield 139, 3) := by decide +kernel
theorem dX8_holesOf_24 : decode cX8_holesOf 24 = .ok (.if_icmp .ge 15, 3) := by decide +kernel
theorem dX8_holesOf_27 : decode cX8_holesOf 27 = .ok (.aload_n 0, 1) := by decide +kernel
theorem dX8_holesOf_28 : decode cX8_holesOf 28 = .ok (.iload_n 2, 1) := by decide +kernel
theorem dX8_holesOf_29 : decode cX8_holesOf 29 = .ok (.invokevirtual 253, 3) := by decide +kernel
theorem dX8_holesOf_32 : decode cX8_holesOf 32 = .ok (.ifCond .eq 7, 3) := by decide +kernel
theorem dX8_holesOf_35 : decode cX8_holesOf 35 = .ok (.iconst 1, 1) := by decide +kernel
theorem dX8_holesOf_36 : decode cX8_holesOf 36 = .ok (.goto 4, 3) := by decide +kernel
theorem dX8_holesOf_39 : decode cX8_holesOf 39 = .ok (.iconst 0, 1) := by decide +kernel
theorem dX8_holesOf_40 : decode cX8_holesOf 40 = .ok (.iadd, 1) := by decide +kernel
theorem dX8_holesOf_41 : decode cX8_holesOf 41 = .ok (.istore_n 1, 1) := by decide +kernel
theorem dX8_holesOf_42 : decode cX8_holesOf 42 = .ok (.iinc 2 1, 3) := by decide +kernel
theorem dX8_holesOf_45 : decode cX8_holesOf 45 = .ok (.goto (-37), 3) := by decide +kernel
theorem dX8_holesOf_48 : decode cX8_holesOf 48 = .ok (.iload_n 1, 1) := by decide +kernel
theorem dX8_holesOf_49 : decode cX8_holesOf 49 = .ok (.ireturn, 1) := by decide +kernel
theorem dX8_holes_0 : decode cX8_holes 0 = .ok (.aload_n 0, 1) := by decide +kernel
theorem dX8_holes_1 : decode cX8_holes 1 = .ok (.invokevirtual 256, 3) := by decide +kernel
theorem dX8_holes_4 : decode cX8_holes 4 = .ok (.ireturn, 1) := by decide +kernel
theorem dX8_ringedOf_0 : decode cX8_ringedOf 0 = .ok (.aload_n 0, 1) := by decide +kernel
theorem dX8_ringedOf_1 : decode cX8_ringedOf 1 = .ok (.invokevirtual 219, 3) := by decide +kernel
theorem dX8_ringedOf_4 : decode cX8_ringedOf 4 = .ok (.iconst (-1), 1) := by decide +kernel
theorem dX8_ringedOf_5 : decode cX8_ringedOf 5 = .ok (.istore_n 2, 1) := by decide +kernel
theorem dX8_ringedOf_6 : decode cX8_ringedOf 6 = .ok (.bipush 19, 2) := by decide +kernel
theorem dX8_ringedOf_8 : decode cX8_ringedOf 8 = .ok (.istore_n 3, 1) := by decide +kernel
theorem dX8_ringedOf_9 : decode cX8_ringedOf 9 = .ok (.iload_n 3, 1) := by decide +kernel
theorem dX8_ringedOf_10 : decode cX8_ringedOf 10 = .ok (.ifCond .lt 30, 3) := by decide +kernel
theorem dX8_ringedOf_13 : decode cX8_ringedOf 13 = .ok (.aload_n 0, 1) := by decide +kernel
theorem dX8_ringedOf_14 : decode cX8_ringedOf 14 = .ok (.getfield 79, 3) := by decide +kernel
theorem dX8_ringedOf_17 : decode cX8_ringedOf 17 = .ok (.bipush 8, 2) := by decide +kernel
theorem dX8_ringedOf_19 : decode cX8_ringedOf 19 = .ok (.iload_n 3, 1) := by decide +kernel
theorem dX8_ringedOf_20 : decode cX8_ringedOf 20 = .ok (.imul, 1) := by decide +kernel
theorem dX8_ringedOf_21 : decode cX8_ringedOf 21 = .ok (.iload_n 1, 1) := by decide +kernel
theorem dX8_ringedOf_22 : decode cX8_ringedOf 22 = .ok (.iadd, 1) := by decide +kernel
theorem dX8_ringedOf_23 : decode cX8_ringedOf 23 = .ok (.iaload, 1) := by decide +kernel
theorem dX8_ringedOf_24 : decode cX8_ringedOf 24 = .ok (.iconst 4, 1) := by decide +kernel
theorem dX8_ringedOf_25 : decode cX8_ringedOf 25 = .ok (.if_icmp .ne 7, 3) := by decide +kernel
theorem dX8_ringedOf_28 : decode cX8_ringedOf 28 = .ok (.iload_n 3, 1) := by decide +kernel
theorem dX8_ringedOf_29 : decode cX8_ringedOf 29 = .ok (.goto 4, 3) := by decide +kernel
theorem dX8_ringedOf_32 : decode cX8_ringedOf 32 = .ok (.iload_n 2, 1) := by decide +kernel
theorem dX8_ringedOf_33 : decode cX8_ringedOf 33 = .ok (.istore_n 2, 1) := by decide +kernel
theorem dX8_ringedOf_34 : decode cX8_ringedOf 34 = .ok (.iinc 3 (-1), 3) := by decide +kernel
theorem dX8_ringedOf_37 : decode cX8_ringedOf 37 = .ok (.goto (-28), 3) := by decide +kernel
theorem dX8_ringedOf_40 : decode cX8_ringedOf 40 = .ok (.iload_n 2, 1) := by decide +kernel
theorem dX8_ringedOf_41 : decode cX8_ringedOf 41 = .ok (.ireturn, 1) := by decide +kernel
theorem dX8_ringed_0 : decode cX8_ringed 0 = .ok (.aload_n 0, 1) := by decide +kernel
theorem dX8_ringed_1 : decode cX8_ringed 1 = .ok (.iload_n 1, 1) := by decide +kernel
theorem dX8_ringed_2 : decode cX8_ringed 2 = .ok (.invokevirtual 153, 3) := by decide +kernel
theorem dX8_ringed_5 : decode cX8_ringed 5 = .ok (.ifCond .eq 11, 3) := by decide +kernel
theorem dX8_ringed_8 : decode cX8_ringed 8 = .ok (.aload_n 0, 1) := by decide +kernel
theorem dX8_ringed_9 : decode cX8_ringed 9 = .ok (.iload_n 1, 1) := by decide +kernel
theorem dX8_ringed_10 : decode cX8_ringed 10 = .ok (.invokevirtual 259, 3) := by decide +kernel
theorem dX8_ringed_13 : decode cX8_ringed 13 = .ok (.goto 5, 3) := by decide +kernel
theorem dX8_ringed_16 : decode cX8_ringed 16 = .ok (.bipush (-2), 2) := by decide +kernel
theorem dX8_ringed_18 : decode cX8_ringed 18 = .ok (.ireturn, 1) := by decide +kernel
theorem dX8_metOf_0 : decode cX8_metOf 0 = .ok (.aload_n 0, 1) := by decide +kernel
theorem dX8_metOf_1 : decode cX8_metOf 1 = .ok (.invokevirtual 219, 3) := by decide +kernel
theorem dX8_metOf_4 : decode cX8_metOf 4 = .ok (.iconst 0, 1) := by decide +kernel
theorem dX8_metOf_5 : decode cX8_metOf 5 = .ok (.istore_n 2, 1) := by decide +kernel
theorem dX8_metOf_6 : decode cX8_metOf 6 = .ok (.iload_n 2, 1) := by decide +kernel
theorem dX8_metOf_7 : decode cX8_metOf 7 = .ok (.bipush 20, 2) := by decide +kernel
theorem dX8_metOf_9 : decode cX8_metOf 9 = .ok (.if_icmp .ge 112, 3) := by decide +kernel
theorem dX8_metOf_12 : decode cX8_metOf 12 = .ok (.iconst 0, 1) := by decide +kernel
theorem dX8_metOf_13 : decode cX8_metOf 13 = .ok (.istore_n 3, 1) := by decide +kernel
theorem dX8_metOf_14 : decode cX8_metOf 14 = .ok (.iload_n 3, 1) := by decide +kernel
theorem dX8_metOf_15 : decode cX8_metOf 15 = .ok (.aload_n 0, 1) := by decide +kernel
theorem dX8_metOf_16 : decode cX8_metOf 16 = .ok (.getfield 139, 3) := by decide +kernel
theorem dX8_metOf_19 : decode cX8_metOf 19 = .ok (.if_icmp .ge 96, 3) := by decide +kernel
theorem dX8_metOf_22 : decode cX8_metOf 22 = .ok (.iload_n 3, 1) := by decide +kernel
theorem dX8_metOf_23 : decode cX8_metOf 23 = .ok (.iconst 1, 1) := by decide +kernel
theorem dX8_metOf_24 : decode cX8_metOf 24 = .ok (.iadd, 1) := by decide +kernel
theorem dX8_metOf_25 : decode cX8_metOf 25 = .ok (.istore 4, 2) := by decide +kernel
theorem dX8_metOf_27 : decode cX8_metOf 27 = .ok (.iload 4, 2) := by decide +kernel
theorem dX8_metOf_29 : decode cX8_metOf 29 = .ok (.aload_n 0, 1) := by decide +kernel
theorem dX8_metOf_30 : decode cX8_metOf 30 = .ok (.getfield 139, 3) := by decide +kernel
theorem dX8_metOf_33 : decode cX8_metOf 33 = .ok (.if_icmp .ge 76, 3) := by decide +kernel
theorem dX8_metOf_36 : decode cX8_metOf 36 = .ok (.bipush 8, 2) := by decide +kernel
theorem dX8_metOf_38 : decode cX8_metOf 38 = .ok (.iload_n 2, 1) := by decide +kernel
theorem dX8_metOf_39 : decode cX8_metOf 39 = .ok (.imul, 1) := by decide +kernel
theorem dX8_metOf_40 : decode cX8_metOf 40 = .ok (.iload_n 3, 1) := by decide +kernel
theorem dX8_metOf_41 : decode cX8_metOf 41 = .ok (.iadd, 1) := by decide +kernel
theorem dX8_metOf_42 : decode cX8_metOf 42 = .ok (.istore 5, 2) := by decide +kernel
theorem dX8_metOf_44 : decode cX8_metOf 44 = .ok (.bipush 8, 2) := by decide +kernel
theorem dX8_metOf_46 : decode cX8_metOf 46 = .ok (.iload_n 2, 1) := by decide +kernel
theorem dX8_metOf_47 : decode cX8_metOf 47 = .ok (.imul, 1) := by decide +kernel
theorem dX8_metOf_48 : decode cX8_metOf 48 = .ok (.iload 4, 2) := by decide +kernel
theorem dX8_metOf_50 : decode cX8_metOf 50 = .ok (.iadd, 1) := by decide +kernel
theorem dX8_metOf_51 : decode cX8_metOf 51 = .ok (.istore 6, 2) := by decide +kernel
theorem dX8_metOf_53 : decode cX8_metOf 53 = .ok (.aload_n 0, 1) := by decide +kernel
theorem dX8_metOf_54 : decode cX8_metOf 54 = .ok (.iload 5, 2) := by decide +kernel
theorem dX8_metOf_56 : decode cX8_metOf 56 = .ok (.invokevirtual 225, 3) := by decide +kernel
theorem dX8_metOf_59 : decode cX8_metOf 59 = .ok (.aload_n 0, 1) := by decide +kernel
theorem dX8_metOf_60 : decode cX8_metOf 60 = .ok (.iload 6, 2) := by decide +kernel
theorem dX8_metOf_62 : decode cX8_metOf 62 = .ok (.invokevirtual 225, 3) := by decide +kernel
theorem dX8_metOf_65 : decode cX8_metOf 65 = .ok (.if_icmp .ne 38, 3) := by decide +kernel
theorem dX8_metOf_68 : decode cX8_metOf 68 = .ok (.aload_n 0, 1) := by decide +kernel
theorem dX8_metOf_69 : decode cX8_metOf 69 = .ok (.iload 5, 2) := by decide +kernel
theorem dX8_metOf_71 : decode cX8_metOf 71 = .ok (.invokevirtual 228, 3) := by decide +kernel
theorem dX8_metOf_74 : decode cX8_metOf 74 = .ok (.aload_n 0, 1) := by decide +kernel
theorem dX8_metOf_75 : decode cX8_metOf 75 = .ok (.iload 6, 2) := by decide +kernel
theorem dX8_metOf_77 : decode cX8_metOf 77 = .ok (.invokevirtual 228, 3) := by decide +kernel
theorem dX8_metOf_80 : decode cX8_metOf 80 = .ok (.if_icmp .ne 23, 3) := by decide +kernel
theorem dX8_metOf_83 : decode cX8_metOf 83 = .ok (.iload_n 1, 1) := by decide +kernel
theorem dX8_metOf_84 : decode cX8_metOf 84 = .ok (.ifCond .ne 7, 3) := by decide +kernel
theorem dX8_metOf_87 : decode cX8_metOf 87 = .ok (.iload_n 2, 1) := by decide +kernel
theorem dX8_metOf_88 : decode cX8_metOf 88 = .ok (.goto 14, 3) := by decide +kernel
theorem dX8_metOf_91 : decode cX8_metOf 91 = .ok (.iload_n 1, 1) := by decide +kernel
theorem dX8_metOf_92 : decode cX8_metOf 92 = .ok (.iconst 1, 1) := by decide +kernel
theorem dX8_metOf_93 : decode cX8_metOf 93 = .ok (.if_icmp .ne 7, 3) := by decide +kernel
theorem dX8_metOf_96 : decode cX8_metOf 96 = .ok (.iload_n 3, 1) := by decide +kernel
theorem dX8_metOf_97 : decode cX8_metOf 97 = .ok (.goto 5, 3) := by decide +kernel
theorem dX8_metOf_100 : decode cX8_metOf 100 = .ok (.iload 4, 2) := by decide +kernel
theorem dX8_metOf_102 : decode cX8_metOf 102 = .ok (.ireturn, 1) := by decide +kernel
theorem dX8_metOf_103 : decode cX8_metOf 103 = .ok (.iinc 4 1, 3) := by decide +kernel
theorem dX8_metOf_106 : decode cX8_metOf 106 = .ok (.goto (-79), 3) := by decide +kernel
theorem dX8_metOf_109 : decode cX8_metOf 109 = .ok (.iinc 3 1, 3) := by decide +kernel
theorem dX8_metOf_112 : decode cX8_metOf 112 = .ok (.goto (-98), 3) := by decide +kernel
theorem dX8_metOf_115 : decode cX8_metOf 115 = .ok (.iinc 2 1, 3) := by decide +kernel
theorem dX8_metOf_118 : decode cX8_metOf 118 = .ok (.goto (-112), 3) := by decide +kernel
theorem dX8_metOf_121 : decode cX8_metOf 121 = .ok (.iconst (-1), 1) := by decide +kernel
theorem dX8_metOf_122 : decode cX8_metOf 122 = .ok (.ireturn, 1) := by decide +kernel
theorem dX8_meets_0 : decode cX8_meets 0 = .ok (.iload_n 1, 1) := by decide +kernel
theorem dX8_meets_1 : decode cX8_meets 1 = .ok (.iconst 0, 1) := by decide +kernel
theorem dX8_meets_2 : decode cX8_meets 2 = .ok (.iconst 2, 1) := by decide +kernel
theorem dX8_meets_3 : decode cX8_meets 3 = .ok (.invokestatic 124, 3) := by decide +kernel
theorem dX8_meets_6 : decode cX8_meets 6 = .ok (.ifCond .eq 11, 3) := by decide +kernel
theorem dX8_meets_9 : decode cX8_meets 9 = .ok (.aload_n 0, 1) := by decide +kernel
theorem dX8_meets_10 : decode cX8_meets 10 = .ok (.iload_n 1, 1) := by decide +kernel
theorem dX8_meets_11 : decode cX8_meets 11 = .ok (.invokevirtual 262, 3) := by decide +kernel
theorem dX8_meets_14 : decode cX8_meets 14 = .ok (.goto 5, 3) := by decide +kernel
theorem dX8_meets_17 : decode cX8_meets 17 = .ok (.bipush (-2), 2) := by decide +kernel
theorem dX8_meets_19 : decode cX8_meets 19 = .ok (.ireturn, 1) := by decide +kernel
theorem dX8_othersNow_0 : decode cX8_othersNow 0 = .ok (.iconst 0, 1) := by decide +kernel
theorem dX8_othersNow_1 : decode cX8_othersNow 1 = .ok (.istore 4, 2) := by decide +kernel
theorem dX8_othersNow_3 : decode cX8_othersNow 3 = .ok (.iconst 0, 1) := by decide +kernel
theorem dX8_othersNow_4 : decode cX8_othersNow 4 = .ok (.istore 5, 2) := by decide +kernel
theorem dX8_othersNow_6 : decode cX8_othersNow 6 = .ok (.iload 5, 2) := by decide +kernel
theorem dX8_othersNow_8 : decode cX8_othersNow 8 = .ok (.aload_n 0, 1) := by decide +kernel
theorem dX8_othersNow_9 : decode cX8_othersNow 9 = .ok (.getfield 139, 3) := by decide +kernel
theorem dX8_othersNow_12 : decode cX8_othersNow 12 = .ok (.if_icmp .ge 69, 3) := by decide +kernel
theorem dX8_othersNow_15 : decode cX8_othersNow 15 = .ok (.iload 5, 2) := by decide +kernel
theorem dX8_othersNow_17 : decode cX8_othersNow 17 = .ok (.iload_n 1, 1) := by decide +kernel
theorem dX8_othersNow_18 : decode cX8_othersNow 18 = .ok (.if_icmp .ne 7, 3) := by decide +kernel
theorem dX8_othersNow_21 : decode cX8_othersNow 21 = .ok (.iconst (-1), 1) := by decide +kernel
theorem dX8_othersNow_22 : decode cX8_othersNow 22 = .ok (.goto 11, 3) := by decide +kernel
theorem dX8_othersNow_25 : decode cX8_othersNow 25 = .ok (.aload_n 0, 1) := by decide +kernel
theorem dX8_othersNow_26 : decode cX8_othersNow 26 = .ok (.iload_n 2, 1) := by decide +kernel
theorem dX8_othersNow_27 : decode cX8_othersNow 27 = .ok (.iload_n 1, 1) := by decide +kernel
theorem dX8_othersNow_28 : decode cX8_othersNow 28 = .ok (.iload 5, 2) := by decide +kernel
theorem dX8_othersNow_30 : decode cX8_othersNow 30 = .ok (.invokevirtual 235, 3) := by decide +kernel
theorem dX8_othersNow_33 : decode cX8_othersNow 33 = .ok (.istore 6, 2) := by decide +kernel
theorem dX8_othersNow_35 : decode cX8_othersNow 35 = .ok (.iload 4, 2) := by decide +kernel
theorem dX8_othersNow_37 : decode cX8_othersNow 37 = .ok (.iload_n 3, 1) := by decide +kernel
theorem dX8_othersNow_38 : decode cX8_othersNow 38 = .ok (.ifCond .eq 17, 3) := by decide +kernel
theorem dX8_othersNow_41 : decode cX8_othersNow 41 = .ok (.iload 6, 2) := by decide +kernel
theorem dX8_othersNow_43 : decode cX8_othersNow 43 = .ok (.iconst 2, 1) := by decide +kernel
theorem dX8_othersNow_44 : decode cX8_othersNow 44 = .ok (.if_icmp .ne 7, 3) := by decide +kernel
theorem dX8_othersNow_47 : decode cX8_othersNow 47 = .ok (.iconst 1, 1) := by decide +kernel
theorem dX8_othersNow_48 : decode cX8_othersNow 48 = .ok (.goto 24, 3) := by decide +kernel
theorem dX8_othersNow_51 : decode cX8_othersNow 51 = .ok (.iconst 0, 1) := by decide +kernel
theorem dX8_othersNow_52 : decode cX8_othersNow 52 = .ok (.goto 20, 3) := by decide +kernel
theorem dX8_othersNow_55 : decode cX8_othersNow 55 = .ok (.iload 6, 2) := by decide +kernel
theorem dX8_othersNow_57 : decode cX8_othersNow 57 = .ok (.iconst 1, 1) := by decide +kernel
theorem dX8_othersNow_58 : decode cX8_othersNow 58 = .ok (.if_icmp .eq 9, 3) := by decide +kernel
theorem dX8_othersNow_61 : decode cX8_othersNow 61 = .ok (.iload 6, 2) := by decide +kernel
theorem dX8_othersNow_63 : decode cX8_othersNow 63 = .ok (.iconst 3, 1) := by decide +kernel
theorem dX8_othersNow_64 : decode cX8_othersNow 64 = .ok (.if_icmp .ne 7, 3) := by decide +kernel
theorem dX8_othersNow_67 : decode cX8_othersNow 67 = .ok (.iconst 1, 1) := by decide +kernel
theorem dX8_othersNow_68 : decode cX8_othersNow 68 = .ok (.goto 4, 3) := by decide +kernel
theorem dX8_othersNow_71 : decode cX8_othersNow 71 = .ok (.iconst 0, 1) := by decide +kernel
theorem dX8_othersNow_72 : decode cX8_othersNow 72 = .ok (.iadd, 1) := by decide +kernel
theorem dX8_othersNow_73 : decode cX8_othersNow 73 = .ok (.istore 4, 2) := by decide +kernel
theorem dX8_othersNow_75 : decode cX8_othersNow 75 = .ok (.iinc 5 1, 3) := by decide +kernel
theorem dX8_othersNow_78 : decode cX8_othersNow 78 = .ok (.goto (-72), 3) := by decide +kernel
theorem dX8_othersNow_81 : decode cX8_othersNow 81 = .ok (.iload 4, 2) := by decide +kernel
theorem dX8_othersNow_83 : decode cX8_othersNow 83 = .ok (.ireturn, 1) := by decide +kernel
theorem dX8_openOf_0 : decode cX8_openOf 0 = .ok (.aload_n 0, 1) := by decide +kernel
theorem dX8_openOf_1 : decode cX8_openOf 1 = .ok (.invokevirtual 213, 3) := by decide +kernel
theorem dX8_openOf_4 : decode cX8_openOf 4 = .ok (.aload_n 0, 1) := by decide +kernel
theorem dX8_openOf_5 : decode cX8_openOf 5 = .ok (.getfield 19, 3) := by decide +kernel
theorem dX8_openOf_8 : decode cX8_openOf 8 = .ok (.iload_n 1, 1) := by decide +kernel
theorem dX8_openOf_9 : decode cX8_openOf 9 = .ok (.iaload, 1) := by decide +kernel
theorem dX8_openOf_10 : decode cX8_openOf 10 = .ok (.istore 4, 2) := by decide +kernel
theorem dX8_openOf_12 : decode cX8_openOf 12 = .ok (.iconst (-1), 1) := by decide +kernel
theorem dX8_openOf_13 : decode cX8_openOf 13 = .ok (.istore 5, 2) := by decide +kernel
theorem dX8_openOf_15 : decode cX8_openOf 15 = .ok (.bipush 99, 2) := by decide +kernel
theorem dX8_openOf_17 : decode cX8_openOf 17 = .ok (.istore 6, 2) := by decide +kernel
theorem dX8_openOf_19 : decode cX8_openOf 19 = .ok (.iconst 0, 1) := by decide +kernel
theorem dX8_openOf_20 : decode cX8_openOf 20 = .ok (.istore 7, 2) := by decide +kernel
theorem dX8_openOf_22 : decode cX8_openOf 22 = .ok (.iload 7, 2) := by decide +kernel
theorem dX8_openOf_24 : decode cX8_openOf 24 = .ok (.bipush 10, 2) := by decide +kernel
theorem dX8_openOf_26 : decode cX8_openOf 26 = .ok (.if_icmp .ge 62, 3) := by decide +kernel
theorem dX8_openOf_29 : decode cX8_openOf 29 = .ok (.aload_n 0, 1) := by decide +kernel
theorem dX8_openOf_30 : decode cX8_openOf 30 = .ok (.getfield 19, 3) := by decide +kernel
theorem dX8_openOf_33 : decode cX8_openOf 33 = .ok (.iload_n 1, 1) := by decide +kernel
theorem dX8_openOf_34 : decode cX8_openOf 34 = .ok (.iload 7, 2) := by decide +kernel
theorem dX8_openOf_36 : decode cX8_openOf 36 = .ok (.iastore, 1) := by decide +kernel
theorem dX8_openOf_37 : decode cX8_openOf 37 = .ok (.aload_n 0, 1) := by decide +kernel
theorem dX8_openOf_38 : decode cX8_openOf 38 = .ok (.invokevirtual 216, 3) := by decide +kernel
theorem dX8_openOf_41 : decode cX8_openOf 41 = .ok (.aload_n 0, 1) := by decide +kernel
theorem dX8_openOf_42 : decode cX8_openOf 42 = .ok (.iload_n 1, 1) := by decide +kernel
theorem dX8_openOf_43 : decode cX8_openOf 43 = .ok (.iload_n 2, 1) := by decide +kernel
theorem dX8_openOf_44 : decode cX8_openOf 44 = .ok (.iconst 1, 1) := by decide +kernel
theorem dX8_openOf_45 : decode cX8_openOf 45 = .ok (.invokevirtual 265, 3) := by decide +kernel
theorem dX8_openOf_48 : decode cX8_openOf 48 = .ok (.istore 8, 2) := by decide +kernel
theorem dX8_openOf_50 : decode cX8_openOf 50 = .ok (.iload 8, 2) := by decide +kernel
theorem dX8_openOf_52 : decode cX8_openOf 52 = .ok (.iload 6, 2) := by decide +kernel
theorem dX8_openOf_54 : decode cX8_openOf 54 = .ok (.if_icmp .ge 8, 3) := by decide +kernel
theorem dX8_openOf_57 : decode cX8_openOf 57 = .ok (.iload 7, 2) := by decide +kernel
theorem dX8_openOf_59 : decode cX8_openOf 59 = .ok (.goto 5, 3) := by decide +kernel
theorem dX8_openOf_62 : decode cX8_openOf 62 = .ok (.iload 5, 2) := by decide +kernel
theorem dX8_openOf_64 : decode cX8_openOf 64 = .ok (.istore 5, 2) := by decide +kernel
theorem dX8_openOf_66 : decode cX8_openOf 66 = .ok (.iload 8, 2) := by decide +kernel
theorem dX8_openOf_68 : decode cX8_openOf 68 = .ok (.iload 6, 2) := by decide +kernel
theorem dX8_openOf_70 : decode cX8_openOf 70 = .ok (.if_icmp .ge 8, 3) := by decide +kernel
theorem dX8_openOf_73 : decode cX8_openOf 73 = .ok (.iload 8, 2) := by decide +kernel
theorem dX8_openOf_75 : decode cX8_openOf 75 = .ok (.goto 5, 3) := by decide +kernel
theorem dX8_openOf_78 : decode cX8_openOf 78 = .ok (.iload 6, 2) := by decide +kernel
theorem dX8_openOf_80 : decode cX8_openOf 80 = .ok (.istore 6, 2) := by decide +kernel
theorem dX8_openOf_82 : decode cX8_openOf 82 = .ok (.iinc 7 1, 3) := by decide +kernel
theorem dX8_openOf_85 : decode cX8_openOf 85 = .ok (.goto (-63), 3) := by decide +kernel
theorem dX8_openOf_88 : decode cX8_openOf 88 = .ok (.aload_n 0, 1) := by decide +kernel
theorem dX8_openOf_89 : decode cX8_openOf 89 = .ok (.getfield 19, 3) := by decide +kernel
theorem dX8_openOf_92 : decode cX8_openOf 92 = .ok (.iload_n 1, 1) := by decide +kernel
theorem dX8_openOf_93 : decode cX8_openOf 93 = .ok (.iload 4, 2) := by decide +kernel
theorem dX8_openOf_95 : decode cX8_openOf 95 = .ok (.iastore, 1) := by decide +kernel
theorem dX8_openOf_96 : decode cX8_openOf 96 = .ok (.iload_n 3, 1) := by decide +kernel
theorem dX8_openOf_97 : decode cX8_openOf 97 = .ok (.ifCond .ne 8, 3) := by decide +kernel
theorem dX8_openOf_100 : decode cX8_openOf 100 = .ok (.iload 5, 2) := by decide +kernel
theorem dX8_openOf_102 : decode cX8_openOf 102 = .ok (.goto 5, 3) := by decide +kernel
theorem dX8_openOf_105 : decode cX8_openOf 105 = .ok (.iload 6, 2) := by decide +kernel
theorem dX8_openOf_107 : decode cX8_openOf 107 = .ok (.ireturn, 1) := by decide +kernel
theorem dX8_open_0 : decode cX8_open 0 = .ok (.aload_n 0, 1) := by decide +kernel
theorem dX8_open_1 : decode cX8_open 1 = .ok (.iload_n 1, 1) := by decide +kernel
theorem dX8_open_2 : decode cX8_open 2 = .ok (.invokevirtual 153, 3) := by decide +kernel
theorem dX8_open_5 : decode cX8_open 5 = .ok (.ifCond .eq 29, 3) := by decide +kernel
theorem dX8_open_8 : decode cX8_open 8 = .ok (.iload_n 2, 1) := by decide +kernel
theorem dX8_open_9 : decode cX8_open 9 = .ok (.invokestatic 160, 3) := by decide +kernel
theorem dX8_open_12 : decode cX8_open 12 = .ok (.ifCond .eq 22, 3) := by decide +kernel
theorem dX8_open_15 : decode cX8_open 15 = .ok (.iload_n 3, 1) := by decide +kernel
theorem dX8_open_16 : decode cX8_open 16 = .ok (.iconst 0, 1) := by decide +kernel
theorem dX8_open_17 : decode cX8_open 17 = .ok (.iconst 1, 1) := by decide +kernel
theorem dX8_open_18 : decode cX8_open 18 = .ok (.invokestatic 124, 3) := by decide +kernel
theorem dX8_open_21 : decode cX8_open 21 = .ok (.ifCond .eq 13, 3) := by decide +kernel
theorem dX8_open_24 : decode cX8_open 24 = .ok (.aload_n 0, 1) := by decide +kernel
theorem dX8_open_25 : decode cX8_open 25 = .ok (.iload_n 1, 1) := by decide +kernel
theorem dX8_open_26 : decode cX8_open 26 = .ok (.iload_n 2, 1) := by decide +kernel
theorem dX8_open_27 : decode cX8_open 27 = .ok (.iload_n 3, 1) := by decide +kernel
theorem dX8_open_28 : decode cX8_open 28 = .ok (.invokevirtual 269, 3) := by decide +kernel
theorem dX8_open_31 : decode cX8_open 31 = .ok (.goto 5, 3) := by decide +kernel
theorem dX8_open_34 : decode cX8_open 34 = .ok (.bipush (-2), 2) := by decide +kernel
theorem dX8_open_36 : decode cX8_open 36 = .ok (.ireturn, 1) := by decide +kernel
theorem dX8_standOf_0 : decode cX8_standOf 0 = .ok (.aload_n 0, 1) := by decide +kernel
theorem dX8_standOf_1 : decode cX8_standOf 1 = .ok (.invokevirtual 213, 3) := by decide +kernel
theorem dX8_standOf_4 : decode cX8_standOf 4 = .ok (.aload_n 0, 1) := by decide +kernel
theorem dX8_standOf_5 : decode cX8_standOf 5 = .ok (.getfield 13, 3) := by decide +kernel
theorem dX8_standOf_8 : decode cX8_standOf 8 = .ok (.iload_n 1, 1) := by decide +kernel
theorem dX8_standOf_9 : decode cX8_standOf 9 = .ok (.iaload, 1) := by decide +kernel
theorem dX8_standOf_10 : decode cX8_standOf 10 = .ok (.istore 4, 2) := by decide +kernel
theorem dX8_standOf_12 : decode cX8_standOf 12 = .ok (.aload_n 0, 1) := by decide +kernel
theorem dX8_standOf_13 : decode cX8_standOf 13 = .ok (.getfield 16, 3) := by decide +kernel
theorem dX8_standOf_16 : decode cX8_standOf 16 = .ok (.iload_n 1, 1) := by decide +kernel
theorem dX8_standOf_17 : decode cX8_standOf 17 = .ok (.iaload, 1) := by decide +kernel
theorem dX8_standOf_18 : decode cX8_standOf 18 = .ok (.istore 5, 2) := by decide +kernel
theorem dX8_standOf_20 : decode cX8_standOf 20 = .ok (.iconst (-1), 1) := by decide +kernel
theorem dX8_standOf_21 : decode cX8_standOf 21 = .ok (.istore 6, 2) := by decide +kernel
theorem dX8_standOf_23 : decode cX8_standOf 23 = .ok (.iconst (-1), 1) := by decide +kernel
theorem dX8_standOf_24 : decode cX8_standOf 24 = .ok (.istore 7, 2) := by decide +kernel
theorem dX8_standOf_26 : decode cX8_standOf 26 = .ok (.iconst 0, 1) := by decide +kernel
theorem dX8_standOf_27 : decode cX8_standOf 27 = .ok (.istore 8, 2) := by decide +kernel
theorem dX8_standOf_29 : decode cX8_standOf 29 = .ok (.iload 8, 2) := by decide +kernel
theorem dX8_standOf_31 : decode cX8_standOf 31 = .ok (.bipush 100, 2) := by decide +kernel
theorem dX8_standOf_33 : decode cX8_standOf 33 = .ok (.if_icmp .ge 76, 3) := by decide +kernel
theorem dX8_standOf_36 : decode cX8_standOf 36 = .ok (.aload_n 0, 1) := by decide +kernel
theorem dX8_standOf_37 : decode cX8_standOf 37 = .ok (.getfield 13, 3) := by decide +kernel
theorem dX8_standOf_40 : decode cX8_standOf 40 = .ok (.iload_n 1, 1) := by decide +kernel
theorem dX8_standOf_41 : decode cX8_standOf 41 = .ok (.iload 8, 2) := by decide +kernel
theorem dX8_standOf_43 : decode cX8_standOf 43 = .ok (.bipush 10, 2) := by decide +kernel
theorem dX8_standOf_45 : decode cX8_standOf 45 = .ok (.idiv, 1) := by decide +kernel
theorem dX8_standOf_46 : decode cX8_standOf 46 = .ok (.iastore, 1) := by decide +kernel
theorem dX8_standOf_47 : decode cX8_standOf 47 = .ok (.aload_n 0, 1) := by decide +kernel
theorem dX8_standOf_48 : decode cX8_standOf 48 = .ok (.getfield 16, 3) := by decide +kernel
theorem dX8_standOf_51 : decode cX8_standOf 51 = .ok (.iload_n 1, 1) := by decide +kernel
theorem dX8_standOf_52 : decode cX8_standOf 52 = .ok (.iload 8, 2) := by decide +kernel
theorem dX8_standOf_54 : decode cX8_standOf 54 = .ok (.bipush 10, 2) := by decide +kernel
theorem dX8_standOf_56 : decode cX8_standOf 56 = .ok (.irem, 1) := by decide +kernel
theorem dX8_standOf_57 : decode cX8_standOf 57 = .ok (.iastore, 1) := by decide +kernel
theorem dX8_standOf_58 : decode cX8_standOf 58 = .ok (.aload_n 0, 1) := by decide +kernel
theorem dX8_standOf_59 : decode cX8_standOf 59 = .ok (.invokevirtual 216, 3) := by decide +kernel
theorem dX8_standOf_62 : decode cX8_standOf 62 = .ok (.aload_n 0, 1) := by decide +kernel
theorem dX8_standOf_63 : decode cX8_standOf 63 = .ok (.iload_n 1, 1) := by decide +kernel
theorem dX8_standOf_64 : decode cX8_standOf 64 = .ok (.iload_n 2, 1) := by decide +kernel
theorem dX8_standOf_65 : decode cX8_standOf 65 = .ok (.iconst 0, 1) := by decide +kernel
theorem dX8_standOf_66 : decode cX8_standOf 66 = .ok (.invokevirtual 265, 3) := by decide +kernel
theorem dX8_standOf_69 : decode cX8_standOf 69 = .ok (.istore 9, 2) := by decide +kernel
theorem dX8_standOf_71 : decode cX8_standOf 71 = .ok (.iload 9, 2) := by decide +kernel
theorem dX8_standOf_73 : decode cX8_standOf 73 = .ok (.iload 7, 2) := by decide +kernel
theorem dX8_standOf_75 : decode cX8_standOf 75 = .ok (.if_icmp .le 8, 3) := by decide +kernel
theorem dX8_standOf_78 : decode cX8_standOf 78 = .ok (.iload 8, 2) := by decide +kernel
theorem dX8_standOf_80 : decode cX8_standOf 80 = .ok (.goto 5, 3) := by decide +kernel
theorem dX8_standOf_83 : decode cX8_standOf 83 = .ok (.iload 6, 2) := by decide +kernel
theorem dX8_standOf_85 : decode cX8_standOf 85 = .ok (.istore 6, 2) := by decide +kernel
theorem dX8_standOf_87 : decode cX8_standOf 87 = .ok (.iload 9, 2) := by decide +kernel
theorem dX8_standOf_89 : decode cX8_standOf 89 = .ok (.iload 7, 2) := by decide +kernel
theorem dX8_standOf_91 : decode cX8_standOf 91 = .ok (.if_icmp .le 8, 3) := by decide +kernel
theorem dX8_standOf_94 : decode cX8_standOf 94 = .ok (.iload 9, 2) := by decide +kernel
theorem dX8_standOf_96 : decode cX8_standOf 96 = .ok (.goto 5, 3) := by decide +kernel
theorem dX8_standOf_99 : decode cX8_standOf 99 = .ok (.iload 7, 2) := by decide +kernel
theorem dX8_standOf_101 : decode cX8_standOf 101 = .ok (.istore 7, 2) := by decide +kernel
theorem dX8_standOf_103 : decode cX8_standOf 103 = .ok (.iinc 8 1, 3) := by decide +kernel
theorem dX8_standOf_106 : decode cX8_standOf 106 = .ok (.goto (-77), 3) := by decide +kernel
theorem dX8_standOf_109 : decode cX8_standOf 109 = .ok (.aload_n 0, 1) := by decide +kernel
theorem dX8_standOf_110 : decode cX8_standOf 110 = .ok (.getfield 13, 3) := by decide +kernel
theorem dX8_standOf_113 : decode cX8_standOf 113 = .ok (.iload_n 1, 1) := by decide +kernel
theorem dX8_standOf_114 : decode cX8_standOf 114 = .ok (.iload 4, 2) := by decide +kernel
theorem dX8_standOf_116 : decode cX8_standOf 116 = .ok (.iastore, 1) := by decide +kernel
theorem dX8_standOf_117 : decode cX8_standOf 117 = .ok (.aload_n 0, 1) := by decide +kernel
theorem dX8_standOf_118 : decode cX8_standOf 118 = .ok (.getfield 16, 3) := by decide +kernel
theorem dX8_standOf_121 : decode cX8_standOf 121 = .ok (.iload_n 1, 1) := by decide +kernel
theorem dX8_standOf_122 : decode cX8_standOf 122 = .ok (.iload 5, 2) := by decide +kernel
theorem dX8_standOf_124 : decode cX8_standOf 124 = .ok (.iastore, 1) := by decide +kernel
theorem dX8_standOf_125 : decode cX8_standOf 125 = .ok (.iload_n 3, 1) := by decide +kernel
theorem dX8_standOf_126 : decode cX8_standOf 126 = .ok (.ifCond .ne 11, 3) := by decide +kernel
theorem dX8_standOf_129 : decode cX8_standOf 129 = .ok (.iload 6, 2) := by decide +kernel
theorem dX8_standOf_131 : decode cX8_standOf 131 = .ok (.bipush 10, 2) := by decide +kernel
theorem dX8_standOf_133 : decode cX8_standOf 133 = .ok (.idiv, 1) := by decide +kernel
theorem dX8_standOf_134 : decode cX8_standOf 134 = .ok (.goto 18, 3) := by decide +kernel
theorem dX8_standOf_137 : decode cX8_standOf 137 = .ok (.iload_n 3, 1) := by decide +kernel
theorem dX8_standOf_138 : decode cX8_standOf 138 = .ok (.iconst 1, 1) := by decide +kernel
theorem dX8_standOf_139 : decode cX8_standOf 139 = .ok (.if_icmp .ne 11, 3) := by decide +kernel
theorem dX8_standOf_142 : decode cX8_standOf 142 = .ok (.iload 6, 2) := by decide +kernel
theorem dX8_standOf_144 : decode cX8_standOf 144 = .ok (.bipush 10, 2) := by decide +kernel
theorem dX8_standOf_146 : decode cX8_standOf 146 = .ok (.irem, 1) := by decide +kernel
theorem dX8_standOf_147 : decode cX8_standOf 147 = .ok (.goto 5, 3) := by decide +kernel
theorem dX8_standOf_150 : decode cX8_standOf 150 = .ok (.iload 7, 2) := by decide +kernel
theorem dX8_standOf_152 : decode cX8_standOf 152 = .ok (.ireturn, 1) := by decide +kernel
theorem dX8_stand_0 : decode cX8_stand 0 = .ok (.aload_n 0, 1) := by decide +kernel
theorem dX8_stand_1 : decode cX8_stand 1 = .ok (.iload_n 1, 1) := by decide +kernel
theorem dX8_stand_2 : decode cX8_stand 2 = .ok (.invokevirtual 153, 3) := by decide +kernel
theorem dX8_stand_5 : decode cX8_stand 5 = .ok (.ifCond .eq 29, 3) := by decide +kernel
theorem dX8_stand_8 : decode cX8_stand 8 = .ok (.iload_n 2, 1) := by decide +kernel
theorem dX8_stand_9 : decode cX8_stand 9 = .ok (.invokestatic 160, 3) := by decide +kernel
theorem dX8_stand_12 : decode cX8_stand 12 = .ok (.ifCond .eq 22, 3) := by decide +kernel
theorem dX8_stand_15 : decode cX8_stand 15 = .ok (.iload_n 3, 1) := by decide +kernel
theorem dX8_stand_16 : decode cX8_stand 16 = .ok (.iconst 0, 1) := by decide +kernel
theorem dX8_stand_17 : decode cX8_stand 17 = .ok (.iconst 2, 1) := by decide +kernel
theorem dX8_stand_18 : decode cX8_stand 18 = .ok (.invokestatic 124, 3) := by decide +kernel
theorem dX8_stand_21 : decode cX8_stand 21 = .ok (.ifCond .eq 13, 3) := by decide +kernel
theorem dX8_stand_24 : decode cX8_stand 24 = .ok (.aload_n 0, 1) := by decide +kernel
theorem dX8_stand_25 : decode cX8_stand 25 = .ok (.iload_n 1, 1) := by decide +kernel
theorem dX8_stand_26 : decode cX8_stand 26 = .ok (.iload_n 2, 1) := by decide +kernel
theorem dX8_stand_27 : decode cX8_stand 27 = .ok (.iload_n 3, 1) := by decide +kernel
theorem dX8_stand_28 : decode cX8_stand 28 = .ok (.invokevirtual 272, 3) := by decide +kernel
theorem dX8_stand_31 : decode cX8_stand 31 = .ok (.goto 5, 3) := by decide +kernel
theorem dX8_stand_34 : decode cX8_stand 34 = .ok (.bipush (-2), 2) := by decide +kernel
theorem dX8_stand_36 : decode cX8_stand 36 = .ok (.ireturn, 1) := by decide +kernel
theorem dX8_swaps_0 : decode cX8_swaps 0 = .ok (.aload_n 0, 1) := by decide +kernel
theorem dX8_swaps_1 : decode cX8_swaps 1 = .ok (.getfield 19, 3) := by decide +kernel
theorem dX8_swaps_4 : decode cX8_swaps 4 = .ok (.iload_n 1, 1) := by decide +kernel
theorem dX8_swaps_5 : decode cX8_swaps 5 = .ok (.iaload, 1) := by decide +kernel
theorem dX8_swaps_6 : decode cX8_swaps 6 = .ok (.istore_n 3, 1) := by decide +kernel
theorem dX8_swaps_7 : decode cX8_swaps 7 = .ok (.aload_n 0, 1) := by decide +kernel
theorem dX8_swaps_8 : decode cX8_swaps 8 = .ok (.getfield 19, 3) := by decide +kernel
theorem dX8_swaps_11 : decode cX8_swaps 11 = .ok (.iload_n 1, 1) := by decide +kernel
theorem dX8_swaps_12 : decode cX8_swaps 12 = .ok (.aload_n 0, 1) := by decide +kernel
theorem dX8_swaps_13 : decode cX8_swaps 13 = .ok (.getfield 19, 3) := by decide +kernel
theorem dX8_swaps_16 : decode cX8_swaps 16 = .ok (.iload_n 2, 1) := by decide +kernel
theorem dX8_swaps_17 : decode cX8_swaps 17 = .ok (.iaload, 1) := by decide +kernel
theorem dX8_swaps_18 : decode cX8_swaps 18 = .ok (.iastore, 1) := by decide +kernel
theorem dX8_swaps_19 : decode cX8_swaps 19 = .ok (.aload_n 0, 1) := by decide +kernel
theorem dX8_swaps_20 : decode cX8_swaps 20 = .ok (.getfield 19, 3) := by decide +kernel
theorem dX8_swaps_23 : decode cX8_swaps 23 = .ok (.iload_n 2, 1) := by decide +kernel
theorem dX8_swaps_24 : decode cX8_swaps 24 = .ok (.iload_n 3, 1) := by decide +kernel
theorem dX8_swaps_25 : decode cX8_swaps 25 = .ok (.iastore, 1) := by decide +kernel
theorem dX8_swaps_26 : decode cX8_swaps 26 = .ok (.return_, 1) := by decide +kernel
theorem dX8_swapOf_0 : decode cX8_swapOf 0 = .ok (.aload_n 0, 1) := by decide +kernel
theorem dX8_swapOf_1 : decode cX8_swapOf 1 = .ok (.invokevirtual 213, 3) := by decide +kernel
theorem dX8_swapOf_4 : decode cX8_swapOf 4 = .ok (.iconst (-1), 1) := by decide +kernel
theorem dX8_swapOf_5 : decode cX8_swapOf 5 = .ok (.istore_n 2, 1) := by decide +kernel
theorem dX8_swapOf_6 : decode cX8_swapOf 6 = .ok (.bipush 99, 2) := by decide +kernel
theorem dX8_swapOf_8 : decode cX8_swapOf 8 = .ok (.istore_n 3, 1) := by decide +kernel
theorem dX8_swapOf_9 : decode cX8_swapOf 9 = .ok (.iconst 0, 1) := by decide +kernel
theorem dX8_swapOf_10 : decode cX8_swapOf 10 = .ok (.istore 4, 2) := by decide +kernel
theorem dX8_swapOf_12 : decode cX8_swapOf 12 = .ok (.iload 4, 2) := by decide +kernel
theorem dX8_swapOf_14 : decode cX8_swapOf 14 = .ok (.aload_n 0, 1) := by decide +kernel
theorem dX8_swapOf_15 : decode cX8_swapOf 15 = .ok (.getfield 139, 3) := by decide +kernel
theorem dX8_swapOf_18 : decode cX8_swapOf 18 = .ok (.if_icmp .ge 91, 3) := by decide +kernel
theorem dX8_swapOf_21 : decode cX8_swapOf 21 = .ok (.iload 4, 2) := by decide +kernel
theorem dX8_swapOf_23 : decode cX8_swapOf 23 = .ok (.iconst 1, 1) := by decide +kernel
theorem dX8_swapOf_24 : decode cX8_swapOf 24 = .ok (.iadd, 1) := by decide +kernel
theorem dX8_swapOf_25 : decode cX8_swapOf 25 = .ok (.istore 5, 2) := by decide +kernel
theorem dX8_swapOf_27 : decode cX8_swapOf 27 = .ok (.iload 5, 2) := by decide +kernel
theorem dX8_swapOf_29 : decode cX8_swapOf 29 = .ok (.aload_n 0, 1) := by decide +kernel
theorem dX8_swapOf_30 : decode cX8_swapOf 30 = .ok (.getfield 139, 3) := by decide +kernel
theorem dX8_swapOf_33 : decode cX8_swapOf 33 = .ok (.if_icmp .ge 70, 3) := by decide +kernel
theorem dX8_swapOf_36 : decode cX8_swapOf 36 = .ok (.aload_n 0, 1) := by decide +kernel
theorem dX8_swapOf_37 : decode cX8_swapOf 37 = .ok (.iload 4, 2) := by decide +kernel
theorem dX8_swapOf_39 : decode cX8_swapOf 39 = .ok (.iload 5, 2) := by decide +kernel
theorem dX8_swapOf_41 : decode cX8_swapOf 41 = .ok (.invokevirtual 275, 3) := by decide +kernel
theorem dX8_swapOf_44 : decode cX8_swapOf 44 = .ok (.aload_n 0, 1) := by decide +kernel
theorem dX8_swapOf_45 : decode cX8_swapOf 45 = .ok (.invokevirtual 216, 3) := by decide +kernel
theorem dX8_swapOf_48 : decode cX8_swapOf 48 = .ok (.aload_n 0, 1) := by decide +kernel
theorem dX8_swapOf_49 : decode cX8_swapOf 49 = .ok (.iload 4, 2) := by decide +kernel
theorem dX8_swapOf_51 : decode cX8_swapOf 51 = .ok (.iload 5, 2) := by decide +kernel
theorem dX8_swapOf_53 : decode cX8_swapOf 53 = .ok (.invokevirtual 275, 3) := by decide +kernel
theorem dX8_swapOf_56 : decode cX8_swapOf 56 = .ok (.aload_n 0, 1) := by decide +kernel
theorem dX8_swapOf_57 : decode cX8_swapOf 57 = .ok (.bipush 19, 2) := by decide +kernel
theorem dX8_swapOf_59 : decode cX8_swapOf 59 = .ok (.iconst 0, 1) := by decide +kernel
theorem dX8_swapOf_60 : decode cX8_swapOf 60 = .ok (.invokevirtual 241, 3) := by decide +kernel
theorem dX8_swapOf_63 : decode cX8_swapOf 63 = .ok (.istore 6, 2) := by decide +kernel
theorem dX8_swapOf_65 : decode cX8_swapOf 65 = .ok (.iload 6, 2) := by decide +kernel
theorem dX8_swapOf_67 : decode cX8_swapOf 67 = .ok (.iload_n 3, 1) := by decide +kernel
theorem dX8_swapOf_68 : decode cX8_swapOf 68 = .ok (.if_icmp .ge 14, 3) := by decide +kernel
theorem dX8_swapOf_71 : decode cX8_swapOf 71 = .ok (.bipush 8, 2) := by decide +kernel
theorem dX8_swapOf_73 : decode cX8_swapOf 73 = .ok (.iload 4, 2) := by decide +kernel
theorem dX8_swapOf_75 : decode cX8_swapOf 75 = .ok (.imul, 1) := by decide +kernel
theorem dX8_swapOf_76 : decode cX8_swapOf 76 = .ok (.iload 5, 2) := by decide +kernel
theorem dX8_swapOf_78 : decode cX8_swapOf 78 = .ok (.iadd, 1) := by decide +kernel
theorem dX8_swapOf_79 : decode cX8_swapOf 79 = .ok (.goto 4, 3) := by decide +kernel
theorem dX8_swapOf_82 : decode cX8_swapOf 82 = .ok (.iload_n 2, 1) := by decide +kernel
theorem dX8_swapOf_83 : decode cX8_swapOf 83 = .ok (.istore_n 2, 1) := by decide +kernel
theorem dX8_swapOf_84 : decode cX8_swapOf 84 = .ok (.iload 6, 2) := by decide +kernel
theorem dX8_swapOf_86 : decode cX8_swapOf 86 = .ok (.iload_n 3, 1) := by decide +kernel
theorem dX8_swapOf_87 : decode cX8_swapOf 87 = .ok (.if_icmp .ge 8, 3) := by decide +kernel
theorem dX8_swapOf_90 : decode cX8_swapOf 90 = .ok (.iload 6, 2) := by decide +kernel
theorem dX8_swapOf_92 : decode cX8_swapOf 92 = .ok (.goto 4, 3) := by decide +kernel
theorem dX8_swapOf_95 : decode cX8_swapOf 95 = .ok (.iload_n 3, 1) := by decide +kernel
theorem dX8_swapOf_96 : decode cX8_swapOf 96 = .ok (.istore_n 3, 1) := by decide +kernel
theorem dX8_swapOf_97 : decode cX8_swapOf 97 = .ok (.iinc 5 1, 3) := by decide +kernel
theorem dX8_swapOf_100 : decode cX8_swapOf 100 = .ok (.goto (-73), 3) := by decide +kernel
theorem dX8_swapOf_103 : decode cX8_swapOf 103 = .ok (.iinc 4 1, 3) := by decide +kernel
theorem dX8_swapOf_106 : decode cX8_swapOf 106 = .ok (.goto (-94), 3) := by decide +kernel
theorem dX8_swapOf_109 : decode cX8_swapOf 109 = .ok (.iload_n 2, 1) := by decide +kernel
theorem dX8_swapOf_110 : decode cX8_swapOf 110 = .ok (.iconst (-1), 1) := by decide +kernel
theorem dX8_swapOf_111 : decode cX8_swapOf 111 = .ok (.if_icmp .ne 7, 3) := by decide +kernel
theorem dX8_swapOf_114 : decode cX8_swapOf 114 = .ok (.iconst (-1), 1) := by decide +kernel
theorem dX8_swapOf_115 : decode cX8_swapOf 115 = .ok (.goto 27, 3) := by decide +kernel
theorem dX8_swapOf_118 : decode cX8_swapOf 118 = .ok (.iload_n 1, 1) := by decide +kernel
theorem dX8_swapOf_119 : decode cX8_swapOf 119 = .ok (.ifCond .ne 10, 3) := by decide +kernel
theorem dX8_swapOf_122 : decode cX8_swapOf 122 = .ok (.iload_n 2, 1) := by decide +kernel
theorem dX8_swapOf_123 : decode cX8_swapOf 123 = .ok (.bipush 8, 2) := by decide +kernel
theorem dX8_swapOf_125 : decode cX8_swapOf 125 = .ok (.idiv, 1) := by decide +kernel
theorem dX8_swapOf_126 : decode cX8_swapOf 126 = .ok (.goto 16, 3) := by decide +kernel
theorem dX8_swapOf_129 : decode cX8_swapOf 129 = .ok (.iload_n 1, 1) := by decide +kernel
theorem dX8_swapOf_130 : decode cX8_swapOf 130 = .ok (.iconst 1, 1) := by decide +kernel
theorem dX8_swapOf_131 : decode cX8_swapOf 131 = .ok (.if_icmp .ne 10, 3) := by decide +kernel
theorem dX8_swapOf_134 : decode cX8_swapOf 134 = .ok (.iload_n 2, 1) := by decide +kernel
theorem dX8_swapOf_135 : decode cX8_swapOf 135 = .ok (.bipush 8, 2) := by decide +kernel
theorem dX8_swapOf_137 : decode cX8_swapOf 137 = .ok (.irem, 1) := by decide +kernel
theorem dX8_swapOf_138 : decode cX8_swapOf 138 = .ok (.goto 4, 3) := by decide +kernel
theorem dX8_swapOf_141 : decode cX8_swapOf 141 = .ok (.iload_n 3, 1) := by decide +kernel
theorem dX8_swapOf_142 : decode cX8_swapOf 142 = .ok (.ireturn, 1) := by decide +kernel
theorem dX8_swap_0 : decode cX8_swap 0 = .ok (.iload_n 1, 1) := by decide +kernel
theorem dX8_swap_1 : decode cX8_swap 1 = .ok (.iconst 0, 1) := by decide +kernel
theorem dX8_swap_2 : decode cX8_swap 2 = .ok (.iconst 2, 1) := by decide +kernel
theorem dX8_swap_3 : decode cX8_swap 3 = .ok (.invokestatic 124, 3) := by decide +kernel
theorem dX8_swap_6 : decode cX8_swap 6 = .ok (.ifCond .eq 11, 3) := by decide +kernel
theorem dX8_swap_9 : decode cX8_swap 9 = .ok (.aload_n 0, 1) := by decide +kernel
theorem dX8_swap_10 : decode cX8_swap 10 = .ok (.iload_n 1, 1) := by decide +kernel
theorem dX8_swap_11 : decode cX8_swap 11 = .ok (.invokevirtual 278, 3) := by decide +kernel
theorem dX8_swap_14 : decode cX8_swap 14 = .ok (.goto 5, 3) := by decide +kernel
theorem dX8_swap_17 : decode cX8_swap 17 = .ok (.bipush (-2), 2) := by decide +kernel
theorem dX8_swap_19 : decode cX8_swap 19 = .ok (.ireturn, 1) := by decide +kernel
theorem dX8_isQuiet_0 : decode cX8_isQuiet 0 = .ok (.aload_n 0, 1) := by decide +kernel
theorem dX8_isQuiet_1 : decode cX8_isQuiet 1 = .ok (.iload_n 1, 1) := by decide +kernel
theorem dX8_isQuiet_2 : decode cX8_isQuiet 2 = .ok (.putfield 182, 3) := by decide +kernel
theorem dX8_isQuiet_5 : decode cX8_isQuiet 5 = .ok (.aload_n 0, 1) := by decide +kernel
theorem dX8_isQuiet_6 : decode cX8_isQuiet 6 = .ok (.invokevirtual 216, 3) := by decide +kernel
theorem dX8_isQuiet_9 : decode cX8_isQuiet 9 = .ok (.aload_n 0, 1) := by decide +kernel
theorem dX8_isQuiet_10 : decode cX8_isQuiet 10 = .ok (.bipush 19, 2) := by decide +kernel
theorem dX8_isQuiet_12 : decode cX8_isQuiet 12 = .ok (.iconst 0, 1) := by decide +kernel
theorem dX8_isQuiet_13 : decode cX8_isQuiet 13 = .ok (.invokevirtual 241, 3) := by decide +kernel
theorem dX8_isQuiet_16 : decode cX8_isQuiet 16 = .ok (.ifCond .ne 7, 3) := by decide +kernel
theorem dX8_isQuiet_19 : decode cX8_isQuiet 19 = .ok (.iconst 1, 1) := by decide +kernel
theorem dX8_isQuiet_20 : decode cX8_isQuiet 20 = .ok (.goto 4, 3) := by decide +kernel
theorem dX8_isQuiet_23 : decode cX8_isQuiet 23 = .ok (.iconst 0, 1) := by decide +kernel
theorem dX8_isQuiet_24 : decode cX8_isQuiet 24 = .ok (.ireturn, 1) := by decide +kernel
theorem dX8_dropBy_0 : decode cX8_dropBy 0 = .ok (.aload_n 0, 1) := by decide +kernel
theorem dX8_dropBy_1 : decode cX8_dropBy 1 = .ok (.invokevirtual 213, 3) := by decide +kernel
theorem dX8_dropBy_4 : decode cX8_dropBy 4 = .ok (.aload_n 0, 1) := by decide +kernel
theorem dX8_dropBy_5 : decode cX8_dropBy 5 = .ok (.iconst 0, 1) := by decide +kernel
theorem dX8_dropBy_6 : decode cX8_dropBy 6 = .ok (.invokevirtual 281, 3) := by decide +kernel
theorem dX8_dropBy_9 : decode cX8_dropBy 9 = .ok (.ifCond .eq 5, 3) := by decide +kernel
theorem dX8_dropBy_12 : decode cX8_dropBy 12 = .ok (.iconst 0, 1) := by decide +kernel
theorem dX8_dropBy_13 : decode cX8_dropBy 13 = .ok (.ireturn, 1) := by decide +kernel
theorem dX8_dropBy_14 : decode cX8_dropBy 14 = .ok (.iconst 0, 1) := by decide +kernel
theorem dX8_dropBy_15 : decode cX8_dropBy 15 = .ok (.istore_n 1, 1) := by decide +kernel
theorem dX8_dropBy_16 : decode cX8_dropBy 16 = .ok (.iload_n 1, 1) := by decide +kernel
theorem dX8_dropBy_17 : decode cX8_dropBy 17 = .ok (.aload_n 0, 1) := by decide +kernel
theorem dX8_dropBy_18 : decode cX8_dropBy 18 = .ok (.getfield 166, 3) := by decide +kernel
theorem dX8_dropBy_21 : decode cX8_dropBy 21 = .ok (.if_icmp .ge 28, 3) := by decide +kernel
theorem dX8_dropBy_24 : decode cX8_dropBy 24 = .ok (.aload_n 0, 1) := by decide +kernel
theorem dX8_dropBy_25 : decode cX8_dropBy 25 = .ok (.getfield 88, 3) := by decide +kernel
theorem dX8_dropBy_28 : decode cX8_dropBy 28 = .ok (.iconst 0, 1) := by decide +kernel
theorem dX8_dropBy_29 : decode cX8_dropBy 29 = .ok (.iload_n 1, 1) := by decide +kernel
theorem dX8_dropBy_30 : decode cX8_dropBy 30 = .ok (.iastore, 1) := by decide +kernel
theorem dX8_dropBy_31 : decode cX8_dropBy 31 = .ok (.aload_n 0, 1) := by decide +kernel
theorem dX8_dropBy_32 : decode cX8_dropBy 32 = .ok (.iconst 1, 1) := by decide +kernel
theorem dX8_dropBy_33 : decode cX8_dropBy 33 = .ok (.iload_n 1, 1) := by decide +kernel
theorem dX8_dropBy_34 : decode cX8_dropBy 34 = .ok (.ishl, 1) := by decide +kernel
theorem dX8_dropBy_35 : decode cX8_dropBy 35 = .ok (.invokevirtual 281, 3) := by decide +kernel
theorem dX8_dropBy_38 : decode cX8_dropBy 38 = .ok (.ifCond .eq 5, 3) := by decide +kernel
theorem dX8_dropBy_41 : decode cX8_dropBy 41 = .ok (.iconst 1, 1) := by decide +kernel
theorem dX8_dropBy_42 : decode cX8_dropBy 42 = .ok (.ireturn, 1) := by decide +kernel
theorem dX8_dropBy_43 : decode cX8_dropBy 43 = .ok (.iinc 1 1, 3) := by decide +kernel
theorem dX8_dropBy_46 : decode cX8_dropBy 46 = .ok (.goto (-30), 3) := by decide +kernel
theorem dX8_dropBy_49 : decode cX8_dropBy 49 = .ok (.iconst 0, 1) := by decide +kernel
theorem dX8_dropBy_50 : decode cX8_dropBy 50 = .ok (.istore_n 1, 1) := by decide +kernel
theorem dX8_dropBy_51 : decode cX8_dropBy 51 = .ok (.iload_n 1, 1) := by decide +kernel
theorem dX8_dropBy_52 : decode cX8_dropBy 52 = .ok (.aload_n 0, 1) := by decide +kernel
theorem dX8_dropBy_53 : decode cX8_dropBy 53 = .ok (.getfield 166, 3) := by decide +kernel
theorem dX8_dropBy_56 : decode cX8_dropBy 56 = .ok (.if_icmp .ge 57, 3) := by decide +kernel
theorem dX8_dropBy_59 : decode cX8_dropBy 59 = .ok (.iload_n 1, 1) := by decide +kernel
theorem dX8_dropBy_60 : decode cX8_dropBy 60 = .ok (.iconst 1, 1) := by decide +kernel
theorem dX8_dropBy_61 : decode cX8_dropBy 61 = .ok (.iadd, 1) := by decide +kernel
theorem dX8_dropBy_62 : decode cX8_dropBy 62 = .ok (.istore_n 2, 1) := by decide +kernel
theorem dX8_dropBy_63 : decode cX8_dropBy 63 = .ok (.iload_n 2, 1) := by decide +kernel
theorem dX8_dropBy_64 : decode cX8_dropBy 64 = .ok (.aload_n 0, 1) := by decide +kernel
theorem dX8_dropBy_65 : decode cX8_dropBy 65 = .ok (.getfield 166, 3) := by decide +kernel
theorem dX8_dropBy_68 : decode cX8_dropBy 68 = .ok (.if_icmp .ge 39, 3) := by decide +kernel
theorem dX8_dropBy_71 : decode cX8_dropBy 71 = .ok (.aload_n 0, 1) := by decide +kernel
theorem dX8_dropBy_72 : decode cX8_dropBy 72 = .ok (.getfield 88, 3) := by decide +kernel
theorem dX8_dropBy_75 : decode cX8_dropBy 75 = .ok (.iconst 0, 1) := by decide +kernel
theorem dX8_dropBy_76 : decode cX8_dropBy 76 = .ok (.iload_n 1, 1) := by decide +kernel
theorem dX8_dropBy_77 : decode cX8_dropBy 77 = .ok (.iastore, 1) := by decide +kernel
theorem dX8_dropBy_78 : decode cX8_dropBy 78 = .ok (.aload_n 0, 1) := by decide +kernel
theorem dX8_dropBy_79 : decode cX8_dropBy 79 = .ok (.getfield 88, 3) := by decide +kernel
theorem dX8_dropBy_82 : decode cX8_dropBy 82 = .ok (.iconst 1, 1) := by decide +kernel
theorem dX8_dropBy_83 : decode cX8_dropBy 83 = .ok (.iload_n 2, 1) := by decide +kernel
theorem dX8_dropBy_84 : decode cX8_dropBy 84 = .ok (.iastore, 1) := by decide +kernel
theorem dX8_dropBy_85 : decode cX8_dropBy 85 = .ok (.aload_n 0, 1) := by decide +kernel
theorem dX8_dropBy_86 : decode cX8_dropBy 86 = .ok (.iconst 1, 1) := by decide +kernel
theorem dX8_dropBy_87 : decode cX8_dropBy 87 = .ok (.iload_n 1, 1) := by decide +kernel
theorem dX8_dropBy_88 : decode cX8_dropBy 88 = .ok (.ishl, 1) := by decide +kernel
theorem dX8_dropBy_89 : decode cX8_dropBy 89 = .ok (.iconst 1, 1) := by decide +kernel
theorem dX8_dropBy_90 : decode cX8_dropBy 90 = .ok (.iload_n 2, 1) := by decide +kernel
theorem dX8_dropBy_91 : decode cX8_dropBy 91 = .ok (.ishl, 1) := by decide +kernel
theorem dX8_dropBy_92 : decode cX8_dropBy 92 = .ok (.ior, 1) := by decide +kernel
theorem dX8_dropBy_93 : decode cX8_dropBy 93 = .ok (.invokevirtual 281, 3) := by decide +kernel
theorem dX8_dropBy_96 : decode cX8_dropBy 96 = .ok (.ifCond .eq 5, 3) := by decide +kernel
theorem dX8_dropBy_99 : decode cX8_dropBy 99 = .ok (.iconst 2, 1) := by decide +kernel
theorem dX8_dropBy_100 : decode cX8_dropBy 100 = .ok (.ireturn, 1) := by decide +kernel
theorem dX8_dropBy_101 : decode cX8_dropBy 101 = .ok (.iinc 2 1, 3) := by decide +kernel
theorem dX8_dropBy_104 : decode cX8_dropBy 104 = .ok (.goto (-41), 3) := by decide +kernel
theorem dX8_dropBy_107 : decode cX8_dropBy 107 = .ok (.iinc 1 1, 3) := by decide +kernel
theorem dX8_dropBy_110 : decode cX8_dropBy 110 = .ok (.goto (-59), 3) := by decide +kernel
theorem dX8_dropBy_113 : decode cX8_dropBy 113 = .ok (.iconst (-1), 1) := by decide +kernel
theorem dX8_dropBy_114 : decode cX8_dropBy 114 = .ok (.ireturn, 1) := by decide +kernel
theorem dX8_ofRow_0 : decode cX8_ofRow 0 = .ok (.iload_n 2, 1) := by decide +kernel
theorem dX8_ofRow_1 : decode cX8_ofRow 1 = .ok (.iconst (-1), 1) := by decide +kernel
theorem dX8_ofRow_2 : decode cX8_ofRow 2 = .ok (.if_icmp .ne 7, 3) := by decide +kernel
theorem dX8_ofRow_5 : decode cX8_ofRow 5 = .ok (.iload_n 1, 1) := by decide +kernel
theorem dX8_ofRow_6 : decode cX8_ofRow 6 = .ok (.goto 18, 3) := by decide +kernel
theorem dX8_ofRow_9 : decode cX8_ofRow 9 = .ok (.iload_n 2, 1) := by decide +kernel
theorem dX8_ofRow_10 : decode cX8_ofRow 10 = .ok (.iload_n 1, 1) := by decide +kernel
theorem dX8_ofRow_11 : decode cX8_ofRow 11 = .ok (.if_icmp .ge 12, 3) := by decide +kernel
theorem dX8_ofRow_14 : decode cX8_ofRow 14 = .ok (.aload_n 0, 1) := by decide +kernel
theorem dX8_ofRow_15 : decode cX8_ofRow 15 = .ok (.getfield 88, 3) := by decide +kernel
theorem dX8_ofRow_18 : decode cX8_ofRow 18 = .ok (.iload_n 2, 1) := by decide +kernel
theorem dX8_ofRow_19 : decode cX8_ofRow 19 = .ok (.iaload, 1) := by decide +kernel
theorem dX8_ofRow_20 : decode cX8_ofRow 20 = .ok (.goto 4, 3) := by decide +kernel
theorem dX8_ofRow_23 : decode cX8_ofRow 23 = .ok (.iconst (-1), 1) := by decide +kernel
theorem dX8_ofRow_24 : decode cX8_ofRow 24 = .ok (.ireturn, 1) := by decide +kernel
theorem dX8_drop_0 : decode cX8_drop 0 = .ok (.iload_n 1, 1) := by decide +kernel
theorem dX8_drop_1 : decode cX8_drop 1 = .ok (.iconst (-1), 1) := by decide +kernel
theorem dX8_drop_2 : decode cX8_drop 2 = .ok (.iconst 1, 1) := by decide +kernel
theorem dX8_drop_3 : decode cX8_drop 3 = .ok (.invokestatic 124, 3) := by decide +kernel
theorem dX8_drop_6 : decode cX8_drop 6 = .ok (.ifCond .eq 15, 3) := by decide +kernel
theorem dX8_drop_9 : decode cX8_drop 9 = .ok (.aload_n 0, 1) := by decide +kernel
theorem dX8_drop_10 : decode cX8_drop 10 = .ok (.aload_n 0, 1) := by decide +kernel
theorem dX8_drop_11 : decode cX8_drop 11 = .ok (.invokevirtual 284, 3) := by decide +kernel
theorem dX8_drop_14 : decode cX8_drop 14 = .ok (.iload_n 1, 1) := by decide +kernel
theorem dX8_drop_15 : decode cX8_drop 15 = .ok (.invokevirtual 287, 3) := by decide +kernel
theorem dX8_drop_18 : decode cX8_drop 18 = .ok (.goto 5, 3) := by decide +kernel
theorem dX8_drop_21 : decode cX8_drop 21 = .ok (.bipush (-2), 2) := by decide +kernel
theorem dX8_drop_23 : decode cX8_drop 23 = .ok (.ireturn, 1) := by decide +kernel
theorem dX8_seen_0 : decode cX8_seen 0 = .ok (.iload_n 1, 1) := by decide +kernel
theorem dX8_seen_1 : decode cX8_seen 1 = .ok (.invokestatic 160, 3) := by decide +kernel
theorem dX8_seen_4 : decode cX8_seen 4 = .ok (.ifCond .eq 33, 3) := by decide +kernel
theorem dX8_seen_7 : decode cX8_seen 7 = .ok (.iload_n 2, 1) := by decide +kernel
theorem dX8_seen_8 : decode cX8_seen 8 = .ok (.invokestatic 163, 3) := by decide +kernel
theorem dX8_seen_11 : decode cX8_seen 11 = .ok (.ifCond .eq 26, 3) := by decide +kernel
theorem dX8_seen_14 : decode cX8_seen 14 = .ok (.iload_n 3, 1) := by decide +kernel
theorem dX8_seen_15 : decode cX8_seen 15 = .ok (.bipush (-99), 2) := by decide +kernel
theorem dX8_seen_17 : decode cX8_seen 17 = .ok (.bipush 99, 2) := by decide +kernel
theorem dX8_seen_19 : decode cX8_seen 19 = .ok (.invokestatic 124, 3) := by decide +kernel
theorem dX8_seen_22 : decode cX8_seen 22 = .ok (.ifCond .eq 15, 3) := by decide +kernel
theorem dX8_seen_25 : decode cX8_seen 25 = .ok (.iload 4, 2) := by decide +kernel
theorem dX8_seen_27 : decode cX8_seen 27 = .ok (.bipush (-99), 2) := by decide +kernel
theorem dX8_seen_29 : decode cX8_seen 29 = .ok (.bipush 99, 2) := by decide +kernel
theorem dX8_seen_31 : decode cX8_seen 31 = .ok (.invokestatic 124, 3) := by decide +kernel
theorem dX8_seen_34 : decode cX8_seen 34 = .ok (.ifCond .ne 6, 3) := by decide +kernel
theorem dX8_seen_37 : decode cX8_seen 37 = .ok (.bipush (-2), 2) := by decide +kernel
theorem dX8_seen_39 : decode cX8_seen 39 = .ok (.ireturn, 1) := by decide +kernel
theorem dX8_seen_40 : decode cX8_seen 40 = .ok (.aload_n 0, 1) := by decide +kernel
theorem dX8_seen_41 : decode cX8_seen 41 = .ok (.getfield 290, 3) := by decide +kernel
theorem dX8_seen_44 : decode cX8_seen 44 = .ok (.bipush 8, 2) := by decide +kernel
theorem dX8_seen_46 : decode cX8_seen 46 = .ok (.if_icmp .ne 6, 3) := by decide +kernel
theorem dX8_seen_49 : decode cX8_seen 49 = .ok (.bipush (-4), 2) := by decide +kernel
theorem dX8_seen_51 : decode cX8_seen 51 = .ok (.ireturn, 1) := by decide +kernel
theorem dX8_seen_52 : decode cX8_seen 52 = .ok (.aload_n 0, 1) := by decide +kernel
theorem dX8_seen_53 : decode cX8_seen 53 = .ok (.getfield 91, 3) := by decide +kernel
theorem dX8_seen_56 : decode cX8_seen 56 = .ok (.aload_n 0, 1) := by decide +kernel
theorem dX8_seen_57 : decode cX8_seen 57 = .ok (.getfield 290, 3) := by decide +kernel
theorem dX8_seen_60 : decode cX8_seen 60 = .ok (.iload_n 1, 1) := by decide +kernel
theorem dX8_seen_61 : decode cX8_seen 61 = .ok (.iastore, 1) := by decide +kernel
theorem dX8_seen_62 : decode cX8_seen 62 = .ok (.aload_n 0, 1) := by decide +kernel
theorem dX8_seen_63 : decode cX8_seen 63 = .ok (.getfield 94, 3) := by decide +kernel
theorem dX8_seen_66 : decode cX8_seen 66 = .ok (.aload_n 0, 1) := by decide +kernel
theorem dX8_seen_67 : decode cX8_seen 67 = .ok (.getfield 290, 3) := by decide +kernel
theorem dX8_seen_70 : decode cX8_seen 70 = .ok (.iload_n 2, 1) := by decide +kernel
theorem dX8_seen_71 : decode cX8_seen 71 = .ok (.iastore, 1) := by decide +kernel
theorem dX8_seen_72 : decode cX8_seen 72 = .ok (.aload_n 0, 1) := by decide +kernel
theorem dX8_seen_73 : decode cX8_seen 73 = .ok (.getfield 97, 3) := by decide +kernel
theorem dX8_seen_76 : decode cX8_seen 76 = .ok (.aload_n 0, 1) := by decide +kernel
theorem dX8_seen_77 : decode cX8_seen 77 = .ok (.getfield 290, 3) := by decide +kernel
theorem dX8_seen_80 : decode cX8_seen 80 = .ok (.iload_n 3, 1) := by decide +kernel
theorem dX8_seen_81 : decode cX8_seen 81 = .ok (.iastore, 1) := by decide +kernel
theorem dX8_seen_82 : decode cX8_seen 82 = .ok (.aload_n 0, 1) := by decide +kernel
theorem dX8_seen_83 : decode cX8_seen 83 = .ok (.getfield 100, 3) := by decide +kernel
theorem dX8_seen_86 : decode cX8_seen 86 = .ok (.aload_n 0, 1) := by decide +kernel
theorem dX8_seen_87 : decode cX8_seen 87 = .ok (.getfield 290, 3) := by decide +kernel
theorem dX8_seen_90 : decode cX8_seen 90 = .ok (.iload 4, 2) := by decide +kernel
theorem dX8_seen_92 : decode cX8_seen 92 = .ok (.iastore, 1) := by decide +kernel
theorem dX8_seen_93 : decode cX8_seen 93 = .ok (.aload_n 0, 1) := by decide +kernel
theorem dX8_seen_94 : decode cX8_seen 94 = .ok (.dup, 1) := by decide +kernel
theorem dX8_seen_95 : decode cX8_seen 95 = .ok (.getfield 290, 3) := by decide +kernel
theorem dX8_seen_98 : decode cX8_seen 98 = .ok (.iconst 1, 1) := by decide +kernel
theorem dX8_seen_99 : decode cX8_seen 99 = .ok (.iadd, 1) := by decide +kernel
theorem dX8_seen_100 : decode cX8_seen 100 = .ok (.putfield 290, 3) := by decide +kernel
theorem dX8_seen_103 : decode cX8_seen 103 = .ok (.aload_n 0, 1) := by decide +kernel
theorem dX8_seen_104 : decode cX8_seen 104 = .ok (.getfield 290, 3) := by decide +kernel
theorem dX8_seen_107 : decode cX8_seen 107 = .ok (.ireturn, 1) := by decide +kernel
theorem dX8_forget_0 : decode cX8_forget 0 = .ok (.aload_n 0, 1) := by decide +kernel
theorem dX8_forget_1 : decode cX8_forget 1 = .ok (.getfield 290, 3) := by decide +kernel
theorem dX8_forget_4 : decode cX8_forget 4 = .ok (.istore_n 1, 1) := by decide +kernel
theorem dX8_forget_5 : decode cX8_forget 5 = .ok (.aload_n 0, 1) := by decide +kernel
theorem dX8_forget_6 : decode cX8_forget 6 = .ok (.iconst 0, 1) := by decide +kernel
theorem dX8_forget_7 : decode cX8_forget 7 = .ok (.putfield 290, 3) := by decide +kernel
theorem dX8_forget_10 : decode cX8_forget 10 = .ok (.iload_n 1, 1) := by decide +kernel
theorem dX8_forget_11 : decode cX8_forget 11 = .ok (.ireturn, 1) := by decide +kernel
theorem dX8_isSeen_0 : decode cX8_isSeen 0 = .ok (.aload_n 0, 1) := by decide +kernel
theorem dX8_isSeen_1 : decode cX8_isSeen 1 = .ok (.invokevirtual 216, 3) := by decide +kernel
theorem dX8_isSeen_4 : decode cX8_isSeen 4 = .ok (.iconst 1, 1) := by decide +kernel
theorem dX8_isSeen_5 : decode cX8_isSeen 5 = .ok (.istore_n 1, 1) := by decide +kernel
theorem dX8_isSeen_6 : decode cX8_isSeen 6 = .ok (.iconst 0, 1) := by decide +kernel
theorem dX8_isSeen_7 : decode cX8_isSeen 7 = .ok (.istore_n 2, 1) := by decide +kernel
theorem dX8_isSeen_8 : decode cX8_isSeen 8 = .ok (.iload_n 2, 1) := by decide +kernel
theorem dX8_isSeen_9 : decode cX8_isSeen 9 = .ok (.aload_n 0, 1) := by decide +kernel
theorem dX8_isSeen_10 : decode cX8_isSeen 10 = .ok (.getfield 290, 3) := by decide +kernel
theorem dX8_isSeen_13 : decode cX8_isSeen 13 = .ok (.if_icmp .ge 77, 3) := by decide +kernel
theorem dX8_isSeen_16 : decode cX8_isSeen 16 = .ok (.iload_n 1, 1) := by decide +kernel
theorem dX8_isSeen_17 : decode cX8_isSeen 17 = .ok (.ifCond .eq 73, 3) := by decide +kernel
theorem dX8_isSeen_20 : decode cX8_isSeen 20 = .ok (.bipush 8, 2) := by decide +kernel
theorem dX8_isSeen_22 : decode cX8_isSeen 22 = .ok (.aload_n 0, 1) := by decide +kernel
theorem dX8_isSeen_23 : decode cX8_isSeen 23 = .ok (.getfield 91, 3) := by decide +kernel
theorem dX8_isSeen_26 : decode cX8_isSeen 26 = .ok (.iload_n 2, 1) := by decide +kernel
theorem dX8_isSeen_27 : decode cX8_isSeen 27 = .ok (.iaload, 1) := by decide +kernel
theorem dX8_isSeen_28 : decode cX8_isSeen 28 = .ok (.imul, 1) := by decide +kernel
theorem dX8_isSeen_29 : decode cX8_isSeen 29 = .ok (.aload_n 0, 1) := by decide +kernel
theorem dX8_isSeen_30 : decode cX8_isSeen 30 = .ok (.getfield 94, 3) := by decide +kernel
theorem dX8_isSeen_33 : decode cX8_isSeen 33 = .ok (.iload_n 2, 1) := by decide +kernel
theorem dX8_isSeen_34 : decode cX8_isSeen 34 = .ok (.iaload, 1) := by decide +kernel
theorem dX8_isSeen_35 : decode cX8_isSeen 35 = .ok (.iadd, 1) := by decide +kernel
theorem dX8_isSeen_36 : decode cX8_isSeen 36 = .ok (.istore_n 3, 1) := by decide +kernel
theorem dX8_isSeen_37 : decode cX8_isSeen 37 = .ok (.aload_n 0, 1) := by decide +kernel
theorem dX8_isSeen_38 : decode cX8_isSeen 38 = .ok (.getfield 94, 3) := by decide +kernel
theorem dX8_isSeen_41 : decode cX8_isSeen 41 = .ok (.iload_n 2, 1) := by decide +kernel
theorem dX8_isSeen_42 : decode cX8_isSeen 42 = .ok (.iaload, 1) := by decide +kernel
theorem dX8_isSeen_43 : decode cX8_isSeen 43 = .ok (.aload_n 0, 1) := by decide +kernel
theorem dX8_isSeen_44 : decode cX8_isSeen 44 = .ok (.getfield 139, 3) := by decide +kernel
theorem dX8_isSeen_47 : decode cX8_isSeen 47 = .ok (.if_icmp .ge 35, 3) := by decide +kernel
theorem dX8_isSeen_50 : decode cX8_isSeen 50 = .ok (.aload_n 0, 1) := by decide +kernel
theorem dX8_isSeen_51 : decode cX8_isSeen 51 = .ok (.iload_n 3, 1) := by decide +kernel
theorem dX8_isSeen_52 : decode cX8_isSeen 52 = .ok (.invokevirtual 225, 3) := by decide +kernel
theorem dX8_isSeen_55 : decode cX8_isSeen 55 = .ok (.aload_n 0, 1) := by decide +kernel
theorem dX8_isSeen_56 : decode cX8_isSeen 56 = .ok (.getfield 97, 3) := by decide +kernel
theorem dX8_isSeen_59 : decode cX8_isSeen 59 = .ok (.iload_n 2, 1) := by decide +kernel
theorem dX8_isSeen_60 : decode cX8_isSeen 60 = .ok (.iaload, 1) := by decide +kernel
theorem dX8_isSeen_61 : decode cX8_isSeen 61 = .ok (.if_icmp .ne 21, 3) := by decide +kernel
theorem dX8_isSeen_64 : decode cX8_isSeen 64 = .ok (.aload_n 0, 1) := by decide +kernel
theorem dX8_isSeen_65 : decode cX8_isSeen 65 = .ok (.iload_n 3, 1) := by decide +kernel
theorem dX8_isSeen_66 : decode cX8_isSeen 66 = .ok (.invokevirtual 228, 3) := by decide +kernel
theorem dX8_isSeen_69 : decode cX8_isSeen 69 = .ok (.aload_n 0, 1) := by decide +kernel
theorem dX8_isSeen_70 : decode cX8_isSeen 70 = .ok (.getfield 100, 3) := by decide +kernel
theorem dX8_isSeen_73 : decode cX8_isSeen 73 = .ok (.iload_n 2, 1) := by decide +kernel
theorem dX8_isSeen_74 : decode cX8_isSeen 74 = .ok (.iaload, 1) := by decide +kernel
theorem dX8_isSeen_75 : decode cX8_isSeen 75 = .ok (.if_icmp .ne 7, 3) := by decide +kernel
theorem dX8_isSeen_78 : decode cX8_isSeen 78 = .ok (.iconst 1, 1) := by decide +kernel
theorem dX8_isSeen_79 : decode cX8_isSeen 79 = .ok (.goto 4, 3) := by decide +kernel
theorem dX8_isSeen_82 : decode cX8_isSeen 82 = .ok (.iconst 0, 1) := by decide +kernel
theorem dX8_isSeen_83 : decode cX8_isSeen 83 = .ok (.istore_n 1, 1) := by decide +kernel
theorem dX8_isSeen_84 : decode cX8_isSeen 84 = .ok (.iinc 2 1, 3) := by decide +kernel
theorem dX8_isSeen_87 : decode cX8_isSeen 87 = .ok (.goto (-79), 3) := by decide +kernel
theorem dX8_isSeen_90 : decode cX8_isSeen 90 = .ok (.iload_n 1, 1) := by decide +kernel
theorem dX8_isSeen_91 : decode cX8_isSeen 91 = .ok (.ireturn, 1) := by decide +kernel
theorem dX8_neverNow_0 : decode cX8_neverNow 0 = .ok (.aload_n 0, 1) := by decide +kernel
theorem dX8_neverNow_1 : decode cX8_neverNow 1 = .ok (.invokevirtual 213, 3) := by decide +kernel
theorem dX8_neverNow_4 : decode cX8_neverNow 4 = .ok (.iconst 0, 1) := by decide +kernel
theorem dX8_neverNow_5 : decode cX8_neverNow 5 = .ok (.istore_n 1, 1) := by decide +kernel
theorem dX8_neverNow_6 : decode cX8_neverNow 6 = .ok (.iconst 0, 1) := by decide +kernel
theorem dX8_neverNow_7 : decode cX8_neverNow 7 = .ok (.istore_n 2, 1) := by decide +kernel
theorem dX8_neverNow_8 : decode cX8_neverNow 8 = .ok (.iload_n 2, 1) := by decide +kernel
theorem dX8_neverNow_9 : decode cX8_neverNow 9 = .ok (.aload_n 0, 1) := by decide +kernel
theorem dX8_neverNow_10 : decode cX8_neverNow 10 = .ok (.getfield 166, 3) := by decide +kernel
theorem dX8_neverNow_13 : decode cX8_neverNow 13 = .ok (.if_icmp .ge 33, 3) := by decide +kernel
theorem dX8_neverNow_16 : decode cX8_neverNow 16 = .ok (.aload_n 0, 1) := by decide +kernel
theorem dX8_neverNow_17 : decode cX8_neverNow 17 = .ok (.iconst 1, 1) := by decide +kernel
theorem dX8_neverNow_18 : decode cX8_neverNow 18 = .ok (.iload_n 2, 1) := by decide +kernel
theorem dX8_neverNow_19 : decode cX8_neverNow 19 = .ok (.ishl, 1) := by decide +kernel
theorem dX8_neverNow_20 : decode cX8_neverNow 20 = .ok (.putfield 182, 3) := by decide +kernel
theorem dX8_neverNow_23 : decode cX8_neverNow 23 = .ok (.iload_n 1, 1) := by decide +kernel
theorem dX8_neverNow_24 : decode cX8_neverNow 24 = .ok (.aload_n 0, 1) := by decide +kernel
theorem dX8_neverNow_25 : decode cX8_neverNow 25 = .ok (.invokevirtual 293, 3) := by decide +kernel
theorem dX8_neverNow_28 : decode cX8_neverNow 28 = .ok (.ifCond .eq 9, 3) := by decide +kernel
theorem dX8_neverNow_31 : decode cX8_neverNow 31 = .ok (.iconst 1, 1) := by decide +kernel
theorem dX8_neverNow_32 : decode cX8_neverNow 32 = .ok (.iload_n 2, 1) := by decide +kernel
theorem dX8_neverNow_33 : decode cX8_neverNow 33 = .ok (.ishl, 1) := by decide +kernel
theorem dX8_neverNow_34 : decode cX8_neverNow 34 = .ok (.goto 4, 3) := by decide +kernel
theorem dX8_neverNow_37 : decode cX8_neverNow 37 = .ok (.iconst 0, 1) := by decide +kernel
theorem dX8_neverNow_38 : decode cX8_neverNow 38 = .ok (.ior, 1) := by decide +kernel
theorem dX8_neverNow_39 : decode cX8_neverNow 39 = .ok (.istore_n 1, 1) := by decide +kernel
theorem dX8_neverNow_40 : decode cX8_neverNow 40 = .ok (.iinc 2 1, 3) := by decide +kernel
theorem dX8_neverNow_43 : decode cX8_neverNow 43 = .ok (.goto (-35), 3) := by decide +kernel
theorem dX8_neverNow_46 : decode cX8_neverNow 46 = .ok (.iload_n 1, 1) := by decide +kernel
theorem dX8_neverNow_47 : decode cX8_neverNow 47 = .ok (.ireturn, 1) := by decide +kernel
theorem dX8_never_0 : decode cX8_never 0 = .ok (.aload_n 0, 1) := by decide +kernel
theorem dX8_never_1 : decode cX8_never 1 = .ok (.invokevirtual 297, 3) := by decide +kernel
theorem dX8_never_4 : decode cX8_never 4 = .ok (.ireturn, 1) := by decide +kernel
theorem dX8_wideBy_0 : decode cX8_wideBy 0 = .ok (.aload_n 0, 1) := by decide +kernel
theorem dX8_wideBy_1 : decode cX8_wideBy 1 = .ok (.invokevirtual 213, 3) := by decide +kernel
theorem dX8_wideBy_4 : decode cX8_wideBy 4 = .ok (.aload_n 0, 1) := by decide +kernel
theorem dX8_wideBy_5 : decode cX8_wideBy 5 = .ok (.getfield 19, 3) := by decide +kernel
theorem dX8_wideBy_8 : decode cX8_wideBy 8 = .ok (.iload_n 1, 1) := by decide +kernel
theorem dX8_wideBy_9 : decode cX8_wideBy 9 = .ok (.iaload, 1) := by decide +kernel
theorem dX8_wideBy_10 : decode cX8_wideBy 10 = .ok (.istore_n 2, 1) := by decide +kernel
theorem dX8_wideBy_11 : decode cX8_wideBy 11 = .ok (.iconst 0, 1) := by decide +kernel
theorem dX8_wideBy_12 : decode cX8_wideBy 12 = .ok (.istore_n 3, 1) := by decide +kernel
theorem dX8_wideBy_13 : decode cX8_wideBy 13 = .ok (.iconst 0, 1) := by decide +kernel
theorem dX8_wideBy_14 : decode cX8_wideBy 14 = .ok (.istore 4, 2) := by decide +kernel
theorem dX8_wideBy_16 : decode cX8_wideBy 16 = .ok (.iload 4, 2) := by decide +kernel
theorem dX8_wideBy_18 : decode cX8_wideBy 18 = .ok (.bipush 10, 2) := by decide +kernel
theorem dX8_wideBy_20 : decode cX8_wideBy 20 = .ok (.if_icmp .ge 91, 3) := by decide +kernel
theorem dX8_wideBy_23 : decode cX8_wideBy 23 = .ok (.aload_n 0, 1) := by decide +kernel
theorem dX8_wideBy_24 : decode cX8_wideBy 24 = .ok (.getfield 19, 3) := by decide +kernel
theorem dX8_wideBy_27 : decode cX8_wideBy 27 = .ok (.iload_n 1, 1) := by decide +kernel
theorem dX8_wideBy_28 : decode cX8_wideBy 28 = .ok (.iload 4, 2) := by decide +kernel
theorem dX8_wideBy_30 : decode cX8_wideBy 30 = .ok (.iastore, 1) := by decide +kernel
theorem dX8_wideBy_31 : decode cX8_wideBy 31 = .ok (.iload_n 3, 1) := by decide +kernel
theorem dX8_wideBy_32 : decode cX8_wideBy 32 = .ok (.aload_n 0, 1) := by decide +kernel
theorem dX8_wideBy_33 : decode cX8_wideBy 33 = .ok (.invokevirtual 293, 3) := by decide +kernel
theorem dX8_wideBy_36 : decode cX8_wideBy 36 = .ok (.ifCond .eq 10, 3) := by decide +kernel
theorem dX8_wideBy_39 : decode cX8_wideBy 39 = .ok (.iconst 1, 1) := by decide +kernel
theorem dX8_wideBy_40 : decode cX8_wideBy 40 = .ok (.iload 4, 2) := by decide +kernel
theorem dX8_wideBy_42 : decode cX8_wideBy 42 = .ok (.ishl, 1) := by decide +kernel
theorem dX8_wideBy_43 : decode cX8_wideBy 43 = .ok (.goto 4, 3) := by decide +kernel
theorem dX8_wideBy_46 : decode cX8_wideBy 46 = .ok (.iconst 0, 1) := by decide +kernel
theorem dX8_wideBy_47 : decode cX8_wideBy 47 = .ok (.ior, 1) := by decide +kernel
theorem dX8_wideBy_48 : decode cX8_wideBy 48 = .ok (.istore_n 3, 1) := by decide +kernel
theorem dX8_wideBy_49 : decode cX8_wideBy 49 = .ok (.iconst 0, 1) := by decide +kernel
theorem dX8_wideBy_50 : decode cX8_wideBy 50 = .ok (.istore 5, 2) := by decide +kernel
theorem dX8_wideBy_52 : decode cX8_wideBy 52 = .ok (.iload 5, 2) := by decide +kernel
theorem dX8_wideBy_54 : decode cX8_wideBy 54 = .ok (.bipush 20, 2) := by decide +kernel
theorem dX8_wideBy_56 : decode cX8_wideBy 56 = .ok (.if_icmp .ge 49, 3) := by decide +kernel
theorem dX8_wideBy_59 : decode cX8_wideBy 59 = .ok (.aload_n 0, 1) := by decide +kernel
theorem dX8_wideBy_60 : decode cX8_wideBy 60 = .ok (.getfield 103, 3) := by decide +kernel
theorem dX8_wideBy_63 : decode cX8_wideBy 63 = .ok (.bipush 20, 2) := by decide +kernel
theorem dX8_wideBy_65 : decode cX8_wideBy 65 = .ok (.iload 4, 2) := by decide +kernel
theorem dX8_wideBy_67 : decode cX8_wideBy 67 = .ok (.imul, 1) := by decide +kernel
theorem dX8_wideBy_68 : decode cX8_wideBy 68 = .ok (.iload 5, 2) := by decide +kernel
theorem dX8_wideBy_70 : decode cX8_wideBy 70 = .ok (.iadd, 1) := by decide +kernel
theorem dX8_wideBy_71 : decode cX8_wideBy 71 = .ok (.sipush 1000, 3) := by decide +kernel
theorem dX8_wideBy_74 : decode cX8_wideBy 74 = .ok (.aload_n 0, 1) := by decide +kernel
theorem dX8_wideBy_75 : decode cX8_wideBy 75 = .ok (.bipush 8, 2) := by decide +kernel
theorem dX8_wideBy_77 : decode cX8_wideBy 77 = .ok (.iload 5, 2) := by decide +kernel
theorem dX8_wideBy_79 : decode cX8_wideBy 79 = .ok (.imul, 1) := by decide +kernel
theorem dX8_wideBy_80 : decode cX8_wideBy 80 = .ok (.iload_n 1, 1) := by decide +kernel
theorem dX8_wideBy_81 : decode cX8_wideBy 81 = .ok (.iadd, 1) := by decide +kernel
theorem dX8_wideBy_82 : decode cX8_wideBy 82 = .ok (.invokevirtual 225, 3) := by decide +kernel
theorem dX8_wideBy_85 : decode cX8_wideBy 85 = .ok (.imul, 1) := by decide +kernel
theorem dX8_wideBy_86 : decode cX8_wideBy 86 = .ok (.aload_n 0, 1) := by decide +kernel
theorem dX8_wideBy_87 : decode cX8_wideBy 87 = .ok (.bipush 8, 2) := by decide +kernel
theorem dX8_wideBy_89 : decode cX8_wideBy 89 = .ok (.iload 5, 2) := by decide +kernel
theorem dX8_wideBy_91 : decode cX8_wideBy 91 = .ok (.imul, 1) := by decide +kernel
theorem dX8_wideBy_92 : decode cX8_wideBy 92 = .ok (.iload_n 1, 1) := by decide +kernel
theorem dX8_wideBy_93 : decode cX8_wideBy 93 = .ok (.iadd, 1) := by decide +kernel
theorem dX8_wideBy_94 : decode cX8_wideBy 94 = .ok (.invokevirtual 228, 3) := by decide +kernel
theorem dX8_wideBy_97 : decode cX8_wideBy 97 = .ok (.iadd, 1) := by decide +kernel
theorem dX8_wideBy_98 : decode cX8_wideBy 98 = .ok (.iastore, 1) := by decide +kernel
theorem dX8_wideBy_99 : decode cX8_wideBy 99 = .ok (.iinc 5 1, 3) := by decide +kernel
theorem dX8_wideBy_102 : decode cX8_wideBy 102 = .ok (.goto (-50), 3) := by decide +kernel
theorem dX8_wideBy_105 : decode cX8_wideBy 105 = .ok (.iinc 4 1, 3) := by decide +kernel
theorem dX8_wideBy_108 : decode cX8_wideBy 108 = .ok (.goto (-92), 3) := by decide +kernel
theorem dX8_wideBy_111 : decode cX8_wideBy 111 = .ok (.aload_n 0, 1) := by decide +kernel
theorem dX8_wideBy_112 : decode cX8_wideBy 112 = .ok (.getfield 19, 3) := by decide +kernel
theorem dX8_wideBy_115 : decode cX8_wideBy 115 = .ok (.iload_n 1, 1) := by decide +kernel
theorem dX8_wideBy_116 : decode cX8_wideBy 116 = .ok (.iload_n 2, 1) := by decide +kernel
theorem dX8_wideBy_117 : decode cX8_wideBy 117 = .ok (.iastore, 1) := by decide +kernel
theorem dX8_wideBy_118 : decode cX8_wideBy 118 = .ok (.iload_n 3, 1) := by decide +kernel
theorem dX8_wideBy_119 : decode cX8_wideBy 119 = .ok (.ireturn, 1) := by decide +kernel
theorem dX8_sortsBy_0 : decode cX8_sortsBy 0 = .ok (.aload_n 0, 1) := by decide +kernel
theorem dX8_sortsBy_1 : decode cX8_sortsBy 1 = .ok (.invokevirtual 213, 3) := by decide +kernel
theorem dX8_sortsBy_4 : decode cX8_sortsBy 4 = .ok (.aload_n 0, 1) := by decide +kernel
theorem dX8_sortsBy_5 : decode cX8_sortsBy 5 = .ok (.getfield 22, 3) := by decide +kernel
theorem dX8_sortsBy_8 : decode cX8_sortsBy 8 = .ok (.iload_n 1, 1) := by decide +kernel
theorem dX8_sortsBy_9 : decode cX8_sortsBy 9 = .ok (.iaload, 1) := by decide +kernel
theorem dX8_sortsBy_10 : decode cX8_sortsBy 10 = .ok (.istore_n 2, 1) := by decide +kernel
theorem dX8_sortsBy_11 : decode cX8_sortsBy 11 = .ok (.iconst 0, 1) := by decide +kernel
theorem dX8_sortsBy_12 : decode cX8_sortsBy 12 = .ok (.istore_n 3, 1) := by decide +kernel
theorem dX8_sortsBy_13 : decode cX8_sortsBy 13 = .ok (.iconst 0, 1) := by decide +kernel
theorem dX8_sortsBy_14 : decode cX8_sortsBy 14 = .ok (.istore 4, 2) := by decide +kernel
theorem dX8_sortsBy_16 : decode cX8_sortsBy 16 = .ok (.iload 4, 2) := by decide +kernel
theorem dX8_sortsBy_18 : decode cX8_sortsBy 18 = .ok (.iconst 3, 1) := by decide +kernel
theorem dX8_sortsBy_19 : decode cX8_sortsBy 19 = .ok (.if_icmp .ge 35, 3) := by decide +kernel
theorem dX8_sortsBy_22 : decode cX8_sortsBy 22 = .ok (.aload_n 0, 1) := by decide +kernel
theorem dX8_sortsBy_23 : decode cX8_sortsBy 23 = .ok (.getfield 22, 3) := by decide +kernel
theorem dX8_sortsBy_26 : decode cX8_sortsBy 26 = .ok (.iload_n 1, 1) := by decide +kernel
theorem dX8_sortsBy_27 : decode cX8_sortsBy 27 = .ok (.iload 4, 2) := by decide +kernel
theorem dX8_sortsBy_29 : decode cX8_sortsBy 29 = .ok (.iastore, 1) := by decide +kernel
theorem dX8_sortsBy_30 : decode cX8_sortsBy 30 = .ok (.iload_n 3, 1) := by decide +kernel
theorem dX8_sortsBy_31 : decode cX8_sortsBy 31 = .ok (.aload_n 0, 1) := by decide +kernel
theorem dX8_sortsBy_32 : decode cX8_sortsBy 32 = .ok (.invokevirtual 293, 3) := by decide +kernel
theorem dX8_sortsBy_35 : decode cX8_sortsBy 35 = .ok (.ifCond .eq 10, 3) := by decide +kernel
theorem dX8_sortsBy_38 : decode cX8_sortsBy 38 = .ok (.iconst 1, 1) := by decide +kernel
theorem dX8_sortsBy_39 : decode cX8_sortsBy 39 = .ok (.iload 4, 2) := by decide +kernel
theorem dX8_sortsBy_41 : decode cX8_sortsBy 41 = .ok (.ishl, 1) := by decide +kernel
theorem dX8_sortsBy_42 : decode cX8_sortsBy 42 = .ok (.goto 4, 3) := by decide +kernel
theorem dX8_sortsBy_45 : decode cX8_sortsBy 45 = .ok (.iconst 0, 1) := by decide +kernel
theorem dX8_sortsBy_46 : decode cX8_sortsBy 46 = .ok (.ior, 1) := by decide +kernel
theorem dX8_sortsBy_47 : decode cX8_sortsBy 47 = .ok (.istore_n 3, 1) := by decide +kernel
theorem dX8_sortsBy_48 : decode cX8_sortsBy 48 = .ok (.iinc 4 1, 3) := by decide +kernel
theorem dX8_sortsBy_51 : decode cX8_sortsBy 51 = .ok (.goto (-35), 3) := by decide +kernel
theorem dX8_sortsBy_54 : decode cX8_sortsBy 54 = .ok (.aload_n 0, 1) := by decide +kernel
theorem dX8_sortsBy_55 : decode cX8_sortsBy 55 = .ok (.getfield 22, 3) := by decide +kernel
theorem dX8_sortsBy_58 : decode cX8_sortsBy 58 = .ok (.iload_n 1, 1) := by decide +kernel
theorem dX8_sortsBy_59 : decode cX8_sortsBy 59 = .ok (.iload_n 2, 1) := by decide +kernel
theorem dX8_sortsBy_60 : decode cX8_sortsBy 60 = .ok (.iastore, 1) := by decide +kernel
theorem dX8_sortsBy_61 : decode cX8_sortsBy 61 = .ok (.iload_n 3, 1) := by decide +kernel
theorem dX8_sortsBy_62 : decode cX8_sortsBy 62 = .ok (.ireturn, 1) := by decide +kernel
theorem dX8_was_0 : decode cX8_was 0 = .ok (.aload_n 0, 1) := by decide +kernel
theorem dX8_was_1 : decode cX8_was 1 = .ok (.iload_n 1, 1) := by decide +kernel
theorem dX8_was_2 : decode cX8_was 2 = .ok (.invokevirtual 153, 3) := by decide +kernel
theorem dX8_was_5 : decode cX8_was 5 = .ok (.ifCond .eq 32, 3) := by decide +kernel
theorem dX8_was_8 : decode cX8_was 8 = .ok (.iload_n 2, 1) := by decide +kernel
theorem dX8_was_9 : decode cX8_was 9 = .ok (.iconst 0, 1) := by decide +kernel
theorem dX8_was_10 : decode cX8_was 10 = .ok (.iconst 1, 1) := by decide +kernel
theorem dX8_was_11 : decode cX8_was 11 = .ok (.invokestatic 124, 3) := by decide +kernel
theorem dX8_was_14 : decode cX8_was 14 = .ok (.ifCond .eq 23, 3) := by decide +kernel
theorem dX8_was_17 : decode cX8_was 17 = .ok (.iload_n 2, 1) := by decide +kernel
theorem dX8_was_18 : decode cX8_was 18 = .ok (.ifCond .ne 11, 3) := by decide +kernel
theorem dX8_was_21 : decode cX8_was 21 = .ok (.aload_n 0, 1) := by decide +kernel
theorem dX8_was_22 : decode cX8_was 22 = .ok (.iload_n 1, 1) := by decide +kernel
theorem dX8_was_23 : decode cX8_was 23 = .ok (.invokevirtual 300, 3) := by decide +kernel
theorem dX8_was_26 : decode cX8_was 26 = .ok (.goto 13, 3) := by decide +kernel
theorem dX8_was_29 : decode cX8_was 29 = .ok (.aload_n 0, 1) := by decide +kernel
theorem dX8_was_30 : decode cX8_was 30 = .ok (.iload_n 1, 1) := by decide +kernel
theorem dX8_was_31 : decode cX8_was 31 = .ok (.invokevirtual 303, 3) := by decide +kernel
theorem dX8_was_34 : decode cX8_was 34 = .ok (.goto 5, 3) := by decide +kernel
theorem dX8_was_37 : decode cX8_was 37 = .ok (.bipush (-2), 2) := by decide +kernel
theorem dX8_was_39 : decode cX8_was 39 = .ok (.ireturn, 1) := by decide +kernel
theorem dX8_askOf_0 : decode cX8_askOf 0 = .ok (.aload_n 0, 1) := by decide +kernel
theorem dX8_askOf_1 : decode cX8_askOf 1 = .ok (.iload_n 1, 1) := by decide +kernel
theorem dX8_askOf_2 : decode cX8_askOf 2 = .ok (.invokevirtual 300, 3) := by decide +kernel
theorem dX8_askOf_5 : decode cX8_askOf 5 = .ok (.istore_n 2, 1) := by decide +kernel
theorem dX8_askOf_6 : decode cX8_askOf 6 = .ok (.iconst (-1), 1) := by decide +kernel
theorem dX8_askOf_7 : decode cX8_askOf 7 = .ok (.istore_n 3, 1) := by decide +kernel
theorem dX8_askOf_8 : decode cX8_askOf 8 = .ok (.iconst 0, 1) := by decide +kernel
theorem dX8_askOf_9 : decode cX8_askOf 9 = .ok (.istore 4, 2) := by decide +kernel
theorem dX8_askOf_11 : decode cX8_askOf 11 = .ok (.iconst 0, 1) := by decide +kernel
theorem dX8_askOf_12 : decode cX8_askOf 12 = .ok (.istore 5, 2) := by decide +kernel
theorem dX8_askOf_14 : decode cX8_askOf 14 = .ok (.iload 5, 2) := by decide +kernel
theorem dX8_askOf_16 : decode cX8_askOf 16 = .ok (.bipush 20, 2) := by decide +kernel
theorem dX8_askOf_18 : decode cX8_askOf 18 = .ok (.if_icmp .ge 165, 3) := by decide +kernel
theorem dX8_askOf_21 : decode cX8_askOf 21 = .ok (.iconst 0, 1) := by decide +kernel
theorem dX8_askOf_22 : decode cX8_askOf 22 = .ok (.istore 6, 2) := by decide +kernel
theorem dX8_askOf_24 : decode cX8_askOf 24 = .ok (.iconst 0, 1) := by decide +kernel
theorem dX8_askOf_25 : decode cX8_askOf 25 = .ok (.istore 7, 2) := by decide +kernel
theorem dX8_askOf_27 : decode cX8_askOf 27 = .ok (.iload 7, 2) := by decide +kernel
theorem dX8_askOf_29 : decode cX8_askOf 29 = .ok (.bipush 10, 2) := by decide +kernel
theorem dX8_askOf_31 : decode cX8_askOf 31 = .ok (.if_icmp .ge 101, 3) := by decide +kernel
theorem dX8_askOf_34 : decode cX8_askOf 34 = .ok (.iconst 0, 1) := by decide +kernel
theorem dX8_askOf_35 : decode cX8_askOf 35 = .ok (.istore 8, 2) := by decide +kernel
theorem dX8_askOf_37 : decode cX8_askOf 37 = .ok (.iconst 0, 1) := by decide +kernel
theorem dX8_askOf_38 : decode cX8_askOf 38 = .ok (.istore 9, 2) := by decide +kernel
theorem dX8_askOf_40 : decode cX8_askOf 40 = .ok (.iload 9, 2) := by decide +kernel
theorem dX8_askOf_42 : decode cX8_askOf 42 = .ok (.bipush 10, 2) := by decide +kernel
theorem dX8_askOf_44 : decode cX8_askOf 44 = .ok (.if_icmp .ge 66, 3) := by decide +kernel
theorem dX8_askOf_47 : decode cX8_askOf 47 = .ok (.iload 8, 2) := by decide +kernel
theorem dX8_askOf_49 : decode cX8_askOf 49 = .ok (.iload_n 2, 1) := by decide +kernel
theorem dX8_askOf_50 : decode cX8_askOf 50 = .ok (.iload 7, 2) := by decide +kernel
theorem dX8_askOf_52 : decode cX8_askOf 52 = .ok (.invokestatic 199, 3) := by decide +kernel
theorem dX8_askOf_55 : decode cX8_askOf 55 = .ok (.ifCond .eq 45, 3) := by decide +kernel
theorem dX8_askOf_58 : decode cX8_askOf 58 = .ok (.iload_n 2, 1) := by decide +kernel
theorem dX8_askOf_59 : decode cX8_askOf 59 = .ok (.iload 9, 2) := by decide +kernel
theorem dX8_askOf_61 : decode cX8_askOf 61 = .ok (.invokestatic 199, 3) := by decide +kernel
theorem dX8_askOf_64 : decode cX8_askOf 64 = .ok (.ifCond .eq 36, 3) := by decide +kernel
theorem dX8_askOf_67 : decode cX8_askOf 67 = .ok (.aload_n 0, 1) := by decide +kernel
theorem dX8_askOf_68 : decode cX8_askOf 68 = .ok (.getfield 103, 3) := by decide +kernel
theorem dX8_askOf_71 : decode cX8_askOf 71 = .ok (.bipush 20, 2) := by decide +kernel
theorem dX8_askOf_73 : decode cX8_askOf 73 = .ok (.iload 7, 2) := by decide +kernel
theorem dX8_askOf_75 : decode cX8_askOf 75 = .ok (.imul, 1) := by decide +kernel
theorem dX8_askOf_76 : decode cX8_askOf 76 = .ok (.iload 5, 2) := by decide +kernel
theorem dX8_askOf_78 : decode cX8_askOf 78 = .ok (.iadd, 1) := by decide +kernel
theorem dX8_askOf_79 : decode cX8_askOf 79 = .ok (.iaload, 1) := by decide +kernel
theorem dX8_askOf_80 : decode cX8_askOf 80 = .ok (.aload_n 0, 1) := by decide +kernel
theorem dX8_askOf_81 : decode cX8_askOf 81 = .ok (.getfield 103, 3) := by decide +kernel
theorem dX8_askOf_84 : decode cX8_askOf 84 = .ok (.bipush 20, 2) := by decide +kernel
theorem dX8_askOf_86 : decode cX8_askOf 86 = .ok (.iload 9, 2) := by decide +kernel
theorem dX8_askOf_88 : decode cX8_askOf 88 = .ok (.imul, 1) := by decide +kernel
theorem dX8_askOf_89 : decode cX8_askOf 89 = .ok (.iload 5, 2) := by decide +kernel
theorem dX8_askOf_91 : decode cX8_askOf 91 = .ok (.iadd, 1) := by decide +kernel
theorem dX8_askOf_92 : decode cX8_askOf 92 = .ok (.iaload, 1) := by decide +kernel
theorem dX8_askOf_93 : decode cX8_askOf 93 = .ok (.if_icmp .ne 7, 3) := by decide +kernel
theorem dX8_askOf_96 : decode cX8_askOf 96 = .ok (.iconst 1, 1) := by decide +kernel
theorem dX8_askOf_97 : decode cX8_askOf 97 = .ok (.goto 4, 3) := by decide +kernel
theorem dX8_askOf_100 : decode cX8_askOf 100 = .ok (.iconst 0, 1) := by decide +kernel
theorem dX8_askOf_101 : decode cX8_askOf 101 = .ok (.iadd, 1) := by decide +kernel
theorem dX8_askOf_102 : decode cX8_askOf 102 = .ok (.istore 8, 2) := by decide +kernel
theorem dX8_askOf_104 : decode cX8_askOf 104 = .ok (.iinc 9 1, 3) := by decide +kernel
theorem dX8_askOf_107 : decode cX8_askOf 107 = .ok (.goto (-67), 3) := by decide +kernel
theorem dX8_askOf_110 : decode cX8_askOf 110 = .ok (.iload 8, 2) := by decide +kernel
theorem dX8_askOf_112 : decode cX8_askOf 112 = .ok (.iload 6, 2) := by decide +kernel
theorem dX8_askOf_114 : decode cX8_askOf 114 = .ok (.if_icmp .le 8, 3) := by decide +kernel
theorem dX8_askOf_117 : decode cX8_askOf 117 = .ok (.iload 8, 2) := by decide +kernel
theorem dX8_askOf_119 : decode cX8_askOf 119 = .ok (.goto 5, 3) := by decide +kernel
theorem dX8_askOf_122 : decode cX8_askOf 122 = .ok (.iload 6, 2) := by decide +kernel
theorem dX8_askOf_124 : decode cX8_askOf 124 = .ok (.istore 6, 2) := by decide +kernel
theorem dX8_askOf_126 : decode cX8_askOf 126 = .ok (.iinc 7 1, 3) := by decide +kernel
theorem dX8_askOf_129 : decode cX8_askOf 129 = .ok (.goto (-102), 3) := by decide +kernel
theorem dX8_askOf_132 : decode cX8_askOf 132 = .ok (.iload_n 3, 1) := by decide +kernel
theorem dX8_askOf_133 : decode cX8_askOf 133 = .ok (.iconst (-1), 1) := by decide +kernel
theorem dX8_askOf_134 : decode cX8_askOf 134 = .ok (.if_icmp .eq 10, 3) := by decide +kernel
theorem dX8_askOf_137 : decode cX8_askOf 137 = .ok (.iload 6, 2) := by decide +kernel
theorem dX8_askOf_139 : decode cX8_askOf 139 = .ok (.iload 4, 2) := by decide +kernel
theorem dX8_askOf_141 : decode cX8_askOf 141 = .ok (.if_icmp .ge 7, 3) := by decide +kernel
theorem dX8_askOf_144 : decode cX8_askOf 144 = .ok (.iconst 1, 1) := by decide +kernel
theorem dX8_askOf_145 : decode cX8_askOf 145 = .ok (.goto 4, 3) := by decide +kernel
theorem dX8_askOf_148 : decode cX8_askOf 148 = .ok (.iconst 0, 1) := by decide +kernel
theorem dX8_askOf_149 : decode cX8_askOf 149 = .ok (.istore 7, 2) := by decide +kernel
theorem dX8_askOf_151 : decode cX8_askOf 151 = .ok (.iload 7, 2) := by decide +kernel
theorem dX8_askOf_153 : decode cX8_askOf 153 = .ok (.ifCond .eq 8, 3) := by decide +kernel
theorem dX8_askOf_156 : decode cX8_askOf 156 = .ok (.iload 5, 2) := by decide +kernel
theorem dX8_askOf_158 : decode cX8_askOf 158 = .ok (.goto 4, 3) := by decide +kernel
theorem dX8_askOf_161 : decode cX8_askOf 161 = .ok (.iload_n 3, 1) := by decide +kernel
theorem dX8_askOf_162 : decode cX8_askOf 162 = .ok (.istore_n 3, 1) := by decide +kernel
theorem dX8_askOf_163 : decode cX8_askOf 163 = .ok (.iload 7, 2) := by decide +kernel
theorem dX8_askOf_165 : decode cX8_askOf 165 = .ok (.ifCond .eq 8, 3) := by decide +kernel
theorem dX8_askOf_168 : decode cX8_askOf 168 = .ok (.iload 6, 2) := by decide +kernel
theorem dX8_askOf_170 : decode cX8_askOf 170 = .ok (.goto 5, 3) := by decide +kernel
theorem dX8_askOf_173 : decode cX8_askOf 173 = .ok (.iload 4, 2) := by decide +kernel
theorem dX8_askOf_175 : decode cX8_askOf 175 = .ok (.istore 4, 2) := by decide +kernel
theorem dX8_askOf_177 : decode cX8_askOf 177 = .ok (.iinc 5 1, 3) := by decide +kernel
theorem dX8_askOf_180 : decode cX8_askOf 180 = .ok (.goto (-166), 3) := by decide +kernel
theorem dX8_askOf_183 : decode cX8_askOf 183 = .ok (.iload_n 3, 1) := by decide +kernel
theorem dX8_askOf_184 : decode cX8_askOf 184 = .ok (.ireturn, 1) := by decide +kernel
theorem dX8_ask_0 : decode cX8_ask 0 = .ok (.aload_n 0, 1) := by decide +kernel
theorem dX8_ask_1 : decode cX8_ask 1 = .ok (.iload_n 1, 1) := by decide +kernel
theorem dX8_ask_2 : decode cX8_ask 2 = .ok (.invokevirtual 153, 3) := by decide +kernel
theorem dX8_ask_5 : decode cX8_ask 5 = .ok (.ifCond .eq 11, 3) := by decide +kernel
theorem dX8_ask_8 : decode cX8_ask 8 = .ok (.aload_n 0, 1) := by decide +kernel
theorem dX8_ask_9 : decode cX8_ask 9 = .ok (.iload_n 1, 1) := by decide +kernel
theorem dX8_ask_10 : decode cX8_ask 10 = .ok (.invokevirtual 306, 3) := by decide +kernel
theorem dX8_ask_13 : decode cX8_ask 13 = .ok (.goto 5, 3) := by decide +kernel
theorem dX8_ask_16 : decode cX8_ask 16 = .ok (.bipush (-2), 2) := by decide +kernel
theorem dX8_ask_18 : decode cX8_ask 18 = .ok (.ireturn, 1) := by decide +kernel
theorem dX8_gossipOf_0 : decode cX8_gossipOf 0 = .ok (.aload_n 0, 1) := by decide +kernel
theorem dX8_gossipOf_1 : decode cX8_gossipOf 1 = .ok (.invokevirtual 213, 3) := by decide +kernel
theorem dX8_gossipOf_4 : decode cX8_gossipOf 4 = .ok (.lconst 0, 1) := by decide +kernel
theorem dX8_gossipOf_5 : decode cX8_gossipOf 5 = .ok (.lstore 4, 2) := by decide +kernel
theorem dX8_gossipOf_7 : decode cX8_gossipOf 7 = .ok (.iconst 0, 1) := by decide +kernel
theorem dX8_gossipOf_8 : decode cX8_gossipOf 8 = .ok (.istore 6, 2) := by decide +kernel
theorem dX8_gossipOf_10 : decode cX8_gossipOf 10 = .ok (.iload 6, 2) := by decide +kernel
theorem dX8_gossipOf_12 : decode cX8_gossipOf 12 = .ok (.iconst 1, 1) := by decide +kernel
theorem dX8_gossipOf_13 : decode cX8_gossipOf 13 = .ok (.aload_n 0, 1) := by decide +kernel
theorem dX8_gossipOf_14 : decode cX8_gossipOf 14 = .ok (.getfield 166, 3) := by decide +kernel
theorem dX8_gossipOf_17 : decode cX8_gossipOf 17 = .ok (.ishl, 1) := by decide +kernel
theorem dX8_gossipOf_18 : decode cX8_gossipOf 18 = .ok (.if_icmp .ge 92, 3) := by decide +kernel
theorem dX8_gossipOf_21 : decode cX8_gossipOf 21 = .ok (.lconst 1, 1) := by decide +kernel
theorem dX8_gossipOf_22 : decode cX8_gossipOf 22 = .ok (.lstore 7, 2) := by decide +kernel
theorem dX8_gossipOf_24 : decode cX8_gossipOf 24 = .ok (.iconst 0, 1) := by decide +kernel
theorem dX8_gossipOf_25 : decode cX8_gossipOf 25 = .ok (.istore 9, 2) := by decide +kernel
theorem dX8_gossipOf_27 : decode cX8_gossipOf 27 = .ok (.iload 9, 2) := by decide +kernel
theorem dX8_gossipOf_29 : decode cX8_gossipOf 29 = .ok (.aload_n 0, 1) := by decide +kernel
theorem dX8_gossipOf_30 : decode cX8_gossipOf 30 = .ok (.getfield 166, 3) := by decide +kernel
theorem dX8_gossipOf_33 : decode cX8_gossipOf 33 = .ok (.if_icmp .ge 34, 3) := by decide +kernel
theorem dX8_gossipOf_36 : decode cX8_gossipOf 36 = .ok (.lload 7, 2) := by decide +kernel
theorem dX8_gossipOf_38 : decode cX8_gossipOf 38 = .ok (.iload 6, 2) := by decide +kernel
theorem dX8_gossipOf_40 : decode cX8_gossipOf 40 = .ok (.iload 9, 2) := by decide +kernel
theorem dX8_gossipOf_42 : decode cX8_gossipOf 42 = .ok (.invokestatic 199, 3) := by decide +kernel
theorem dX8_gossipOf_45 : decode cX8_gossipOf 45 = .ok (.ifCond .eq 11, 3) := by decide +kernel
theorem dX8_gossipOf_48 : decode cX8_gossipOf 48 = .ok (.bipush 16, 2) := by decide +kernel
theorem dX8_gossipOf_50 : decode cX8_gossipOf 50 = .ok (.iload_n 1, 1) := by decide +kernel
theorem dX8_gossipOf_51 : decode cX8_gossipOf 51 = .ok (.isub, 1) := by decide +kernel
theorem dX8_gossipOf_52 : decode cX8_gossipOf 52 = .ok (.i2l, 1) := by decide +kernel
theorem dX8_gossipOf_53 : decode cX8_gossipOf 53 = .ok (.goto 5, 3) := by decide +kernel
theorem dX8_gossipOf_56 : decode cX8_gossipOf 56 = .ok (.iload_n 1, 1) := by decide +kernel
theorem dX8_gossipOf_57 : decode cX8_gossipOf 57 = .ok (.i2l, 1) := by decide +kernel
theorem dX8_gossipOf_58 : decode cX8_gossipOf 58 = .ok (.lmul, 1) := by decide +kernel
theorem dX8_gossipOf_59 : decode cX8_gossipOf 59 = .ok (.lstore 7, 2) := by decide +kernel
theorem dX8_gossipOf_61 : decode cX8_gossipOf 61 = .ok (.iinc 9 1, 3) := by decide +kernel
theorem dX8_gossipOf_64 : decode cX8_gossipOf 64 = .ok (.goto (-37), 3) := by decide +kernel
theorem dX8_gossipOf_67 : decode cX8_gossipOf 67 = .ok (.lload 7, 2) := by decide +kernel
theorem dX8_gossipOf_69 : decode cX8_gossipOf 69 = .ok (.lconst 0, 1) := by decide +kernel
theorem dX8_gossipOf_70 : decode cX8_gossipOf 70 = .ok (.lcmp, 1) := by decide +kernel
theorem dX8_gossipOf_71 : decode cX8_gossipOf 71 = .ok (.ifCond .le 33, 3) := by decide +kernel
theorem dX8_gossipOf_74 : decode cX8_gossipOf 74 = .ok (.aload_n 0, 1) := by decide +kernel
theorem dX8_gossipOf_75 : decode cX8_gossipOf 75 = .ok (.iload 6, 2) := by decide +kernel
theorem dX8_gossipOf_77 : decode cX8_gossipOf 77 = .ok (.putfield 182, 3) := by decide +kernel
theorem dX8_gossipOf_80 : decode cX8_gossipOf 80 = .ok (.aload_n 0, 1) := by decide +kernel
theorem dX8_gossipOf_81 : decode cX8_gossipOf 81 = .ok (.invokevirtual 216, 3) := by decide +kernel
theorem dX8_gossipOf_84 : decode cX8_gossipOf 84 = .ok (.lload 4, 2) := by decide +kernel
theorem dX8_gossipOf_86 : decode cX8_gossipOf 86 = .ok (.aload_n 0, 1) := by decide +kernel
theorem dX8_gossipOf_87 : decode cX8_gossipOf 87 = .ok (.iload_n 2, 1) := by decide +kernel
theorem dX8_gossipOf_88 : decode cX8_gossipOf 88 = .ok (.iconst 0, 1) := by decide +kernel
theorem dX8_gossipOf_89 : decode cX8_gossipOf 89 = .ok (.invokevirtual 241, 3) := by decide +kernel
theorem dX8_gossipOf_92 : decode cX8_gossipOf 92 = .ok (.ifCond .le 8, 3) := by decide +kernel
theorem dX8_gossipOf_95 : decode cX8_gossipOf 95 = .ok (.lload 7, 2) := by decide +kernel
theorem dX8_gossipOf_97 : decode cX8_gossipOf 97 = .ok (.goto 4, 3) := by decide +kernel
theorem dX8_gossipOf_100 : decode cX8_gossipOf 100 = .ok (.lconst 0, 1) := by decide +kernel
theorem dX8_gossipOf_101 : decode cX8_gossipOf 101 = .ok (.ladd, 1) := by decide +kernel
theorem dX8_gossipOf_102 : decode cX8_gossipOf 102 = .ok (.lstore 4, 2) := by decide +kernel
theorem dX8_gossipOf_104 : decode cX8_gossipOf 104 = .ok (.iinc 6 1, 3) := by decide +kernel
theorem dX8_gossipOf_107 : decode cX8_gossipOf 107 = .ok (.goto (-97), 3) := by decide +kernel
theorem dX8_gossipOf_110 : decode cX8_gossipOf 110 = .ok (.lload 4, 2) := by decide +kernel
theorem dX8_gossipOf_112 : decode cX8_gossipOf 112 = .ok (.lconst 1, 1) := by decide +kernel
theorem dX8_gossipOf_113 : decode cX8_gossipOf 113 = .ok (.iconst 4, 1) := by decide +kernel
theorem dX8_gossipOf_114 : decode cX8_gossipOf 114 = .ok (.aload_n 0, 1) := by decide +kernel
theorem dX8_gossipOf_115 : decode cX8_gossipOf 115 = .ok (.getfield 166, 3) := by decide +kernel
theorem dX8_gossipOf_118 : decode cX8_gossipOf 118 = .ok (.imul, 1) := by decide +kernel
theorem dX8_gossipOf_119 : decode cX8_gossipOf 119 = .ok (.lshl, 1) := by decide +kernel
theorem dX8_gossipOf_120 : decode cX8_gossipOf 120 = .ok (.iload_n 3, 1) := by decide +kernel
theorem dX8_gossipOf_121 : decode cX8_gossipOf 121 = .ok (.invokestatic 309, 3) := by decide +kernel
theorem dX8_gossipOf_124 : decode cX8_gossipOf 124 = .ok (.lreturn, 1) := by decide +kernel
theorem dX8_gossip_0 : decode cX8_gossip 0 = .ok (.iload_n 1, 1) := by decide +kernel
theorem dX8_gossip_1 : decode cX8_gossip 1 = .ok (.iconst 0, 1) := by decide +kernel
theorem dX8_gossip_2 : decode cX8_gossip 2 = .ok (.bipush 16, 2) := by decide +kernel
theorem dX8_gossip_4 : decode cX8_gossip 4 = .ok (.invokestatic 124, 3) := by decide +kernel
theorem dX8_gossip_7 : decode cX8_gossip 7 = .ok (.ifCond .eq 29, 3) := by decide +kernel
theorem dX8_gossip_10 : decode cX8_gossip 10 = .ok (.iload_n 2, 1) := by decide +kernel
theorem dX8_gossip_11 : decode cX8_gossip 11 = .ok (.invokestatic 160, 3) := by decide +kernel
theorem dX8_gossip_14 : decode cX8_gossip 14 = .ok (.ifCond .eq 22, 3) := by decide +kernel
theorem dX8_gossip_17 : decode cX8_gossip 17 = .ok (.iload_n 3, 1) := by decide +kernel
theorem dX8_gossip_18 : decode cX8_gossip 18 = .ok (.iconst 0, 1) := by decide +kernel
theorem dX8_gossip_19 : decode cX8_gossip 19 = .ok (.iconst 1, 1) := by decide +kernel
theorem dX8_gossip_20 : decode cX8_gossip 20 = .ok (.invokestatic 124, 3) := by decide +kernel
theorem dX8_gossip_23 : decode cX8_gossip 23 = .ok (.ifCond .eq 13, 3) := by decide +kernel
theorem dX8_gossip_26 : decode cX8_gossip 26 = .ok (.aload_n 0, 1) := by decide +kernel
theorem dX8_gossip_27 : decode cX8_gossip 27 = .ok (.iload_n 1, 1) := by decide +kernel
theorem dX8_gossip_28 : decode cX8_gossip 28 = .ok (.iload_n 2, 1) := by decide +kernel
theorem dX8_gossip_29 : decode cX8_gossip 29 = .ok (.iload_n 3, 1) := by decide +kernel
theorem dX8_gossip_30 : decode cX8_gossip 30 = .ok (.invokevirtual 313, 3) := by decide +kernel
theorem dX8_gossip_33 : decode cX8_gossip 33 = .ok (.goto 8, 3) := by decide +kernel
theorem dX8_gossip_36 : decode cX8_gossip 36 = .ok (.bipush (-2), 2) := by decide +kernel
theorem dX8_gossip_38 : decode cX8_gossip 38 = .ok (.invokestatic 317, 3) := by decide +kernel
theorem dX8_gossip_41 : decode cX8_gossip 41 = .ok (.lreturn, 1) := by decide +kernel
theorem dX8_ones_0 : decode cX8_ones 0 = .ok (.iconst 0, 1) := by decide +kernel
theorem dX8_ones_1 : decode cX8_ones 1 = .ok (.istore_n 2, 1) := by decide +kernel
theorem dX8_ones_2 : decode cX8_ones 2 = .ok (.iconst 0, 1) := by decide +kernel
theorem dX8_ones_3 : decode cX8_ones 3 = .ok (.istore_n 3, 1) := by decide +kernel
theorem dX8_ones_4 : decode cX8_ones 4 = .ok (.iload_n 3, 1) := by decide +kernel
theorem dX8_ones_5 : decode cX8_ones 5 = .ok (.bipush 8, 2) := by decide +kernel
theorem dX8_ones_7 : decode cX8_ones 7 = .ok (.if_icmp .ge 25, 3) := by decide +kernel
theorem dX8_ones_10 : decode cX8_ones 10 = .ok (.iload_n 2, 1) := by decide +kernel
theorem dX8_ones_11 : decode cX8_ones 11 = .ok (.iload_n 1, 1) := by decide +kernel
theorem dX8_ones_12 : decode cX8_ones 12 = .ok (.iload_n 3, 1) := by decide +kernel
theorem dX8_ones_13 : decode cX8_ones 13 = .ok (.invokestatic 199, 3) := by decide +kernel
theorem dX8_ones_16 : decode cX8_ones 16 = .ok (.ifCond .eq 7, 3) := by decide +kernel
theorem dX8_ones_19 : decode cX8_ones 19 = .ok (.iconst 1, 1) := by decide +kernel
theorem dX8_ones_20 : decode cX8_ones 20 = .ok (.goto 4, 3) := by decide +kernel
theorem dX8_ones_23 : decode cX8_ones 23 = .ok (.iconst 0, 1) := by decide +kernel
theorem dX8_ones_24 : decode cX8_ones 24 = .ok (.iadd, 1) := by decide +kernel
theorem dX8_ones_25 : decode cX8_ones 25 = .ok (.istore_n 2, 1) := by decide +kernel
theorem dX8_ones_26 : decode cX8_ones 26 = .ok (.iinc 3 1, 3) := by decide +kernel
theorem dX8_ones_29 : decode cX8_ones 29 = .ok (.goto (-25), 3) := by decide +kernel
theorem dX8_ones_32 : decode cX8_ones 32 = .ok (.iload_n 2, 1) := by decide +kernel
theorem dX8_ones_33 : decode cX8_ones 33 = .ok (.ireturn, 1) := by decide +kernel
theorem dX8_agesOf_0 : decode cX8_agesOf 0 = .ok (.aload_n 0, 1) := by decide +kernel
theorem dX8_agesOf_1 : decode cX8_agesOf 1 = .ok (.invokevirtual 213, 3) := by decide +kernel
theorem dX8_agesOf_4 : decode cX8_agesOf 4 = .ok (.iload_n 1, 1) := by decide +kernel
theorem dX8_agesOf_5 : decode cX8_agesOf 5 = .ok (.istore 4, 2) := by decide +kernel
theorem dX8_agesOf_7 : decode cX8_agesOf 7 = .ok (.aload_n 0, 1) := by decide +kernel
theorem dX8_agesOf_8 : decode cX8_agesOf 8 = .ok (.aload_n 0, 1) := by decide +kernel
theorem dX8_agesOf_9 : decode cX8_agesOf 9 = .ok (.getfield 139, 3) := by decide +kernel
theorem dX8_agesOf_12 : decode cX8_agesOf 12 = .ok (.ifCond .ne 7, 3) := by decide +kernel
theorem dX8_agesOf_15 : decode cX8_agesOf 15 = .ok (.iconst 0, 1) := by decide +kernel
theorem dX8_agesOf_16 : decode cX8_agesOf 16 = .ok (.goto 4, 3) := by decide +kernel
theorem dX8_agesOf_19 : decode cX8_agesOf 19 = .ok (.iload_n 2, 1) := by decide +kernel
theorem dX8_agesOf_20 : decode cX8_agesOf 20 = .ok (.putfield 179, 3) := by decide +kernel
theorem dX8_agesOf_23 : decode cX8_agesOf 23 = .ok (.iconst 0, 1) := by decide +kernel
theorem dX8_agesOf_24 : decode cX8_agesOf 24 = .ok (.istore 5, 2) := by decide +kernel
theorem dX8_agesOf_26 : decode cX8_agesOf 26 = .ok (.iload 5, 2) := by decide +kernel
theorem dX8_agesOf_28 : decode cX8_agesOf 28 = .ok (.aload_n 0, 1) := by decide +kernel
theorem dX8_agesOf_29 : decode cX8_agesOf 29 = .ok (.getfield 179, 3) := by decide +kernel
theorem dX8_agesOf_32 : decode cX8_agesOf 32 = .ok (.if_icmp .ge 118, 3) := by decide +kernel
theorem dX8_agesOf_35 : decode cX8_agesOf 35 = .ok (.ldc_w 321, 3) := by decide +kernel
theorem dX8_agesOf_38 : decode cX8_agesOf 38 = .ok (.iload 4, 2) := by decide +kernel
theorem dX8_agesOf_40 : decode cX8_agesOf 40 = .ok (.imul, 1) := by decide +kernel
theorem dX8_agesOf_41 : decode cX8_agesOf 41 = .ok (.sipush 12345, 3) := by decide +kernel
theorem dX8_agesOf_44 : decode cX8_agesOf 44 = .ok (.iadd, 1) := by decide +kernel
theorem dX8_agesOf_45 : decode cX8_agesOf 45 = .ok (.istore 4, 2) := by decide +kernel
theorem dX8_agesOf_47 : decode cX8_agesOf 47 = .ok (.aload_n 0, 1) := by decide +kernel
theorem dX8_agesOf_48 : decode cX8_agesOf 48 = .ok (.getfield 37, 3) := by decide +kernel
theorem dX8_agesOf_51 : decode cX8_agesOf 51 = .ok (.iload 5, 2) := by decide +kernel
theorem dX8_agesOf_53 : decode cX8_agesOf 53 = .ok (.iload 4, 2) := by decide +kernel
theorem dX8_agesOf_55 : decode cX8_agesOf 55 = .ok (.bipush 16, 2) := by decide +kernel
theorem dX8_agesOf_57 : decode cX8_agesOf 57 = .ok (.iushr, 1) := by decide +kernel
theorem dX8_agesOf_58 : decode cX8_agesOf 58 = .ok (.iconst 3, 1) := by decide +kernel
theorem dX8_agesOf_59 : decode cX8_agesOf 59 = .ok (.irem, 1) := by decide +kernel
theorem dX8_agesOf_60 : decode cX8_agesOf 60 = .ok (.iastore, 1) := by decide +kernel
theorem dX8_agesOf_61 : decode cX8_agesOf 61 = .ok (.ldc_w 321, 3) := by decide +kernel
theorem dX8_agesOf_64 : decode cX8_agesOf 64 = .ok (.iload 4, 2) := by decide +kernel
theorem dX8_agesOf_66 : decode cX8_agesOf 66 = .ok (.imul, 1) := by decide +kernel
theorem dX8_agesOf_67 : decode cX8_agesOf 67 = .ok (.sipush 12345, 3) := by decide +kernel
theorem dX8_agesOf_70 : decode cX8_agesOf 70 = .ok (.iadd, 1) := by decide +kernel
theorem dX8_agesOf_71 : decode cX8_agesOf 71 = .ok (.istore 4, 2) := by decide +kernel
theorem dX8_agesOf_73 : decode cX8_agesOf 73 = .ok (.aload_n 0, 1) := by decide +kernel
theorem dX8_agesOf_74 : decode cX8_agesOf 74 = .ok (.getfield 40, 3) := by decide +kernel
theorem dX8_agesOf_77 : decode cX8_agesOf 77 = .ok (.iload 5, 2) := by decide +kernel
theorem dX8_agesOf_79 : decode cX8_agesOf 79 = .ok (.iload 4, 2) := by decide +kernel
theorem dX8_agesOf_81 : decode cX8_agesOf 81 = .ok (.bipush 16, 2) := by decide +kernel
theorem dX8_agesOf_83 : decode cX8_agesOf 83 = .ok (.iushr, 1) := by decide +kernel
theorem dX8_agesOf_84 : decode cX8_agesOf 84 = .ok (.bipush 20, 2) := by decide +kernel
theorem dX8_agesOf_86 : decode cX8_agesOf 86 = .ok (.irem, 1) := by decide +kernel
theorem dX8_agesOf_87 : decode cX8_agesOf 87 = .ok (.iastore, 1) := by decide +kernel
theorem dX8_agesOf_88 : decode cX8_agesOf 88 = .ok (.ldc_w 321, 3) := by decide +kernel
theorem dX8_agesOf_91 : decode cX8_agesOf 91 = .ok (.iload 4, 2) := by decide +kernel
theorem dX8_agesOf_93 : decode cX8_agesOf 93 = .ok (.imul, 1) := by decide +kernel
theorem dX8_agesOf_94 : decode cX8_agesOf 94 = .ok (.sipush 12345, 3) := by decide +kernel
theorem dX8_agesOf_97 : decode cX8_agesOf 97 = .ok (.iadd, 1) := by decide +kernel
theorem dX8_agesOf_98 : decode cX8_agesOf 98 = .ok (.istore 4, 2) := by decide +kernel
theorem dX8_agesOf_100 : decode cX8_agesOf 100 = .ok (.aload_n 0, 1) := by decide +kernel
theorem dX8_agesOf_101 : decode cX8_agesOf 101 = .ok (.getfield 43, 3) := by decide +kernel
theorem dX8_agesOf_104 : decode cX8_agesOf 104 = .ok (.iload 5, 2) := by decide +kernel
theorem dX8_agesOf_106 : decode cX8_agesOf 106 = .ok (.iload 4, 2) := by decide +kernel
theorem dX8_agesOf_108 : decode cX8_agesOf 108 = .ok (.bipush 16, 2) := by decide +kernel
theorem dX8_agesOf_110 : decode cX8_agesOf 110 = .ok (.iushr, 1) := by decide +kernel
theorem dX8_agesOf_111 : decode cX8_agesOf 111 = .ok (.aload_n 0, 1) := by decide +kernel
theorem dX8_agesOf_112 : decode cX8_agesOf 112 = .ok (.getfield 139, 3) := by decide +kernel
theorem dX8_agesOf_115 : decode cX8_agesOf 115 = .ok (.irem, 1) := by decide +kernel
theorem dX8_agesOf_116 : decode cX8_agesOf 116 = .ok (.iastore, 1) := by decide +kernel
theorem dX8_agesOf_117 : decode cX8_agesOf 117 = .ok (.ldc_w 321, 3) := by decide +kernel
theorem dX8_agesOf_120 : decode cX8_agesOf 120 = .ok (.iload 4, 2) := by decide +kernel
theorem dX8_agesOf_122 : decode cX8_agesOf 122 = .ok (.imul, 1) := by decide +kernel
theorem dX8_agesOf_123 : decode cX8_agesOf 123 = .ok (.sipush 12345, 3) := by decide +kernel
theorem dX8_agesOf_126 : decode cX8_agesOf 126 = .ok (.iadd, 1) := by decide +kernel
theorem dX8_agesOf_127 : decode cX8_agesOf 127 = .ok (.istore 4, 2) := by decide +kernel
theorem dX8_agesOf_129 : decode cX8_agesOf 129 = .ok (.aload_n 0, 1) := by decide +kernel
theorem dX8_agesOf_130 : decode cX8_agesOf 130 = .ok (.getfield 46, 3) := by decide +kernel
theorem dX8_agesOf_133 : decode cX8_agesOf 133 = .ok (.iload 5, 2) := by decide +kernel
theorem dX8_agesOf_135 : decode cX8_agesOf 135 = .ok (.iload 4, 2) := by decide +kernel
theorem dX8_agesOf_137 : decode cX8_agesOf 137 = .ok (.bipush 16, 2) := by decide +kernel
theorem dX8_agesOf_139 : decode cX8_agesOf 139 = .ok (.iushr, 1) := by decide +kernel
theorem dX8_agesOf_140 : decode cX8_agesOf 140 = .ok (.bipush 10, 2) := by decide +kernel
theorem dX8_agesOf_142 : decode cX8_agesOf 142 = .ok (.irem, 1) := by decide +kernel
theorem dX8_agesOf_143 : decode cX8_agesOf 143 = .ok (.iastore, 1) := by decide +kernel
theorem dX8_agesOf_144 : decode cX8_agesOf 144 = .ok (.iinc 5 1, 3) := by decide +kernel
theorem dX8_agesOf_147 : decode cX8_agesOf 147 = .ok (.goto (-121), 3) := by decide +kernel
theorem dX8_agesOf_150 : decode cX8_agesOf 150 = .ok (.aload_n 0, 1) := by decide +kernel
theorem dX8_agesOf_151 : decode cX8_agesOf 151 = .ok (.invokevirtual 216, 3) := by decide +kernel
theorem dX8_agesOf_154 : decode cX8_agesOf 154 = .ok (.iload_n 3, 1) := by decide +kernel
theorem dX8_agesOf_155 : decode cX8_agesOf 155 = .ok (.ifCond .ne 13, 3) := by decide +kernel
theorem dX8_agesOf_158 : decode cX8_agesOf 158 = .ok (.aload_n 0, 1) := by decide +kernel
theorem dX8_agesOf_159 : decode cX8_agesOf 159 = .ok (.bipush 19, 2) := by decide +kernel
theorem dX8_agesOf_161 : decode cX8_agesOf 161 = .ok (.iconst 0, 1) := by decide +kernel
theorem dX8_agesOf_162 : decode cX8_agesOf 162 = .ok (.invokevirtual 241, 3) := by decide +kernel
theorem dX8_agesOf_165 : decode cX8_agesOf 165 = .ok (.goto 13, 3) := by decide +kernel
theorem dX8_agesOf_168 : decode cX8_agesOf 168 = .ok (.aload_n 0, 1) := by decide +kernel
theorem dX8_agesOf_169 : decode cX8_agesOf 169 = .ok (.aload_n 0, 1) := by decide +kernel
theorem dX8_agesOf_170 : decode cX8_agesOf 170 = .ok (.bipush 19, 2) := by decide +kernel
theorem dX8_agesOf_172 : decode cX8_agesOf 172 = .ok (.invokevirtual 247, 3) := by decide +kernel
theorem dX8_agesOf_175 : decode cX8_agesOf 175 = .ok (.invokevirtual 322, 3) := by decide +kernel
theorem dX8_agesOf_178 : decode cX8_agesOf 178 = .ok (.ireturn, 1) := by decide +kernel
theorem dX8_ages_0 : decode cX8_ages 0 = .ok (.iload_n 2, 1) := by decide +kernel
theorem dX8_ages_1 : decode cX8_ages 1 = .ok (.iconst 0, 1) := by decide +kernel
theorem dX8_ages_2 : decode cX8_ages 2 = .ok (.bipush 8, 2) := by decide +kernel
theorem dX8_ages_4 : decode cX8_ages 4 = .ok (.invokestatic 124, 3) := by decide +kernel
theorem dX8_ages_7 : decode cX8_ages 7 = .ok (.ifCond .eq 22, 3) := by decide +kernel
theorem dX8_ages_10 : decode cX8_ages 10 = .ok (.iload_n 3, 1) := by decide +kernel
theorem dX8_ages_11 : decode cX8_ages 11 = .ok (.iconst 0, 1) := by decide +kernel
theorem dX8_ages_12 : decode cX8_ages 12 = .ok (.iconst 1, 1) := by decide +kernel
theorem dX8_ages_13 : decode cX8_ages 13 = .ok (.invokestatic 124, 3) := by decide +kernel
theorem dX8_ages_16 : decode cX8_ages 16 = .ok (.ifCond .eq 13, 3) := by decide +kernel
theorem dX8_ages_19 : decode cX8_ages 19 = .ok (.aload_n 0, 1) := by decide +kernel
theorem dX8_ages_20 : decode cX8_ages 20 = .ok (.iload_n 1, 1) := by decide +kernel
theorem dX8_ages_21 : decode cX8_ages 21 = .ok (.iload_n 2, 1) := by decide +kernel
theorem dX8_ages_22 : decode cX8_ages 22 = .ok (.iload_n 3, 1) := by decide +kernel
theorem dX8_ages_23 : decode cX8_ages 23 = .ok (.invokevirtual 325, 3) := by decide +kernel
theorem dX8_ages_26 : decode cX8_ages 26 = .ok (.goto 5, 3) := by decide +kernel
theorem dX8_ages_29 : decode cX8_ages 29 = .ok (.bipush (-2), 2) := by decide +kernel
theorem dX8_ages_31 : decode cX8_ages 31 = .ok (.ireturn, 1) := by decide +kernel
theorem dX8_marks_0 : decode cX8_marks 0 = .ok (.aload_n 0, 1) := by decide +kernel
theorem dX8_marks_1 : decode cX8_marks 1 = .ok (.iload_n 1, 1) := by decide +kernel
theorem dX8_marks_2 : decode cX8_marks 2 = .ok (.putfield 328, 3) := by decide +kernel
theorem dX8_marks_5 : decode cX8_marks 5 = .ok (.bipush (-10), 2) := by decide +kernel
theorem dX8_marks_7 : decode cX8_marks 7 = .ok (.iload_n 1, 1) := by decide +kernel
theorem dX8_marks_8 : decode cX8_marks 8 = .ok (.isub, 1) := by decide +kernel
theorem dX8_marks_9 : decode cX8_marks 9 = .ok (.ireturn, 1) := by decide +kernel
theorem dX8_isSheet_0 : decode cX8_isSheet 0 = .ok (.iload_n 0, 1) := by decide +kernel
theorem dX8_isSheet_1 : decode cX8_isSheet 1 = .ok (.iconst 0, 1) := by decide +kernel
theorem dX8_isSheet_2 : decode cX8_isSheet 2 = .ok (.iconst 3, 1) := by decide +kernel
theorem dX8_isSheet_3 : decode cX8_isSheet 3 = .ok (.invokestatic 124, 3) := by decide +kernel
theorem dX8_isSheet_6 : decode cX8_isSheet 6 = .ok (.ireturn, 1) := by decide +kernel
theorem dX8_sheet_0 : decode cX8_sheet 0 = .ok (.iload_n 1, 1) := by decide +kernel
theorem dX8_sheet_1 : decode cX8_sheet 1 = .ok (.invokestatic 169, 3) := by decide +kernel
theorem dX8_sheet_4 : decode cX8_sheet 4 = .ok (.ifCond .eq 18, 3) := by decide +kernel
theorem dX8_sheet_7 : decode cX8_sheet 7 = .ok (.iload_n 2, 1) := by decide +kernel
theorem dX8_sheet_8 : decode cX8_sheet 8 = .ok (.iconst 0, 1) := by decide +kernel
theorem dX8_sheet_9 : decode cX8_sheet 9 = .ok (.iconst 2, 1) := by decide +kernel
theorem dX8_sheet_10 : decode cX8_sheet 10 = .ok (.invokestatic 124, 3) := by decide +kernel
theorem dX8_sheet_13 : decode cX8_sheet 13 = .ok (.ifCond .eq 9, 3) := by decide +kernel
theorem dX8_sheet_16 : decode cX8_sheet 16 = .ok (.iload_n 3, 1) := by decide +kernel
theorem dX8_sheet_17 : decode cX8_sheet 17 = .ok (.bipush 60, 2) := by decide +kernel
theorem dX8_sheet_19 : decode cX8_sheet 19 = .ok (.if_icmp .le 6, 3) := by decide +kernel
theorem dX8_sheet_22 : decode cX8_sheet 22 = .ok (.bipush (-2), 2) := by decide +kernel
theorem dX8_sheet_24 : decode cX8_sheet 24 = .ok (.ireturn, 1) := by decide +kernel
theorem dX8_sheet_25 : decode cX8_sheet 25 = .ok (.iload_n 3, 1) := by decide +kernel
theorem dX8_sheet_26 : decode cX8_sheet 26 = .ok (.ifCond .ge 9, 3) := by decide +kernel
theorem dX8_sheet_29 : decode cX8_sheet 29 = .ok (.aload_n 0, 1) := by decide +kernel
theorem dX8_sheet_30 : decode cX8_sheet 30 = .ok (.iconst 5, 1) := by decide +kernel
theorem dX8_sheet_31 : decode cX8_sheet 31 = .ok (.invokevirtual 172, 3) := by decide +kernel
theorem dX8_sheet_34 : decode cX8_sheet 34 = .ok (.ireturn, 1) := by decide +kernel
theorem dX8_sheet_35 : decode cX8_sheet 35 = .ok (.aload_n 0, 1) := by decide +kernel
theorem dX8_sheet_36 : decode cX8_sheet 36 = .ok (.getfield 106, 3) := by decide +kernel
theorem dX8_sheet_39 : decode cX8_sheet 39 = .ok (.iload_n 1, 1) := by decide +kernel
theorem dX8_sheet_40 : decode cX8_sheet 40 = .ok (.iconst 1, 1) := by decide +kernel
theorem dX8_sheet_41 : decode cX8_sheet 41 = .ok (.bastore, 1) := by decide +kernel
theorem dX8_sheet_42 : decode cX8_sheet 42 = .ok (.aload_n 0, 1) := by decide +kernel
theorem dX8_sheet_43 : decode cX8_sheet 43 = .ok (.getfield 110, 3) := by decide +kernel
theorem dX8_sheet_46 : decode cX8_sheet 46 = .ok (.iload_n 1, 1) := by decide +kernel
theorem dX8_sheet_47 : decode cX8_sheet 47 = .ok (.iload_n 2, 1) := by decide +kernel
theorem dX8_sheet_48 : decode cX8_sheet 48 = .ok (.iastore, 1) := by decide +kernel
theorem dX8_sheet_49 : decode cX8_sheet 49 = .ok (.aload_n 0, 1) := by decide +kernel
theorem dX8_sheet_50 : decode cX8_sheet 50 = .ok (.getfield 113, 3) := by decide +kernel
theorem dX8_sheet_53 : decode cX8_sheet 53 = .ok (.iload_n 1, 1) := by decide +kernel
theorem dX8_sheet_54 : decode cX8_sheet 54 = .ok (.iload_n 3, 1) := by decide +kernel
theorem dX8_sheet_55 : decode cX8_sheet 55 = .ok (.iastore, 1) := by decide +kernel
theorem dX8_sheet_56 : decode cX8_sheet 56 = .ok (.iconst 0, 1) := by decide +kernel
theorem dX8_sheet_57 : decode cX8_sheet 57 = .ok (.istore 4, 2) := by decide +kernel
theorem dX8_sheet_59 : decode cX8_sheet 59 = .ok (.iload 4, 2) := by decide +kernel
theorem dX8_sheet_61 : decode cX8_sheet 61 = .ok (.bipush 60, 2) := by decide +kernel
theorem dX8_sheet_63 : decode cX8_sheet 63 = .ok (.if_icmp .ge 22, 3) := by decide +kernel
theorem dX8_sheet_66 : decode cX8_sheet 66 = .ok (.aload_n 0, 1) := by decide +kernel
theorem dX8_sheet_67 : decode cX8_sheet 67 = .ok (.getfield 116, 3) := by decide +kernel
theorem dX8_sheet_70 : decode cX8_sheet 70 = .ok (.bipush 60, 2) := by decide +kernel
theorem dX8_sheet_72 : decode cX8_sheet 72 = .ok (.iload_n 1, 1) := by decide +kernel
theorem dX8_sheet_73 : decode cX8_sheet 73 = .ok (.imul, 1) := by decide +kernel
theorem dX8_sheet_74 : decode cX8_sheet 74 = .ok (.iload 4, 2) := by decide +kernel
theorem dX8_sheet_76 : decode cX8_sheet 76 = .ok (.iadd, 1) := by decide +kernel
theorem dX8_sheet_77 : decode cX8_sheet 77 = .ok (.iconst 0, 1) := by decide +kernel
theorem dX8_sheet_78 : decode cX8_sheet 78 = .ok (.iastore, 1) := by decide +kernel
theorem dX8_sheet_79 : decode cX8_sheet 79 = .ok (.iinc 4 1, 3) := by decide +kernel
theorem dX8_sheet_82 : decode cX8_sheet 82 = .ok (.goto (-23), 3) := by decide +kernel
theorem dX8_sheet_85 : decode cX8_sheet 85 = .ok (.iload_n 3, 1) := by decide +kernel
theorem dX8_sheet_86 : decode cX8_sheet 86 = .ok (.ireturn, 1) := by decide +kernel
theorem dX8_lose_0 : decode cX8_lose 0 = .ok (.iload_n 1, 1) := by decide +kernel
theorem dX8_lose_1 : decode cX8_lose 1 = .ok (.invokestatic 169, 3) := by decide +kernel
theorem dX8_lose_4 : decode cX8_lose 4 = .ok (.ifCond .ne 6, 3) := by decide +kernel
theorem dX8_lose_7 : decode cX8_lose 7 = .ok (.bipush (-2), 2) := by decide +kernel
theorem dX8_lose_9 : decode cX8_lose 9 = .ok (.ireturn, 1) := by decide +kernel
theorem dX8_lose_10 : decode cX8_lose 10 = .ok (.aload_n 0, 1) := by decide +kernel
theorem dX8_lose_11 : decode cX8_lose 11 = .ok (.getfield 106, 3) := by decide +kernel
theorem dX8_lose_14 : decode cX8_lose 14 = .ok (.iload_n 1, 1) := by decide +kernel
theorem dX8_lose_15 : decode cX8_lose 15 = .ok (.baload, 1) := by decide +kernel
theorem dX8_lose_16 : decode cX8_lose 16 = .ok (.ifCond .ne 9, 3) := by decide +kernel
theorem dX8_lose_19 : decode cX8_lose 19 = .ok (.aload_n 0, 1) := by decide +kernel
theorem dX8_lose_20 : decode cX8_lose 20 = .ok (.iconst 1, 1) := by decide +kernel
theorem dX8_lose_21 : decode cX8_lose 21 = .ok (.invokevirtual 172, 3) := by decide +kernel
theorem dX8_lose_24 : decode cX8_lose 24 = .ok (.ireturn, 1) := by decide +kernel
theorem dX8_lose_25 : decode cX8_lose 25 = .ok (.aload_n 0, 1) := by decide +kernel
theorem dX8_lose_26 : decode cX8_lose 26 = .ok (.getfield 106, 3) := by decide +kernel
theorem dX8_lose_29 : decode cX8_lose 29 = .ok (.iload_n 1, 1) := by decide +kernel
theorem dX8_lose_30 : decode cX8_lose 30 = .ok (.iconst 0, 1) := by decide +kernel
theorem dX8_lose_31 : decode cX8_lose 31 = .ok (.bastore, 1) := by decide +kernel
theorem dX8_lose_32 : decode cX8_lose 32 = .ok (.aload_n 0, 1) := by decide +kernel
theorem dX8_lose_33 : decode cX8_lose 33 = .ok (.getfield 113, 3) := by decide +kernel
theorem dX8_lose_36 : decode cX8_lose 36 = .ok (.iload_n 1, 1) := by decide +kernel
theorem dX8_lose_37 : decode cX8_lose 37 = .ok (.iaload, 1) := by decide +kernel
theorem dX8_lose_38 : decode cX8_lose 38 = .ok (.ireturn, 1) := by decide +kernel
theorem dX8_lacks_0 : decode cX8_lacks 0 = .ok (.aload_n 0, 1) := by decide +kernel
theorem dX8_lacks_1 : decode cX8_lacks 1 = .ok (.getfield 106, 3) := by decide +kernel
theorem dX8_lacks_4 : decode cX8_lacks 4 = .ok (.iload_n 1, 1) := by decide +kernel
theorem dX8_lacks_5 : decode cX8_lacks 5 = .ok (.baload, 1) := by decide +kernel
theorem dX8_lacks_6 : decode cX8_lacks 6 = .ok (.ifCond .ne 7, 3) := by decide +kernel
theorem dX8_lacks_9 : decode cX8_lacks 9 = .ok (.iconst 1, 1) := by decide +kernel
theorem dX8_lacks_10 : decode cX8_lacks 10 = .ok (.goto 38, 3) := by decide +kernel
theorem dX8_lacks_13 : decode cX8_lacks 13 = .ok (.aload_n 0, 1) := by decide +kernel
theorem dX8_lacks_14 : decode cX8_lacks 14 = .ok (.getfield 110, 3) := by decide +kernel
theorem dX8_lacks_17 : decode cX8_lacks 17 = .ok (.iload_n 1, 1) := by decide +kernel
theorem dX8_lacks_18 : decode cX8_lacks 18 = .ok (.iaload, 1) := by decide +kernel
theorem dX8_lacks_19 : decode cX8_lacks 19 = .ok (.iload_n 2, 1) := by decide +kernel
theorem dX8_lacks_20 : decode cX8_lacks 20 = .ok (.if_icmp .eq 7, 3) := by decide +kernel
theorem dX8_lacks_23 : decode cX8_lacks 23 = .ok (.iconst 3, 1) := by decide +kernel
theorem dX8_lacks_24 : decode cX8_lacks 24 = .ok (.goto 24, 3) := by decide +kernel
theorem dX8_lacks_27 : decode cX8_lacks 27 = .ok (.iload_n 3, 1) := by decide +kernel
theorem dX8_lacks_28 : decode cX8_lacks 28 = .ok (.iconst 0, 1) := by decide +kernel
theorem dX8_lacks_29 : decode cX8_lacks 29 = .ok (.aload_n 0, 1) := by decide +kernel
theorem dX8_lacks_30 : decode cX8_lacks 30 = .ok (.getfield 113, 3) := by decide +kernel
theorem dX8_lacks_33 : decode cX8_lacks 33 = .ok (.iload_n 1, 1) := by decide +kernel
theorem dX8_lacks_34 : decode cX8_lacks 34 = .ok (.iaload, 1) := by decide +kernel
theorem dX8_lacks_35 : decode cX8_lacks 35 = .ok (.iconst 1, 1) := by decide +kernel
theorem dX8_lacks_36 : decode cX8_lacks 36 = .ok (.isub, 1) := by decide +kernel
theorem dX8_lacks_37 : decode cX8_lacks 37 = .ok (.invokestatic 124, 3) := by decide +kernel
theorem dX8_lacks_40 : decode cX8_lacks 40 = .ok (.ifCond .eq 7, 3) := by decide +kernel
theorem dX8_lacks_43 : decode cX8_lacks 43 = .ok (.iconst 0, 1) := by decide +kernel
theorem dX8_lacks_44 : decode cX8_lacks 44 = .ok (.goto 4, 3) := by decide +kernel
theorem dX8_lacks_47 : decode cX8_lacks 47 = .ok (.iconst 2, 1) := by decide +kernel
theorem dX8_lacks_48 : decode cX8_lacks 48 = .ok (.ireturn, 1) := by decide +kernel
theorem dX8_keep_0 : decode cX8_keep 0 = .ok (.aload_n 0, 1) := by decide +kernel
theorem dX8_keep_1 : decode cX8_keep 1 = .ok (.getfield 116, 3) := by decide +kernel
theorem dX8_keep_4 : decode cX8_keep 4 = .ok (.bipush 60, 2) := by decide +kernel
theorem dX8_keep_6 : decode cX8_keep 6 = .ok (.iload_n 1, 1) := by decide +kernel
theorem dX8_keep_7 : decode cX8_keep 7 = .ok (.imul, 1) := by decide +kernel
theorem dX8_keep_8 : decode cX8_keep 8 = .ok (.iload_n 2, 1) := by decide +kernel
theorem dX8_keep_9 : decode cX8_keep 9 = .ok (.iadd, 1) := by decide +kernel
theorem dX8_keep_10 : decode cX8_keep 10 = .ok (.aload_n 0, 1) := by decide +kernel
theorem dX8_keep_11 : decode cX8_keep 11 = .ok (.getfield 110, 3) := by decide +kernel
theorem dX8_keep_14 : decode cX8_keep 14 = .ok (.iload_n 1, 1) := by decide +kernel
theorem dX8_keep_15 : decode cX8_keep 15 = .ok (.iaload, 1) := by decide +kernel
theorem dX8_keep_16 : decode cX8_keep 16 = .ok (.ifCond .ne 8, 3) := by decide +kernel
theorem dX8_keep_19 : decode cX8_keep 19 = .ok (.iload_n 3, 1) := by decide +kernel
theorem dX8_keep_20 : decode cX8_keep 20 = .ok (.i2b, 1) := by decide +kernel
theorem dX8_keep_21 : decode cX8_keep 21 = .ok (.goto 19, 3) := by decide +kernel
theorem dX8_keep_24 : decode cX8_keep 24 = .ok (.aload_n 0, 1) := by decide +kernel
theorem dX8_keep_25 : decode cX8_keep 25 = .ok (.getfield 110, 3) := by decide +kernel
theorem dX8_keep_28 : decode cX8_keep 28 = .ok (.iload_n 1, 1) := by decide +kernel
theorem dX8_keep_29 : decode cX8_keep 29 = .ok (.iaload, 1) := by decide +kernel
theorem dX8_keep_30 : decode cX8_keep 30 = .ok (.iconst 1, 1) := by decide +kernel
theorem dX8_keep_31 : decode cX8_keep 31 = .ok (.if_icmp .ne 8, 3) := by decide +kernel
theorem dX8_keep_34 : decode cX8_keep 34 = .ok (.iload_n 3, 1) := by decide +kernel
theorem dX8_keep_35 : decode cX8_keep 35 = .ok (.i2s, 1) := by decide +kernel
theorem dX8_keep_36 : decode cX8_keep 36 = .ok (.goto 4, 3) := by decide +kernel
theorem dX8_keep_39 : decode cX8_keep 39 = .ok (.iload_n 3, 1) := by decide +kernel
theorem dX8_keep_40 : decode cX8_keep 40 = .ok (.iastore, 1) := by decide +kernel
theorem dX8_keep_41 : decode cX8_keep 41 = .ok (.return_, 1) := by decide +kernel
theorem dX8_put_0 : decode cX8_put 0 = .ok (.iload_n 1, 1) := by decide +kernel
theorem dX8_put_1 : decode cX8_put 1 = .ok (.invokestatic 169, 3) := by decide +kernel
theorem dX8_put_4 : decode cX8_put 4 = .ok (.ifCond .eq 12, 3) := by decide +kernel
theorem dX8_put_7 : decode cX8_put 7 = .ok (.iload_n 2, 1) := by decide +kernel
theorem dX8_put_8 : decode cX8_put 8 = .ok (.iconst 0, 1) := by decide +kernel
theorem dX8_put_9 : decode cX8_put 9 = .ok (.iconst 2, 1) := by decide +kernel
theorem dX8_put_10 : decode cX8_put 10 = .ok (.invokestatic 124, 3) := by decide +kernel
theorem dX8_put_13 : decode cX8_put 13 = .ok (.ifCond .ne 6, 3) := by decide +kernel
theorem dX8_put_16 : decode cX8_put 16 = .ok (.bipush (-2), 2) := by decide +kernel
theorem dX8_put_18 : decode cX8_put 18 = .ok (.ireturn, 1) := by decide +kernel
theorem dX8_put_19 : decode cX8_put 19 = .ok (.aload_n 0, 1) := by decide +kernel
theorem dX8_put_20 : decode cX8_put 20 = .ok (.iload_n 1, 1) := by decide +kernel
theorem dX8_put_21 : decode cX8_put 21 = .ok (.iload_n 2, 1) := by decide +kernel
theorem dX8_put_22 : decode cX8_put 22 = .ok (.iload_n 3, 1) := by decide +kernel
theorem dX8_put_23 : decode cX8_put 23 = .ok (.invokevirtual 331, 3) := by decide +kernel
theorem dX8_put_26 : decode cX8_put 26 = .ok (.istore 5, 2) := by decide +kernel
theorem dX8_put_28 : decode cX8_put 28 = .ok (.iload 5, 2) := by decide +kernel
theorem dX8_put_30 : decode cX8_put 30 = .ok (.ifCond .le 10, 3) := by decide +kernel
theorem dX8_put_33 : decode cX8_put 33 = .ok (.aload_n 0, 1) := by decide +kernel
theorem dX8_put_34 : decode cX8_put 34 = .ok (.iload 5, 2) := by decide +kernel
theorem dX8_put_36 : decode cX8_put 36 = .ok (.invokevirtual 172, 3) := by decide +kernel
theorem dX8_put_39 : decode cX8_put 39 = .ok (.ireturn, 1) := by decide +kernel
theorem dX8_put_40 : decode cX8_put 40 = .ok (.aload_n 0, 1) := by decide +kernel
theorem dX8_put_41 : decode cX8_put 41 = .ok (.iload_n 1, 1) := by decide +kernel
theorem dX8_put_42 : decode cX8_put 42 = .ok (.iload_n 3, 1) := by decide +kernel
theorem dX8_put_43 : decode cX8_put 43 = .ok (.iload 4, 2) := by decide +kernel
theorem dX8_put_45 : decode cX8_put 45 = .ok (.invokevirtual 334, 3) := by decide +kernel
theorem dX8_put_48 : decode cX8_put 48 = .ok (.iconst 1, 1) := by decide +kernel
theorem dX8_put_49 : decode cX8_put 49 = .ok (.ireturn, 1) := by decide +kernel
theorem dX8_get_0 : decode cX8_get 0 = .ok (.iload_n 1, 1) := by decide +kernel
theorem dX8_get_1 : decode cX8_get 1 = .ok (.invokestatic 169, 3) := by decide +kernel
theorem dX8_get_4 : decode cX8_get 4 = .ok (.ifCond .eq 12, 3) := by decide +kernel
theorem dX8_get_7 : decode cX8_get 7 = .ok (.iload_n 2, 1) := by decide +kernel
theorem dX8_get_8 : decode cX8_get 8 = .ok (.iconst 0, 1) := by decide +kernel
theorem dX8_get_9 : decode cX8_get 9 = .ok (.iconst 2, 1) := by decide +kernel
theorem dX8_get_10 : decode cX8_get 10 = .ok (.invokestatic 124, 3) := by decide +kernel
theorem dX8_get_13 : decode cX8_get 13 = .ok (.ifCond .ne 6, 3) := by decide +kernel
theorem dX8_get_16 : decode cX8_get 16 = .ok (.ldc 234, 2) := by decide +kernel
theorem dX8_get_18 : decode cX8_get 18 = .ok (.ireturn, 1) := by decide +kernel
theorem dX8_get_19 : decode cX8_get 19 = .ok (.aload_n 0, 1) := by decide +kernel
theorem dX8_get_20 : decode cX8_get 20 = .ok (.iload_n 1, 1) := by decide +kernel
theorem dX8_get_21 : decode cX8_get 21 = .ok (.iload_n 2, 1) := by decide +kernel
theorem dX8_get_22 : decode cX8_get 22 = .ok (.iload_n 3, 1) := by decide +kernel
theorem dX8_get_23 : decode cX8_get 23 = .ok (.invokevirtual 331, 3) := by decide +kernel
theorem dX8_get_26 : decode cX8_get 26 = .ok (.istore 4, 2) := by decide +kernel
theorem dX8_get_28 : decode cX8_get 28 = .ok (.iload 4, 2) := by decide +kernel
theorem dX8_get_30 : decode cX8_get 30 = .ok (.ifCond .le 12, 3) := by decide +kernel
theorem dX8_get_33 : decode cX8_get 33 = .ok (.aload_n 0, 1) := by decide +kernel
theorem dX8_get_34 : decode cX8_get 34 = .ok (.iload 4, 2) := by decide +kernel
theorem dX8_get_36 : decode cX8_get 36 = .ok (.putfield 328, 3) := by decide +kernel
theorem dX8_get_39 : decode cX8_get 39 = .ok (.ldc 234, 2) := by decide +kernel
theorem dX8_get_41 : decode cX8_get 41 = .ok (.ireturn, 1) := by decide +kernel
theorem dX8_get_42 : decode cX8_get 42 = .ok (.aload_n 0, 1) := by decide +kernel
theorem dX8_get_43 : decode cX8_get 43 = .ok (.getfield 116, 3) := by decide +kernel
theorem dX8_get_46 : decode cX8_get 46 = .ok (.bipush 60, 2) := by decide +kernel
theorem dX8_get_48 : decode cX8_get 48 = .ok (.iload_n 1, 1) := by decide +kernel
theorem dX8_get_49 : decode cX8_get 49 = .ok (.imul, 1) := by decide +kernel
theorem dX8_get_50 : decode cX8_get 50 = .ok (.iload_n 3, 1) := by decide +kernel
theorem dX8_get_51 : decode cX8_get 51 = .ok (.iadd, 1) := by decide +kernel
theorem dX8_get_52 : decode cX8_get 52 = .ok (.iaload, 1) := by decide +kernel
theorem dX8_get_53 : decode cX8_get 53 = .ok (.ireturn, 1) := by decide +kernel
theorem dX8_copy_0 : decode cX8_copy 0 = .ok (.iload_n 1, 1) := by decide +kernel
theorem dX8_copy_1 : decode cX8_copy 1 = .ok (.invokestatic 169, 3) := by decide +kernel
theorem dX8_copy_4 : decode cX8_copy 4 = .ok (.ifCond .eq 10, 3) := by decide +kernel
theorem dX8_copy_7 : decode cX8_copy 7 = .ok (.iload_n 3, 1) := by decide +kernel
theorem dX8_copy_8 : decode cX8_copy 8 = .ok (.invokestatic 169, 3) := by decide +kernel
theorem dX8_copy_11 : decode cX8_copy 11 = .ok (.ifCond .ne 6, 3) := by decide +kernel
theorem dX8_copy_14 : decode cX8_copy 14 = .ok (.bipush (-2), 2) := by decide +kernel
theorem dX8_copy_16 : decode cX8_copy 16 = .ok (.ireturn, 1) := by decide +kernel
theorem dX8_copy_17 : decode cX8_copy 17 = .ok (.aload_n 0, 1) := by decide +kernel
theorem dX8_copy_18 : decode cX8_copy 18 = .ok (.getfield 106, 3) := by decide +kernel
theorem dX8_copy_21 : decode cX8_copy 21 = .ok (.iload_n 1, 1) := by decide +kernel
theorem dX8_copy_22 : decode cX8_copy 22 = .ok (.baload, 1) := by decide +kernel
theorem dX8_copy_23 : decode cX8_copy 23 = .ok (.ifCond .eq 12, 3) := by decide +kernel
theorem dX8_copy_26 : decode cX8_copy 26 = .ok (.aload_n 0, 1) := by decide +kernel
theorem dX8_copy_27 : decode cX8_copy 27 = .ok (.getfield 106, 3) := by decide +kernel
theorem dX8_copy_30 : decode cX8_copy 30 = .ok (.iload_n 3, 1) := by decide +kernel
theorem dX8_copy_31 : decode cX8_copy 31 = .ok (.baload, 1) := by decide +kernel
theorem dX8_copy_32 : decode cX8_copy 32 = .ok (.ifCond .ne 9, 3) := by decide +kernel
theorem dX8_copy_35 : decode cX8_copy 35 = .ok (.aload_n 0, 1) := by decide +kernel
theorem dX8_copy_36 : decode cX8_copy 36 = .ok (.iconst 1, 1) := by decide +kernel
theorem dX8_copy_37 : decode cX8_copy 37 = .ok (.invokevirtual 172, 3) := by decide +kernel
theorem dX8_copy_40 : decode cX8_copy 40 = .ok (.ireturn, 1) := by decide +kernel
theorem dX8_copy_41 : decode cX8_copy 41 = .ok (.aload_n 0, 1) := by decide +kernel
theorem dX8_copy_42 : decode cX8_copy 42 = .ok (.getfield 110, 3) := by decide +kernel
theorem dX8_copy_45 : decode cX8_copy 45 = .ok (.iload_n 1, 1) := by decide +kernel
theorem dX8_copy_46 : decode cX8_copy 46 = .ok (.iaload, 1) := by decide +kernel
theorem dX8_copy_47 : decode cX8_copy 47 = .ok (.aload_n 0, 1) := by decide +kernel
theorem dX8_copy_48 : decode cX8_copy 48 = .ok (.getfield 110, 3) := by decide +kernel
theorem dX8_copy_51 : decode cX8_copy 51 = .ok (.iload_n 3, 1) := by decide +kernel
theorem dX8_copy_52 : decode cX8_copy 52 = .ok (.iaload, 1) := by decide +kernel
theorem dX8_copy_53 : decode cX8_copy 53 = .ok (.if_icmp .eq 9, 3) := by decide +kernel
theorem dX8_copy_56 : decode cX8_copy 56 = .ok (.aload_n 0, 1) := by decide +kernel
theorem dX8_copy_57 : decode cX8_copy 57 = .ok (.iconst 4, 1) := by decide +kernel
theorem dX8_copy_58 : decode cX8_copy 58 = .ok (.invokevirtual 172, 3) := by decide +kernel
theorem dX8_copy_61 : decode cX8_copy 61 = .ok (.ireturn, 1) := by decide +kernel
theorem dX8_copy_62 : decode cX8_copy 62 = .ok (.iload_n 2, 1) := by decide +kernel
theorem dX8_copy_63 : decode cX8_copy 63 = .ok (.ifCond .lt 48, 3) := by decide +kernel
theorem dX8_copy_66 : decode cX8_copy 66 = .ok (.iload 4, 2) := by decide +kernel
theorem dX8_copy_68 : decode cX8_copy 68 = .ok (.ifCond .lt 43, 3) := by decide +kernel
theorem dX8_copy_71 : decode cX8_copy 71 = .ok (.iload 5, 2) := by decide +kernel
theorem dX8_copy_73 : decode cX8_copy 73 = .ok (.ifCond .lt 38, 3) := by decide +kernel
theorem dX8_copy_76 : decode cX8_copy 76 = .ok (.iload_n 2, 1) := by decide +kernel
theorem dX8_copy_77 : decode cX8_copy 77 = .ok (.i2l, 1) := by decide +kernel
theorem dX8_copy_78 : decode cX8_copy 78 = .ok (.iload 5, 2) := by decide +kernel
theorem dX8_copy_80 : decode cX8_copy 80 = .ok (.i2l, 1) := by decide +kernel
theorem dX8_copy_81 : decode cX8_copy 81 = .ok (.ladd, 1) := by decide +kernel
theorem dX8_copy_82 : decode cX8_copy 82 = .ok (.aload_n 0, 1) := by decide +kernel
theorem dX8_copy_83 : decode cX8_copy 83 = .ok (.getfield 113, 3) := by decide +kernel
theorem dX8_copy_86 : decode cX8_copy 86 = .ok (.iload_n 1, 1) := by decide +kernel
theorem dX8_copy_87 : decode cX8_copy 87 = .ok (.iaload, 1) := by decide +kernel
theorem dX8_copy_88 : decode cX8_copy 88 = .ok (.i2l, 1) := by decide +kernel
theorem dX8_copy_89 : decode cX8_copy 89 = .ok (.lcmp, 1) := by decide +kernel
theorem dX8_copy_90 : decode cX8_copy 90 = .ok (.ifCond .gt 21, 3) := by decide +kernel
theorem dX8_copy_93 : decode cX8_copy 93 = .ok (.iload 4, 2) := by decide +kernel
theorem dX8_copy_95 : decode cX8_copy 95 = .ok (.i2l, 1) := by decide +kernel
theorem dX8_copy_96 : decode cX8_copy 96 = .ok (.iload 5, 2) := by decide +kernel
theorem dX8_copy_98 : decode cX8_copy 98 = .ok (.i2l, 1) := by decide +kernel
theorem dX8_copy_99 : decode cX8_copy 99 = .ok (.ladd, 1) := by decide +kernel
theorem dX8_copy_100 : decode cX8_copy 100 = .ok (.aload_n 0, 1) := by decide +kernel
theorem dX8_copy_101 : decode cX8_copy 101 = .ok (.getfield 113, 3) := by decide +kernel
theorem dX8_copy_104 : decode cX8_copy 104 = .ok (.iload_n 3, 1) := by decide +kernel
theorem dX8_copy_105 : decode cX8_copy 105 = .ok (.iaload, 1) := by decide +kernel
theorem dX8_copy_106 : decode cX8_copy 106 = .ok (.i2l, 1) := by decide +kernel
theorem dX8_copy_107 : decode cX8_copy 107 = .ok (.lcmp, 1) := by decide +kernel
theorem dX8_copy_108 : decode cX8_copy 108 = .ok (.ifCond .le 9, 3) := by decide +kernel
theorem dX8_copy_111 : decode cX8_copy 111 = .ok (.aload_n 0, 1) := by decide +kernel
theorem dX8_copy_112 : decode cX8_copy 112 = .ok (.iconst 2, 1) := by decide +kernel
theorem dX8_copy_113 : decode cX8_copy 113 = .ok (.invokevirtual 172, 3) := by decide +kernel
theorem dX8_copy_116 : decode cX8_copy 116 = .ok (.ireturn, 1) := by decide +kernel
theorem dX8_copy_117 : decode cX8_copy 117 = .ok (.iconst 0, 1) := by decide +kernel
theorem dX8_copy_118 : decode cX8_copy 118 = .ok (.istore 6, 2) := by decide +kernel
theorem dX8_copy_120 : decode cX8_copy 120 = .ok (.iload 6, 2) := by decide +kernel
theorem dX8_copy_122 : decode cX8_copy 122 = .ok (.iload 5, 2) := by decide +kernel
theorem dX8_copy_124 : decode cX8_copy 124 = .ok (.if_icmp .ge 30, 3) := by decide +kernel
theorem dX8_copy_127 : decode cX8_copy 127 = .ok (.aload_n 0, 1) := by decide +kernel
theorem dX8_copy_128 : decode cX8_copy 128 = .ok (.getfield 119, 3) := by decide +kernel
theorem dX8_copy_131 : decode cX8_copy 131 = .ok (.iload 6, 2) := by decide +kernel
theorem dX8_copy_133 : decode cX8_copy 133 = .ok (.aload_n 0, 1) := by decide +kernel
theorem dX8_copy_134 : decode cX8_copy 134 = .ok (.getfield 116, 3) := by decide +kernel
theorem dX8_copy_137 : decode cX8_copy 137 = .ok (.bipush 60, 2) := by decide +kernel
theorem dX8_copy_139 : decode cX8_copy 139 = .ok (.iload_n 1, 1) := by decide +kernel
theorem dX8_copy_140 : decode cX8_copy 140 = .ok (.imul, 1) := by decide +kernel
theorem dX8_copy_141 : decode cX8_copy 141 = .ok (.iload_n 2, 1) := by decide +kernel
theorem dX8_copy_142 : decode cX8_copy 142 = .ok (.iadd, 1) := by decide +kernel
theorem dX8_copy_143 : decode cX8_copy 143 = .ok (.iload 6, 2) := by decide +kernel
theorem dX8_copy_145 : decode cX8_copy 145 = .ok (.iadd, 1) := by decide +kernel
theorem dX8_copy_146 : decode cX8_copy 146 = .ok (.iaload, 1) := by decide +kernel
theorem dX8_copy_147 : decode cX8_copy 147 = .ok (.iastore, 1) := by decide +kernel
theorem dX8_copy_148 : decode cX8_copy 148 = .ok (.iinc 6 1, 3) := by decide +kernel
theorem dX8_copy_151 : decode cX8_copy 151 = .ok (.goto (-31), 3) := by decide +kernel
theorem dX8_copy_154 : decode cX8_copy 154 = .ok (.iconst 0, 1) := by decide +kernel
theorem dX8_copy_155 : decode cX8_copy 155 = .ok (.istore 6, 2) := by decide +kernel
theorem dX8_copy_157 : decode cX8_copy 157 = .ok (.iload 6, 2) := by decide +kernel
theorem dX8_copy_159 : decode cX8_copy 159 = .ok (.iload 5, 2) := by decide +kernel
theorem dX8_copy_161 : decode cX8_copy 161 = .ok (.if_icmp .ge 31, 3) := by decide +kernel
theorem dX8_copy_164 : decode cX8_copy 164 = .ok (.aload_n 0, 1) := by decide +kernel
theorem dX8_copy_165 : decode cX8_copy 165 = .ok (.getfield 116, 3) := by decide +kernel
theorem dX8_copy_168 : decode cX8_copy 168 = .ok (.bipush 60, 2) := by decide +kernel
theorem dX8_copy_170 : decode cX8_copy 170 = .ok (.iload_n 3, 1) := by decide +kernel
theorem dX8_copy_171 : decode cX8_copy 171 = .ok (.imul, 1) := by decide +kernel
theorem dX8_copy_172 : decode cX8_copy 172 = .ok (.iload 4, 2) := by decide +kernel
theorem dX8_copy_174 : decode cX8_copy 174 = .ok (.iadd, 1) := by decide +kernel
theorem dX8_copy_175 : decode cX8_copy 175 = .ok (.iload 6, 2) := by decide +kernel
theorem dX8_copy_177 : decode cX8_copy 177 = .ok (.iadd, 1) := by decide +kernel
theorem dX8_copy_178 : decode cX8_copy 178 = .ok (.aload_n 0, 1) := by decide +kernel
theorem dX8_copy_179 : decode cX8_copy 179 = .ok (.getfield 119, 3) := by decide +kernel
theorem dX8_copy_182 : decode cX8_copy 182 = .ok (.iload 6, 2) := by decide +kernel
theorem dX8_copy_184 : decode cX8_copy 184 = .ok (.iaload, 1) := by decide +kernel
theorem dX8_copy_185 : decode cX8_copy 185 = .ok (.iastore, 1) := by decide +kernel
theorem dX8_copy_186 : decode cX8_copy 186 = .ok (.iinc 6 1, 3) := by decide +kernel
theorem dX8_copy_189 : decode cX8_copy 189 = .ok (.goto (-32), 3) := by decide +kernel
theorem dX8_copy_192 : decode cX8_copy 192 = .ok (.iconst 1, 1) := by decide +kernel
theorem dX8_copy_193 : decode cX8_copy 193 = .ok (.ireturn, 1) := by decide +kernel
theorem dX8_write_0 : decode cX8_write 0 = .ok (.aload_n 0, 1) := by decide +kernel
theorem dX8_write_1 : decode cX8_write 1 = .ok (.iload_n 1, 1) := by decide +kernel
theorem dX8_write_2 : decode cX8_write 2 = .ok (.invokevirtual 153, 3) := by decide +kernel
theorem dX8_write_5 : decode cX8_write 5 = .ok (.ifCond .eq 10, 3) := by decide +kernel
theorem dX8_write_8 : decode cX8_write 8 = .ok (.iload_n 2, 1) := by decide +kernel
theorem dX8_write_9 : decode cX8_write 9 = .ok (.invokestatic 169, 3) := by decide +kernel
theorem dX8_write_12 : decode cX8_write 12 = .ok (.ifCond .ne 6, 3) := by decide +kernel
theorem dX8_write_15 : decode cX8_write 15 = .ok (.bipush (-2), 2) := by decide +kernel
theorem dX8_write_17 : decode cX8_write 17 = .ok (.ireturn, 1) := by decide +kernel
theorem dX8_write_18 : decode cX8_write 18 = .ok (.aload_n 0, 1) := by decide +kernel
theorem dX8_write_19 : decode cX8_write 19 = .ok (.getfield 106, 3) := by decide +kernel
theorem dX8_write_22 : decode cX8_write 22 = .ok (.iload_n 2, 1) := by decide +kernel
theorem dX8_write_23 : decode cX8_write 23 = .ok (.baload, 1) := by decide +kernel
theorem dX8_write_24 : decode cX8_write 24 = .ok (.ifCond .ne 9, 3) := by decide +kernel
theorem dX8_write_27 : decode cX8_write 27 = .ok (.aload_n 0, 1) := by decide +kernel
theorem dX8_write_28 : decode cX8_write 28 = .ok (.iconst 1, 1) := by decide +kernel
theorem dX8_write_29 : decode cX8_write 29 = .ok (.invokevirtual 172, 3) := by decide +kernel
theorem dX8_write_32 : decode cX8_write 32 = .ok (.ireturn, 1) := by decide +kernel
theorem dX8_write_33 : decode cX8_write 33 = .ok (.aload_n 0, 1) := by decide +kernel
theorem dX8_write_34 : decode cX8_write 34 = .ok (.invokevirtual 219, 3) := by decide +kernel
theorem dX8_write_37 : decode cX8_write 37 = .ok (.iconst 0, 1) := by decide +kernel
theorem dX8_write_38 : decode cX8_write 38 = .ok (.istore_n 3, 1) := by decide +kernel
theorem dX8_write_39 : decode cX8_write 39 = .ok (.iload_n 3, 1) := by decide +kernel
theorem dX8_write_40 : decode cX8_write 40 = .ok (.aload_n 0, 1) := by decide +kernel
theorem dX8_write_41 : decode cX8_write 41 = .ok (.getfield 113, 3) := by decide +kernel
theorem dX8_write_44 : decode cX8_write 44 = .ok (.iload_n 2, 1) := by decide +kernel
theorem dX8_write_45 : decode cX8_write 45 = .ok (.iaload, 1) := by decide +kernel
theorem dX8_write_46 : decode cX8_write 46 = .ok (.if_icmp .ge 32, 3) := by decide +kernel
theorem dX8_write_49 : decode cX8_write 49 = .ok (.iload_n 3, 1) := by decide +kernel
theorem dX8_write_50 : decode cX8_write 50 = .ok (.bipush 20, 2) := by decide +kernel
theorem dX8_write_52 : decode cX8_write 52 = .ok (.if_icmp .ge 26, 3) := by decide +kernel
theorem dX8_write_55 : decode cX8_write 55 = .ok (.aload_n 0, 1) := by decide +kernel
theorem dX8_write_56 : decode cX8_write 56 = .ok (.iload_n 2, 1) := by decide +kernel
theorem dX8_write_57 : decode cX8_write 57 = .ok (.iload_n 3, 1) := by decide +kernel
theorem dX8_write_58 : decode cX8_write 58 = .ok (.aload_n 0, 1) := by decide +kernel
theorem dX8_write_59 : decode cX8_write 59 = .ok (.getfield 79, 3) := by decide +kernel
theorem dX8_write_62 : decode cX8_write 62 = .ok (.bipush 8, 2) := by decide +kernel
theorem dX8_write_64 : decode cX8_write 64 = .ok (.iload_n 3, 1) := by decide +kernel
theorem dX8_write_65 : decode cX8_write 65 = .ok (.imul, 1) := by decide +kernel
theorem dX8_write_66 : decode cX8_write 66 = .ok (.iload_n 1, 1) := by decide +kernel
theorem dX8_write_67 : decode cX8_write 67 = .ok (.iadd, 1) := by decide +kernel
theorem dX8_write_68 : decode cX8_write 68 = .ok (.iaload, 1) := by decide +kernel
theorem dX8_write_69 : decode cX8_write 69 = .ok (.invokevirtual 334, 3) := by decide +kernel
theorem dX8_write_72 : decode cX8_write 72 = .ok (.iinc 3 1, 3) := by decide +kernel
theorem dX8_write_75 : decode cX8_write 75 = .ok (.goto (-36), 3) := by decide +kernel
theorem dX8_write_78 : decode cX8_write 78 = .ok (.iload_n 3, 1) := by decide +kernel
theorem dX8_write_79 : decode cX8_write 79 = .ok (.ireturn, 1) := by decide +kernel
theorem dX8_sumOf_0 : decode cX8_sumOf 0 = .ok (.aload_n 0, 1) := by decide +kernel
theorem dX8_sumOf_1 : decode cX8_sumOf 1 = .ok (.invokevirtual 219, 3) := by decide +kernel
theorem dX8_sumOf_4 : decode cX8_sumOf 4 = .ok (.iconst 0, 1) := by decide +kernel
theorem dX8_sumOf_5 : decode cX8_sumOf 5 = .ok (.istore_n 2, 1) := by decide +kernel
theorem dX8_sumOf_6 : decode cX8_sumOf 6 = .ok (.iconst 0, 1) := by decide +kernel
theorem dX8_sumOf_7 : decode cX8_sumOf 7 = .ok (.istore_n 3, 1) := by decide +kernel
theorem dX8_sumOf_8 : decode cX8_sumOf 8 = .ok (.iload_n 3, 1) := by decide +kernel
theorem dX8_sumOf_9 : decode cX8_sumOf 9 = .ok (.aload_n 0, 1) := by decide +kernel
theorem dX8_sumOf_10 : decode cX8_sumOf 10 = .ok (.getfield 139, 3) := by decide +kernel
theorem dX8_sumOf_13 : decode cX8_sumOf 13 = .ok (.if_icmp .ge 18, 3) := by decide +kernel
theorem dX8_sumOf_16 : decode cX8_sumOf 16 = .ok (.iload_n 2, 1) := by decide +kernel
theorem dX8_sumOf_17 : decode cX8_sumOf 17 = .ok (.aload_n 0, 1) := by decide +kernel
theorem dX8_sumOf_18 : decode cX8_sumOf 18 = .ok (.getfield 64, 3) := by decide +kernel
theorem dX8_sumOf_21 : decode cX8_sumOf 21 = .ok (.iload_n 3, 1) := by decide +kernel
theorem dX8_sumOf_22 : decode cX8_sumOf 22 = .ok (.iaload, 1) := by decide +kernel
theorem dX8_sumOf_23 : decode cX8_sumOf 23 = .ok (.iadd, 1) := by decide +kernel
theorem dX8_sumOf_24 : decode cX8_sumOf 24 = .ok (.istore_n 2, 1) := by decide +kernel
theorem dX8_sumOf_25 : decode cX8_sumOf 25 = .ok (.iinc 3 1, 3) := by decide +kernel
theorem dX8_sumOf_28 : decode cX8_sumOf 28 = .ok (.goto (-20), 3) := by decide +kernel
theorem dX8_sumOf_31 : decode cX8_sumOf 31 = .ok (.iload_n 1, 1) := by decide +kernel
theorem dX8_sumOf_32 : decode cX8_sumOf 32 = .ok (.ifCond .ne 10, 3) := by decide +kernel
theorem dX8_sumOf_35 : decode cX8_sumOf 35 = .ok (.aload_n 0, 1) := by decide +kernel
theorem dX8_sumOf_36 : decode cX8_sumOf 36 = .ok (.getfield 139, 3) := by decide +kernel
theorem dX8_sumOf_39 : decode cX8_sumOf 39 = .ok (.goto 52, 3) := by decide +kernel
theorem dX8_sumOf_42 : decode cX8_sumOf 42 = .ok (.iload_n 1, 1) := by decide +kernel
theorem dX8_sumOf_43 : decode cX8_sumOf 43 = .ok (.iconst 3, 1) := by decide +kernel
theorem dX8_sumOf_44 : decode cX8_sumOf 44 = .ok (.if_icmp .ne 13, 3) := by decide +kernel
theorem dX8_sumOf_47 : decode cX8_sumOf 47 = .ok (.aload_n 0, 1) := by decide +kernel
theorem dX8_sumOf_48 : decode cX8_sumOf 48 = .ok (.bipush 19, 2) := by decide +kernel
theorem dX8_sumOf_50 : decode cX8_sumOf 50 = .ok (.iconst 0, 1) := by decide +kernel
theorem dX8_sumOf_51 : decode cX8_sumOf 51 = .ok (.invokevirtual 241, 3) := by decide +kernel
theorem dX8_sumOf_54 : decode cX8_sumOf 54 = .ok (.goto 37, 3) := by decide +kernel
theorem dX8_sumOf_57 : decode cX8_sumOf 57 = .ok (.iload_n 1, 1) := by decide +kernel
theorem dX8_sumOf_58 : decode cX8_sumOf 58 = .ok (.iconst 4, 1) := by decide +kernel
theorem dX8_sumOf_59 : decode cX8_sumOf 59 = .ok (.if_icmp .ne 13, 3) := by decide +kernel
theorem dX8_sumOf_62 : decode cX8_sumOf 62 = .ok (.aload_n 0, 1) := by decide +kernel
theorem dX8_sumOf_63 : decode cX8_sumOf 63 = .ok (.bipush 19, 2) := by decide +kernel
theorem dX8_sumOf_65 : decode cX8_sumOf 65 = .ok (.iconst 1, 1) := by decide +kernel
theorem dX8_sumOf_66 : decode cX8_sumOf 66 = .ok (.invokevirtual 241, 3) := by decide +kernel
theorem dX8_sumOf_69 : decode cX8_sumOf 69 = .ok (.goto 22, 3) := by decide +kernel
theorem dX8_sumOf_72 : decode cX8_sumOf 72 = .ok (.iload_n 1, 1) := by decide +kernel
theorem dX8_sumOf_73 : decode cX8_sumOf 73 = .ok (.iconst 5, 1) := by decide +kernel
theorem dX8_sumOf_74 : decode cX8_sumOf 74 = .ok (.if_icmp .ne 16, 3) := by decide +kernel
theorem dX8_sumOf_77 : decode cX8_sumOf 77 = .ok (.aload_n 0, 1) := by decide +kernel
theorem dX8_sumOf_78 : decode cX8_sumOf 78 = .ok (.aload_n 0, 1) := by decide +kernel
theorem dX8_sumOf_79 : decode cX8_sumOf 79 = .ok (.bipush 19, 2) := by decide +kernel
theorem dX8_sumOf_81 : decode cX8_sumOf 81 = .ok (.invokevirtual 247, 3) := by decide +kernel
theorem dX8_sumOf_84 : decode cX8_sumOf 84 = .ok (.invokevirtual 322, 3) := by decide +kernel
theorem dX8_sumOf_87 : decode cX8_sumOf 87 = .ok (.goto 4, 3) := by decide +kernel
theorem dX8_sumOf_90 : decode cX8_sumOf 90 = .ok (.iload_n 2, 1) := by decide +kernel
theorem dX8_sumOf_91 : decode cX8_sumOf 91 = .ok (.ireturn, 1) := by decide +kernel
theorem dX8_count_0 : decode cX8_count 0 = .ok (.iload_n 1, 1) := by decide +kernel
theorem dX8_count_1 : decode cX8_count 1 = .ok (.tableswitch 77 0 8 #[51, 57, 62, 51, 51, 51, 51, 67, 72], 51) := by decide +kernel
theorem dX8_count_52 : decode cX8_count 52 = .ok (.aload_n 0, 1) := by decide +kernel
theorem dX8_count_53 : decode cX8_count 53 = .ok (.iload_n 1, 1) := by decide +kernel
theorem dX8_count_54 : decode cX8_count 54 = .ok (.invokevirtual 338, 3) := by decide +kernel
theorem dX8_count_57 : decode cX8_count 57 = .ok (.ireturn, 1) := by decide +kernel
theorem dX8_count_58 : decode cX8_count 58 = .ok (.aload_n 0, 1) := by decide +kernel
theorem dX8_count_59 : decode cX8_count 59 = .ok (.getfield 128, 3) := by decide +kernel
theorem dX8_count_62 : decode cX8_count 62 = .ok (.ireturn, 1) := by decide +kernel
theorem dX8_count_63 : decode cX8_count 63 = .ok (.aload_n 0, 1) := by decide +kernel
theorem dX8_count_64 : decode cX8_count 64 = .ok (.getfield 166, 3) := by decide +kernel
theorem dX8_count_67 : decode cX8_count 67 = .ok (.ireturn, 1) := by decide +kernel
theorem dX8_count_68 : decode cX8_count 68 = .ok (.aload_n 0, 1) := by decide +kernel
theorem dX8_count_69 : decode cX8_count 69 = .ok (.getfield 290, 3) := by decide +kernel
theorem dX8_count_72 : decode cX8_count 72 = .ok (.ireturn, 1) := by decide +kernel
theorem dX8_count_73 : decode cX8_count 73 = .ok (.aload_n 0, 1) := by decide +kernel
theorem dX8_count_74 : decode cX8_count 74 = .ok (.getfield 328, 3) := by decide +kernel
theorem dX8_count_77 : decode cX8_count 77 = .ok (.ireturn, 1) := by decide +kernel
theorem dX8_count_78 : decode cX8_count 78 = .ok (.bipush (-2), 2) := by decide +kernel
theorem dX8_count_80 : decode cX8_count 80 = .ok (.ireturn, 1) := by decide +kernel
theorem dX8_dayDigest_0 : decode cX8_dayDigest 0 = .ok (.lload_n 1, 1) := by decide +kernel
theorem dX8_dayDigest_1 : decode cX8_dayDigest 1 = .ok (.lstore 5, 2) := by decide +kernel
theorem dX8_dayDigest_3 : decode cX8_dayDigest 3 = .ok (.iconst 0, 1) := by decide +kernel
theorem dX8_dayDigest_4 : decode cX8_dayDigest 4 = .ok (.istore 7, 2) := by decide +kernel
theorem dX8_dayDigest_6 : decode cX8_dayDigest 6 = .ok (.iload 7, 2) := by decide +kernel
theorem dX8_dayDigest_8 : decode cX8_dayDigest 8 = .ok (.iconst 5, 1) := by decide +kernel
theorem dX8_dayDigest_9 : decode cX8_dayDigest 9 = .ok (.if_icmp .ge 28, 3) := by decide +kernel
theorem dX8_dayDigest_12 : decode cX8_dayDigest 12 = .ok (.ldc2_w 341, 3) := by decide +kernel
theorem dX8_dayDigest_15 : decode cX8_dayDigest 15 = .ok (.lload 5, 2) := by decide +kernel
theorem dX8_dayDigest_17 : decode cX8_dayDigest 17 = .ok (.lmul, 1) := by decide +kernel
theorem dX8_dayDigest_18 : decode cX8_dayDigest 18 = .ok (.aload_n 0, 1) := by decide +kernel
theorem dX8_dayDigest_19 : decode cX8_dayDigest 19 = .ok (.iload_n 3, 1) := by decide +kernel
theorem dX8_dayDigest_20 : decode cX8_dayDigest 20 = .ok (.iload 4, 2) := by decide +kernel
theorem dX8_dayDigest_22 : decode cX8_dayDigest 22 = .ok (.iload 7, 2) := by decide +kernel
theorem dX8_dayDigest_24 : decode cX8_dayDigest 24 = .ok (.invokevirtual 222, 3) := by decide +kernel
theorem dX8_dayDigest_27 : decode cX8_dayDigest 27 = .ok (.i2l, 1) := by decide +kernel
theorem dX8_dayDigest_28 : decode cX8_dayDigest 28 = .ok (.ladd, 1) := by decide +kernel
theorem dX8_dayDigest_29 : decode cX8_dayDigest 29 = .ok (.lstore 5, 2) := by decide +kernel
theorem dX8_dayDigest_31 : decode cX8_dayDigest 31 = .ok (.iinc 7 1, 3) := by decide +kernel
theorem dX8_dayDigest_34 : decode cX8_dayDigest 34 = .ok (.goto (-28), 3) := by decide +kernel
theorem dX8_dayDigest_37 : decode cX8_dayDigest 37 = .ok (.iconst 0, 1) := by decide +kernel
theorem dX8_dayDigest_38 : decode cX8_dayDigest 38 = .ok (.istore 7, 2) := by decide +kernel
theorem dX8_dayDigest_40 : decode cX8_dayDigest 40 = .ok (.iload 7, 2) := by decide +kernel
theorem dX8_dayDigest_42 : decode cX8_dayDigest 42 = .ok (.iconst 4, 1) := by decide +kernel
theorem dX8_dayDigest_43 : decode cX8_dayDigest 43 = .ok (.if_icmp .ge 28, 3) := by decide +kernel
theorem dX8_dayDigest_46 : decode cX8_dayDigest 46 = .ok (.ldc2_w 341, 3) := by decide +kernel
theorem dX8_dayDigest_49 : decode cX8_dayDigest 49 = .ok (.lload 5, 2) := by decide +kernel
theorem dX8_dayDigest_51 : decode cX8_dayDigest 51 = .ok (.lmul, 1) := by decide +kernel
theorem dX8_dayDigest_52 : decode cX8_dayDigest 52 = .ok (.aload_n 0, 1) := by decide +kernel
theorem dX8_dayDigest_53 : decode cX8_dayDigest 53 = .ok (.iload_n 3, 1) := by decide +kernel
theorem dX8_dayDigest_54 : decode cX8_dayDigest 54 = .ok (.iload 4, 2) := by decide +kernel
theorem dX8_dayDigest_56 : decode cX8_dayDigest 56 = .ok (.iload 7, 2) := by decide +kernel
theorem dX8_dayDigest_58 : decode cX8_dayDigest 58 = .ok (.invokevirtual 231, 3) := by decide +kernel
theorem dX8_dayDigest_61 : decode cX8_dayDigest 61 = .ok (.i2l, 1) := by decide +kernel
theorem dX8_dayDigest_62 : decode cX8_dayDigest 62 = .ok (.ladd, 1) := by decide +kernel
theorem dX8_dayDigest_63 : decode cX8_dayDigest 63 = .ok (.lstore 5, 2) := by decide +kernel
theorem dX8_dayDigest_65 : decode cX8_dayDigest 65 = .ok (.iinc 7 1, 3) := by decide +kernel
theorem dX8_dayDigest_68 : decode cX8_dayDigest 68 = .ok (.goto (-28), 3) := by decide +kernel
theorem dX8_dayDigest_71 : decode cX8_dayDigest 71 = .ok (.lload 5, 2) := by decide +kernel
theorem dX8_dayDigest_73 : decode cX8_dayDigest 73 = .ok (.lreturn, 1) := by decide +kernel
theorem dX8_coupleDigest_0 : decode cX8_coupleDigest 0 = .ok (.lload_n 1, 1) := by decide +kernel
theorem dX8_coupleDigest_1 : decode cX8_coupleDigest 1 = .ok (.lstore 4, 2) := by decide +kernel
theorem dX8_coupleDigest_3 : decode cX8_coupleDigest 3 = .ok (.iconst 0, 1) := by decide +kernel
theorem dX8_coupleDigest_4 : decode cX8_coupleDigest 4 = .ok (.istore 6, 2) := by decide +kernel
theorem dX8_coupleDigest_6 : decode cX8_coupleDigest 6 = .ok (.iload 6, 2) := by decide +kernel
theorem dX8_coupleDigest_8 : decode cX8_coupleDigest 8 = .ok (.iconst 4, 1) := by decide +kernel
theorem dX8_coupleDigest_9 : decode cX8_coupleDigest 9 = .ok (.if_icmp .ge 26, 3) := by decide +kernel
theorem dX8_coupleDigest_12 : decode cX8_coupleDigest 12 = .ok (.ldc2_w 341, 3) := by decide +kernel
theorem dX8_coupleDigest_15 : decode cX8_coupleDigest 15 = .ok (.lload 4, 2) := by decide +kernel
theorem dX8_coupleDigest_17 : decode cX8_coupleDigest 17 = .ok (.lmul, 1) := by decide +kernel
theorem dX8_coupleDigest_18 : decode cX8_coupleDigest 18 = .ok (.aload_n 0, 1) := by decide +kernel
theorem dX8_coupleDigest_19 : decode cX8_coupleDigest 19 = .ok (.iload_n 3, 1) := by decide +kernel
theorem dX8_coupleDigest_20 : decode cX8_coupleDigest 20 = .ok (.iload 6, 2) := by decide +kernel
theorem dX8_coupleDigest_22 : decode cX8_coupleDigest 22 = .ok (.invokevirtual 157, 3) := by decide +kernel
theorem dX8_coupleDigest_25 : decode cX8_coupleDigest 25 = .ok (.i2l, 1) := by decide +kernel
theorem dX8_coupleDigest_26 : decode cX8_coupleDigest 26 = .ok (.ladd, 1) := by decide +kernel
theorem dX8_coupleDigest_27 : decode cX8_coupleDigest 27 = .ok (.lstore 4, 2) := by decide +kernel
theorem dX8_coupleDigest_29 : decode cX8_coupleDigest 29 = .ok (.iinc 6 1, 3) := by decide +kernel
theorem dX8_coupleDigest_32 : decode cX8_coupleDigest 32 = .ok (.goto (-26), 3) := by decide +kernel
theorem dX8_coupleDigest_35 : decode cX8_coupleDigest 35 = .ok (.aload_n 0, 1) := by decide +kernel
theorem dX8_coupleDigest_36 : decode cX8_coupleDigest 36 = .ok (.lload 4, 2) := by decide +kernel
theorem dX8_coupleDigest_38 : decode cX8_coupleDigest 38 = .ok (.iconst 0, 1) := by decide +kernel
theorem dX8_coupleDigest_39 : decode cX8_coupleDigest 39 = .ok (.iload_n 3, 1) := by decide +kernel
theorem dX8_coupleDigest_40 : decode cX8_coupleDigest 40 = .ok (.invokevirtual 343, 3) := by decide +kernel
theorem dX8_coupleDigest_43 : decode cX8_coupleDigest 43 = .ok (.lstore 4, 2) := by decide +kernel
theorem dX8_coupleDigest_45 : decode cX8_coupleDigest 45 = .ok (.aload_n 0, 1) := by decide +kernel
theorem dX8_coupleDigest_46 : decode cX8_coupleDigest 46 = .ok (.lload 4, 2) := by decide +kernel
theorem dX8_coupleDigest_48 : decode cX8_coupleDigest 48 = .ok (.bipush 6, 2) := by decide +kernel
theorem dX8_coupleDigest_50 : decode cX8_coupleDigest 50 = .ok (.iload_n 3, 1) := by decide +kernel
theorem dX8_coupleDigest_51 : decode cX8_coupleDigest 51 = .ok (.invokevirtual 343, 3) := by decide +kernel
theorem dX8_coupleDigest_54 : decode cX8_coupleDigest 54 = .ok (.lstore 4, 2) := by decide +kernel
theorem dX8_coupleDigest_56 : decode cX8_coupleDigest 56 = .ok (.aload_n 0, 1) := by decide +kernel
theorem dX8_coupleDigest_57 : decode cX8_coupleDigest 57 = .ok (.lload 4, 2) := by decide +kernel
theorem dX8_coupleDigest_59 : decode cX8_coupleDigest 59 = .ok (.bipush 12, 2) := by decide +kernel
theorem dX8_coupleDigest_61 : decode cX8_coupleDigest 61 = .ok (.iload_n 3, 1) := by decide +kernel
theorem dX8_coupleDigest_62 : decode cX8_coupleDigest 62 = .ok (.invokevirtual 343, 3) := by decide +kernel
theorem dX8_coupleDigest_65 : decode cX8_coupleDigest 65 = .ok (.lstore 4, 2) := by decide +kernel
theorem dX8_coupleDigest_67 : decode cX8_coupleDigest 67 = .ok (.aload_n 0, 1) := by decide +kernel
theorem dX8_coupleDigest_68 : decode cX8_coupleDigest 68 = .ok (.lload 4, 2) := by decide +kernel
theorem dX8_coupleDigest_70 : decode cX8_coupleDigest 70 = .ok (.bipush 19, 2) := by decide +kernel
theorem dX8_coupleDigest_72 : decode cX8_coupleDigest 72 = .ok (.iload_n 3, 1) := by decide +kernel
theorem dX8_coupleDigest_73 : decode cX8_coupleDigest 73 = .ok (.invokevirtual 343, 3) := by decide +kernel
theorem dX8_coupleDigest_76 : decode cX8_coupleDigest 76 = .ok (.lstore 4, 2) := by decide +kernel
theorem dX8_coupleDigest_78 : decode cX8_coupleDigest 78 = .ok (.ldc2_w 341, 3) := by decide +kernel
theorem dX8_coupleDigest_81 : decode cX8_coupleDigest 81 = .ok (.lload 4, 2) := by decide +kernel
theorem dX8_coupleDigest_83 : decode cX8_coupleDigest 83 = .ok (.lmul, 1) := by decide +kernel
theorem dX8_coupleDigest_84 : decode cX8_coupleDigest 84 = .ok (.aload_n 0, 1) := by decide +kernel
theorem dX8_coupleDigest_85 : decode cX8_coupleDigest 85 = .ok (.iload_n 3, 1) := by decide +kernel
theorem dX8_coupleDigest_86 : decode cX8_coupleDigest 86 = .ok (.invokevirtual 259, 3) := by decide +kernel
theorem dX8_coupleDigest_89 : decode cX8_coupleDigest 89 = .ok (.i2l, 1) := by decide +kernel
theorem dX8_coupleDigest_90 : decode cX8_coupleDigest 90 = .ok (.ladd, 1) := by decide +kernel
theorem dX8_coupleDigest_91 : decode cX8_coupleDigest 91 = .ok (.lstore 4, 2) := by decide +kernel
theorem dX8_coupleDigest_93 : decode cX8_coupleDigest 93 = .ok (.ldc2_w 341, 3) := by decide +kernel
theorem dX8_coupleDigest_96 : decode cX8_coupleDigest 96 = .ok (.lload 4, 2) := by decide +kernel
theorem dX8_coupleDigest_98 : decode cX8_coupleDigest 98 = .ok (.lmul, 1) := by decide +kernel
theorem dX8_coupleDigest_99 : decode cX8_coupleDigest 99 = .ok (.aload_n 0, 1) := by decide +kernel
theorem dX8_coupleDigest_100 : decode cX8_coupleDigest 100 = .ok (.iload_n 3, 1) := by decide +kernel
theorem dX8_coupleDigest_101 : decode cX8_coupleDigest 101 = .ok (.bipush 12, 2) := by decide +kernel
theorem dX8_coupleDigest_103 : decode cX8_coupleDigest 103 = .ok (.iconst 0, 1) := by decide +kernel
theorem dX8_coupleDigest_104 : decode cX8_coupleDigest 104 = .ok (.invokevirtual 269, 3) := by decide +kernel
theorem dX8_coupleDigest_107 : decode cX8_coupleDigest 107 = .ok (.i2l, 1) := by decide +kernel
theorem dX8_coupleDigest_108 : decode cX8_coupleDigest 108 = .ok (.ladd, 1) := by decide +kernel
theorem dX8_coupleDigest_109 : decode cX8_coupleDigest 109 = .ok (.lstore 4, 2) := by decide +kernel
theorem dX8_coupleDigest_111 : decode cX8_coupleDigest 111 = .ok (.ldc2_w 341, 3) := by decide +kernel
theorem dX8_coupleDigest_114 : decode cX8_coupleDigest 114 = .ok (.lload 4, 2) := by decide +kernel
theorem dX8_coupleDigest_116 : decode cX8_coupleDigest 116 = .ok (.lmul, 1) := by decide +kernel
theorem dX8_coupleDigest_117 : decode cX8_coupleDigest 117 = .ok (.aload_n 0, 1) := by decide +kernel
theorem dX8_coupleDigest_118 : decode cX8_coupleDigest 118 = .ok (.iload_n 3, 1) := by decide +kernel
theorem dX8_coupleDigest_119 : decode cX8_coupleDigest 119 = .ok (.bipush 12, 2) := by decide +kernel
theorem dX8_coupleDigest_121 : decode cX8_coupleDigest 121 = .ok (.iconst 1, 1) := by decide +kernel
theorem dX8_coupleDigest_122 : decode cX8_coupleDigest 122 = .ok (.invokevirtual 269, 3) := by decide +kernel
theorem dX8_coupleDigest_125 : decode cX8_coupleDigest 125 = .ok (.i2l, 1) := by decide +kernel
theorem dX8_coupleDigest_126 : decode cX8_coupleDigest 126 = .ok (.ladd, 1) := by decide +kernel
theorem dX8_coupleDigest_127 : decode cX8_coupleDigest 127 = .ok (.lstore 4, 2) := by decide +kernel
theorem dX8_coupleDigest_129 : decode cX8_coupleDigest 129 = .ok (.iconst 0, 1) := by decide +kernel
theorem dX8_coupleDigest_130 : decode cX8_coupleDigest 130 = .ok (.istore 6, 2) := by decide +kernel
theorem dX8_coupleDigest_132 : decode cX8_coupleDigest 132 = .ok (.iload 6, 2) := by decide +kernel
theorem dX8_coupleDigest_134 : decode cX8_coupleDigest 134 = .ok (.iconst 3, 1) := by decide +kernel
theorem dX8_coupleDigest_135 : decode cX8_coupleDigest 135 = .ok (.if_icmp .ge 28, 3) := by decide +kernel
theorem dX8_coupleDigest_138 : decode cX8_coupleDigest 138 = .ok (.ldc2_w 341, 3) := by decide +kernel
theorem dX8_coupleDigest_141 : decode cX8_coupleDigest 141 = .ok (.lload 4, 2) := by decide +kernel
theorem dX8_coupleDigest_143 : decode cX8_coupleDigest 143 = .ok (.lmul, 1) := by decide +kernel
theorem dX8_coupleDigest_144 : decode cX8_coupleDigest 144 = .ok (.aload_n 0, 1) := by decide +kernel
theorem dX8_coupleDigest_145 : decode cX8_coupleDigest 145 = .ok (.iload_n 3, 1) := by decide +kernel
theorem dX8_coupleDigest_146 : decode cX8_coupleDigest 146 = .ok (.bipush 12, 2) := by decide +kernel
theorem dX8_coupleDigest_148 : decode cX8_coupleDigest 148 = .ok (.iload 6, 2) := by decide +kernel
theorem dX8_coupleDigest_150 : decode cX8_coupleDigest 150 = .ok (.invokevirtual 272, 3) := by decide +kernel
theorem dX8_coupleDigest_153 : decode cX8_coupleDigest 153 = .ok (.i2l, 1) := by decide +kernel
theorem dX8_coupleDigest_154 : decode cX8_coupleDigest 154 = .ok (.ladd, 1) := by decide +kernel
theorem dX8_coupleDigest_155 : decode cX8_coupleDigest 155 = .ok (.lstore 4, 2) := by decide +kernel
theorem dX8_coupleDigest_157 : decode cX8_coupleDigest 157 = .ok (.iinc 6 1, 3) := by decide +kernel
theorem dX8_coupleDigest_160 : decode cX8_coupleDigest 160 = .ok (.goto (-28), 3) := by decide +kernel
theorem dX8_coupleDigest_163 : decode cX8_coupleDigest 163 = .ok (.ldc2_w 341, 3) := by decide +kernel
theorem dX8_coupleDigest_166 : decode cX8_coupleDigest 166 = .ok (.lload 4, 2) := by decide +kernel
theorem dX8_coupleDigest_168 : decode cX8_coupleDigest 168 = .ok (.lmul, 1) := by decide +kernel
theorem dX8_coupleDigest_169 : decode cX8_coupleDigest 169 = .ok (.aload_n 0, 1) := by decide +kernel
theorem dX8_coupleDigest_170 : decode cX8_coupleDigest 170 = .ok (.iload_n 3, 1) := by decide +kernel
theorem dX8_coupleDigest_171 : decode cX8_coupleDigest 171 = .ok (.invokevirtual 300, 3) := by decide +kernel
theorem dX8_coupleDigest_174 : decode cX8_coupleDigest 174 = .ok (.i2l, 1) := by decide +kernel
theorem dX8_coupleDigest_175 : decode cX8_coupleDigest 175 = .ok (.ladd, 1) := by decide +kernel
theorem dX8_coupleDigest_176 : decode cX8_coupleDigest 176 = .ok (.lstore 4, 2) := by decide +kernel
theorem dX8_coupleDigest_178 : decode cX8_coupleDigest 178 = .ok (.ldc2_w 341, 3) := by decide +kernel
theorem dX8_coupleDigest_181 : decode cX8_coupleDigest 181 = .ok (.lload 4, 2) := by decide +kernel
theorem dX8_coupleDigest_183 : decode cX8_coupleDigest 183 = .ok (.lmul, 1) := by decide +kernel
theorem dX8_coupleDigest_184 : decode cX8_coupleDigest 184 = .ok (.aload_n 0, 1) := by decide +kernel
theorem dX8_coupleDigest_185 : decode cX8_coupleDigest 185 = .ok (.iload_n 3, 1) := by decide +kernel
theorem dX8_coupleDigest_186 : decode cX8_coupleDigest 186 = .ok (.invokevirtual 303, 3) := by decide +kernel
theorem dX8_coupleDigest_189 : decode cX8_coupleDigest 189 = .ok (.i2l, 1) := by decide +kernel
theorem dX8_coupleDigest_190 : decode cX8_coupleDigest 190 = .ok (.ladd, 1) := by decide +kernel
theorem dX8_coupleDigest_191 : decode cX8_coupleDigest 191 = .ok (.lstore 4, 2) := by decide +kernel
theorem dX8_coupleDigest_193 : decode cX8_coupleDigest 193 = .ok (.ldc2_w 341, 3) := by decide +kernel
theorem dX8_coupleDigest_196 : decode cX8_coupleDigest 196 = .ok (.lload 4, 2) := by decide +kernel
theorem dX8_coupleDigest_198 : decode cX8_coupleDigest 198 = .ok (.lmul, 1) := by decide +kernel
theorem dX8_coupleDigest_199 : decode cX8_coupleDigest 199 = .ok (.aload_n 0, 1) := by decide +kernel
theorem dX8_coupleDigest_200 : decode cX8_coupleDigest 200 = .ok (.iload_n 3, 1) := by decide +kernel
theorem dX8_coupleDigest_201 : decode cX8_coupleDigest 201 = .ok (.invokevirtual 306, 3) := by decide +kernel
theorem dX8_coupleDigest_204 : decode cX8_coupleDigest 204 = .ok (.i2l, 1) := by decide +kernel
theorem dX8_coupleDigest_205 : decode cX8_coupleDigest 205 = .ok (.ladd, 1) := by decide +kernel
theorem dX8_coupleDigest_206 : decode cX8_coupleDigest 206 = .ok (.lreturn, 1) := by decide +kernel
theorem dX8_digest_0 : decode cX8_digest 0 = .ok (.ldc2_w 347, 3) := by decide +kernel
theorem dX8_digest_3 : decode cX8_digest 3 = .ok (.lstore_n 1, 1) := by decide +kernel
theorem dX8_digest_4 : decode cX8_digest 4 = .ok (.iconst 0, 1) := by decide +kernel
theorem dX8_digest_5 : decode cX8_digest 5 = .ok (.istore_n 3, 1) := by decide +kernel
theorem dX8_digest_6 : decode cX8_digest 6 = .ok (.iload_n 3, 1) := by decide +kernel
theorem dX8_digest_7 : decode cX8_digest 7 = .ok (.bipush 8, 2) := by decide +kernel
theorem dX8_digest_9 : decode cX8_digest 9 = .ok (.if_icmp .ge 22, 3) := by decide +kernel
theorem dX8_digest_12 : decode cX8_digest 12 = .ok (.ldc2_w 341, 3) := by decide +kernel
theorem dX8_digest_15 : decode cX8_digest 15 = .ok (.lload_n 1, 1) := by decide +kernel
theorem dX8_digest_16 : decode cX8_digest 16 = .ok (.lmul, 1) := by decide +kernel
theorem dX8_digest_17 : decode cX8_digest 17 = .ok (.aload_n 0, 1) := by decide +kernel
theorem dX8_digest_18 : decode cX8_digest 18 = .ok (.iload_n 3, 1) := by decide +kernel
theorem dX8_digest_19 : decode cX8_digest 19 = .ok (.invokevirtual 349, 3) := by decide +kernel
theorem dX8_digest_22 : decode cX8_digest 22 = .ok (.i2l, 1) := by decide +kernel
theorem dX8_digest_23 : decode cX8_digest 23 = .ok (.ladd, 1) := by decide +kernel
theorem dX8_digest_24 : decode cX8_digest 24 = .ok (.lstore_n 1, 1) := by decide +kernel
theorem dX8_digest_25 : decode cX8_digest 25 = .ok (.iinc 3 1, 3) := by decide +kernel
theorem dX8_digest_28 : decode cX8_digest 28 = .ok (.goto (-22), 3) := by decide +kernel
theorem dX8_digest_31 : decode cX8_digest 31 = .ok (.ldc2_w 341, 3) := by decide +kernel
theorem dX8_digest_34 : decode cX8_digest 34 = .ok (.lload_n 1, 1) := by decide +kernel
theorem dX8_digest_35 : decode cX8_digest 35 = .ok (.lmul, 1) := by decide +kernel
theorem dX8_digest_36 : decode cX8_digest 36 = .ok (.aload_n 0, 1) := by decide +kernel
theorem dX8_digest_37 : decode cX8_digest 37 = .ok (.invokevirtual 146, 3) := by decide +kernel
theorem dX8_digest_40 : decode cX8_digest 40 = .ok (.i2l, 1) := by decide +kernel
theorem dX8_digest_41 : decode cX8_digest 41 = .ok (.ladd, 1) := by decide +kernel
theorem dX8_digest_42 : decode cX8_digest 42 = .ok (.lstore_n 1, 1) := by decide +kernel
theorem dX8_digest_43 : decode cX8_digest 43 = .ok (.iconst 0, 1) := by decide +kernel
theorem dX8_digest_44 : decode cX8_digest 44 = .ok (.istore_n 3, 1) := by decide +kernel
theorem dX8_digest_45 : decode cX8_digest 45 = .ok (.iload_n 3, 1) := by decide +kernel
theorem dX8_digest_46 : decode cX8_digest 46 = .ok (.aload_n 0, 1) := by decide +kernel
theorem dX8_digest_47 : decode cX8_digest 47 = .ok (.getfield 139, 3) := by decide +kernel
theorem dX8_digest_50 : decode cX8_digest 50 = .ok (.if_icmp .ge 16, 3) := by decide +kernel
theorem dX8_digest_53 : decode cX8_digest 53 = .ok (.aload_n 0, 1) := by decide +kernel
theorem dX8_digest_54 : decode cX8_digest 54 = .ok (.lload_n 1, 1) := by decide +kernel
theorem dX8_digest_55 : decode cX8_digest 55 = .ok (.iload_n 3, 1) := by decide +kernel
theorem dX8_digest_56 : decode cX8_digest 56 = .ok (.invokevirtual 352, 3) := by decide +kernel
theorem dX8_digest_59 : decode cX8_digest 59 = .ok (.lstore_n 1, 1) := by decide +kernel
theorem dX8_digest_60 : decode cX8_digest 60 = .ok (.iinc 3 1, 3) := by decide +kernel
theorem dX8_digest_63 : decode cX8_digest 63 = .ok (.goto (-18), 3) := by decide +kernel
theorem dX8_digest_66 : decode cX8_digest 66 = .ok (.iconst 0, 1) := by decide +kernel
theorem dX8_digest_67 : decode cX8_digest 67 = .ok (.istore_n 3, 1) := by decide +kernel
theorem dX8_digest_68 : decode cX8_digest 68 = .ok (.iload_n 3, 1) := by decide +kernel
theorem dX8_digest_69 : decode cX8_digest 69 = .ok (.aload_n 0, 1) := by decide +kernel
theorem dX8_digest_70 : decode cX8_digest 70 = .ok (.getfield 139, 3) := by decide +kernel
theorem dX8_digest_73 : decode cX8_digest 73 = .ok (.if_icmp .ge 63, 3) := by decide +kernel
theorem dX8_digest_76 : decode cX8_digest 76 = .ok (.iload_n 3, 1) := by decide +kernel
theorem dX8_digest_77 : decode cX8_digest 77 = .ok (.iconst 1, 1) := by decide +kernel
theorem dX8_digest_78 : decode cX8_digest 78 = .ok (.iadd, 1) := by decide +kernel
theorem dX8_digest_79 : decode cX8_digest 79 = .ok (.istore 4, 2) := by decide +kernel
theorem dX8_digest_81 : decode cX8_digest 81 = .ok (.iload 4, 2) := by decide +kernel
theorem dX8_digest_83 : decode cX8_digest 83 = .ok (.aload_n 0, 1) := by decide +kernel
theorem dX8_digest_84 : decode cX8_digest 84 = .ok (.getfield 139, 3) := by decide +kernel
theorem dX8_digest_87 : decode cX8_digest 87 = .ok (.if_icmp .ge 43, 3) := by decide +kernel
theorem dX8_digest_90 : decode cX8_digest 90 = .ok (.ldc2_w 341, 3) := by decide +kernel
theorem dX8_digest_93 : decode cX8_digest 93 = .ok (.lload_n 1, 1) := by decide +kernel
theorem dX8_digest_94 : decode cX8_digest 94 = .ok (.lmul, 1) := by decide +kernel
theorem dX8_digest_95 : decode cX8_digest 95 = .ok (.aload_n 0, 1) := by decide +kernel
theorem dX8_digest_96 : decode cX8_digest 96 = .ok (.bipush 9, 2) := by decide +kernel
theorem dX8_digest_98 : decode cX8_digest 98 = .ok (.iload_n 3, 1) := by decide +kernel
theorem dX8_digest_99 : decode cX8_digest 99 = .ok (.iload 4, 2) := by decide +kernel
theorem dX8_digest_101 : decode cX8_digest 101 = .ok (.invokevirtual 238, 3) := by decide +kernel
theorem dX8_digest_104 : decode cX8_digest 104 = .ok (.i2l, 1) := by decide +kernel
theorem dX8_digest_105 : decode cX8_digest 105 = .ok (.ladd, 1) := by decide +kernel
theorem dX8_digest_106 : decode cX8_digest 106 = .ok (.lstore_n 1, 1) := by decide +kernel
theorem dX8_digest_107 : decode cX8_digest 107 = .ok (.ldc2_w 341, 3) := by decide +kernel
theorem dX8_digest_110 : decode cX8_digest 110 = .ok (.lload_n 1, 1) := by decide +kernel
theorem dX8_digest_111 : decode cX8_digest 111 = .ok (.lmul, 1) := by decide +kernel
theorem dX8_digest_112 : decode cX8_digest 112 = .ok (.aload_n 0, 1) := by decide +kernel
theorem dX8_digest_113 : decode cX8_digest 113 = .ok (.bipush 19, 2) := by decide +kernel
theorem dX8_digest_115 : decode cX8_digest 115 = .ok (.iload_n 3, 1) := by decide +kernel
theorem dX8_digest_116 : decode cX8_digest 116 = .ok (.iload 4, 2) := by decide +kernel
theorem dX8_digest_118 : decode cX8_digest 118 = .ok (.invokevirtual 238, 3) := by decide +kernel
theorem dX8_digest_121 : decode cX8_digest 121 = .ok (.i2l, 1) := by decide +kernel
theorem dX8_digest_122 : decode cX8_digest 122 = .ok (.ladd, 1) := by decide +kernel
theorem dX8_digest_123 : decode cX8_digest 123 = .ok (.lstore_n 1, 1) := by decide +kernel
theorem dX8_digest_124 : decode cX8_digest 124 = .ok (.iinc 4 1, 3) := by decide +kernel
theorem dX8_digest_127 : decode cX8_digest 127 = .ok (.goto (-46), 3) := by decide +kernel
theorem dX8_digest_130 : decode cX8_digest 130 = .ok (.iinc 3 1, 3) := by decide +kernel
theorem dX8_digest_133 : decode cX8_digest 133 = .ok (.goto (-65), 3) := by decide +kernel
theorem dX8_digest_136 : decode cX8_digest 136 = .ok (.iconst 0, 1) := by decide +kernel
theorem dX8_digest_137 : decode cX8_digest 137 = .ok (.istore_n 3, 1) := by decide +kernel
theorem dX8_digest_138 : decode cX8_digest 138 = .ok (.iload_n 3, 1) := by decide +kernel
theorem dX8_digest_139 : decode cX8_digest 139 = .ok (.bipush 20, 2) := by decide +kernel
theorem dX8_digest_141 : decode cX8_digest 141 = .ok (.if_icmp .ge 50, 3) := by decide +kernel
theorem dX8_digest_144 : decode cX8_digest 144 = .ok (.ldc2_w 341, 3) := by decide +kernel
theorem dX8_digest_147 : decode cX8_digest 147 = .ok (.lload_n 1, 1) := by decide +kernel
theorem dX8_digest_148 : decode cX8_digest 148 = .ok (.lmul, 1) := by decide +kernel
theorem dX8_digest_149 : decode cX8_digest 149 = .ok (.aload_n 0, 1) := by decide +kernel
theorem dX8_digest_150 : decode cX8_digest 150 = .ok (.iload_n 3, 1) := by decide +kernel
theorem dX8_digest_151 : decode cX8_digest 151 = .ok (.iconst 0, 1) := by decide +kernel
theorem dX8_digest_152 : decode cX8_digest 152 = .ok (.invokevirtual 244, 3) := by decide +kernel
theorem dX8_digest_155 : decode cX8_digest 155 = .ok (.i2l, 1) := by decide +kernel
theorem dX8_digest_156 : decode cX8_digest 156 = .ok (.ladd, 1) := by decide +kernel
theorem dX8_digest_157 : decode cX8_digest 157 = .ok (.lstore_n 1, 1) := by decide +kernel
theorem dX8_digest_158 : decode cX8_digest 158 = .ok (.ldc2_w 341, 3) := by decide +kernel
theorem dX8_digest_161 : decode cX8_digest 161 = .ok (.lload_n 1, 1) := by decide +kernel
theorem dX8_digest_162 : decode cX8_digest 162 = .ok (.lmul, 1) := by decide +kernel
theorem dX8_digest_163 : decode cX8_digest 163 = .ok (.aload_n 0, 1) := by decide +kernel
theorem dX8_digest_164 : decode cX8_digest 164 = .ok (.iload_n 3, 1) := by decide +kernel
theorem dX8_digest_165 : decode cX8_digest 165 = .ok (.iconst 1, 1) := by decide +kernel
theorem dX8_digest_166 : decode cX8_digest 166 = .ok (.invokevirtual 244, 3) := by decide +kernel
theorem dX8_digest_169 : decode cX8_digest 169 = .ok (.i2l, 1) := by decide +kernel
theorem dX8_digest_170 : decode cX8_digest 170 = .ok (.ladd, 1) := by decide +kernel
theorem dX8_digest_171 : decode cX8_digest 171 = .ok (.lstore_n 1, 1) := by decide +kernel
theorem dX8_digest_172 : decode cX8_digest 172 = .ok (.ldc2_w 341, 3) := by decide +kernel
theorem dX8_digest_175 : decode cX8_digest 175 = .ok (.lload_n 1, 1) := by decide +kernel
theorem dX8_digest_176 : decode cX8_digest 176 = .ok (.lmul, 1) := by decide +kernel
theorem dX8_digest_177 : decode cX8_digest 177 = .ok (.aload_n 0, 1) := by decide +kernel
theorem dX8_digest_178 : decode cX8_digest 178 = .ok (.iload_n 3, 1) := by decide +kernel
theorem dX8_digest_179 : decode cX8_digest 179 = .ok (.invokevirtual 250, 3) := by decide +kernel
theorem dX8_digest_182 : decode cX8_digest 182 = .ok (.i2l, 1) := by decide +kernel
theorem dX8_digest_183 : decode cX8_digest 183 = .ok (.ladd, 1) := by decide +kernel
theorem dX8_digest_184 : decode cX8_digest 184 = .ok (.lstore_n 1, 1) := by decide +kernel
theorem dX8_digest_185 : decode cX8_digest 185 = .ok (.iinc 3 1, 3) := by decide +kernel
theorem dX8_digest_188 : decode cX8_digest 188 = .ok (.goto (-50), 3) := by decide +kernel
theorem dX8_digest_191 : decode cX8_digest 191 = .ok (.ldc2_w 341, 3) := by decide +kernel
theorem dX8_digest_194 : decode cX8_digest 194 = .ok (.lload_n 1, 1) := by decide +kernel
theorem dX8_digest_195 : decode cX8_digest 195 = .ok (.lmul, 1) := by decide +kernel
theorem dX8_digest_196 : decode cX8_digest 196 = .ok (.aload_n 0, 1) := by decide +kernel
theorem dX8_digest_197 : decode cX8_digest 197 = .ok (.invokevirtual 256, 3) := by decide +kernel
theorem dX8_digest_200 : decode cX8_digest 200 = .ok (.i2l, 1) := by decide +kernel
theorem dX8_digest_201 : decode cX8_digest 201 = .ok (.ladd, 1) := by decide +kernel
theorem dX8_digest_202 : decode cX8_digest 202 = .ok (.lstore_n 1, 1) := by decide +kernel
theorem dX8_digest_203 : decode cX8_digest 203 = .ok (.iconst 0, 1) := by decide +kernel
theorem dX8_digest_204 : decode cX8_digest 204 = .ok (.istore_n 3, 1) := by decide +kernel
theorem dX8_digest_205 : decode cX8_digest 205 = .ok (.iload_n 3, 1) := by decide +kernel
theorem dX8_digest_206 : decode cX8_digest 206 = .ok (.iconst 3, 1) := by decide +kernel
theorem dX8_digest_207 : decode cX8_digest 207 = .ok (.if_icmp .ge 22, 3) := by decide +kernel
theorem dX8_digest_210 : decode cX8_digest 210 = .ok (.ldc2_w 341, 3) := by decide +kernel
theorem dX8_digest_213 : decode cX8_digest 213 = .ok (.lload_n 1, 1) := by decide +kernel
theorem dX8_digest_214 : decode cX8_digest 214 = .ok (.lmul, 1) := by decide +kernel
theorem dX8_digest_215 : decode cX8_digest 215 = .ok (.aload_n 0, 1) := by decide +kernel
theorem dX8_digest_216 : decode cX8_digest 216 = .ok (.iload_n 3, 1) := by decide +kernel
theorem dX8_digest_217 : decode cX8_digest 217 = .ok (.invokevirtual 262, 3) := by decide +kernel
theorem dX8_digest_220 : decode cX8_digest 220 = .ok (.i2l, 1) := by decide +kernel
theorem dX8_digest_221 : decode cX8_digest 221 = .ok (.ladd, 1) := by decide +kernel
theorem dX8_digest_222 : decode cX8_digest 222 = .ok (.lstore_n 1, 1) := by decide +kernel
theorem dX8_digest_223 : decode cX8_digest 223 = .ok (.iinc 3 1, 3) := by decide +kernel
theorem dX8_digest_226 : decode cX8_digest 226 = .ok (.goto (-21), 3) := by decide +kernel
theorem dX8_digest_229 : decode cX8_digest 229 = .ok (.iconst 0, 1) := by decide +kernel
theorem dX8_digest_230 : decode cX8_digest 230 = .ok (.istore_n 3, 1) := by decide +kernel
theorem dX8_digest_231 : decode cX8_digest 231 = .ok (.iload_n 3, 1) := by decide +kernel
theorem dX8_digest_232 : decode cX8_digest 232 = .ok (.iconst 3, 1) := by decide +kernel
theorem dX8_digest_233 : decode cX8_digest 233 = .ok (.if_icmp .ge 22, 3) := by decide +kernel
theorem dX8_digest_236 : decode cX8_digest 236 = .ok (.ldc2_w 341, 3) := by decide +kernel
theorem dX8_digest_239 : decode cX8_digest 239 = .ok (.lload_n 1, 1) := by decide +kernel
theorem dX8_digest_240 : decode cX8_digest 240 = .ok (.lmul, 1) := by decide +kernel
theorem dX8_digest_241 : decode cX8_digest 241 = .ok (.aload_n 0, 1) := by decide +kernel
theorem dX8_digest_242 : decode cX8_digest 242 = .ok (.iload_n 3, 1) := by decide +kernel
theorem dX8_digest_243 : decode cX8_digest 243 = .ok (.invokevirtual 278, 3) := by decide +kernel
theorem dX8_digest_246 : decode cX8_digest 246 = .ok (.i2l, 1) := by decide +kernel
theorem dX8_digest_247 : decode cX8_digest 247 = .ok (.ladd, 1) := by decide +kernel
theorem dX8_digest_248 : decode cX8_digest 248 = .ok (.lstore_n 1, 1) := by decide +kernel
theorem dX8_digest_249 : decode cX8_digest 249 = .ok (.iinc 3 1, 3) := by decide +kernel
theorem dX8_digest_252 : decode cX8_digest 252 = .ok (.goto (-21), 3) := by decide +kernel
theorem dX8_digest_255 : decode cX8_digest 255 = .ok (.aload_n 0, 1) := by decide +kernel
theorem dX8_digest_256 : decode cX8_digest 256 = .ok (.invokevirtual 284, 3) := by decide +kernel
theorem dX8_digest_259 : decode cX8_digest 259 = .ok (.istore_n 3, 1) := by decide +kernel
theorem dX8_digest_260 : decode cX8_digest 260 = .ok (.ldc2_w 341, 3) := by decide +kernel
theorem dX8_digest_263 : decode cX8_digest 263 = .ok (.lload_n 1, 1) := by decide +kernel
theorem dX8_digest_264 : decode cX8_digest 264 = .ok (.lmul, 1) := by decide +kernel
theorem dX8_digest_265 : decode cX8_digest 265 = .ok (.iload_n 3, 1) := by decide +kernel
theorem dX8_digest_266 : decode cX8_digest 266 = .ok (.i2l, 1) := by decide +kernel
theorem dX8_digest_267 : decode cX8_digest 267 = .ok (.ladd, 1) := by decide +kernel
theorem dX8_digest_268 : decode cX8_digest 268 = .ok (.lstore_n 1, 1) := by decide +kernel
theorem dX8_digest_269 : decode cX8_digest 269 = .ok (.ldc2_w 341, 3) := by decide +kernel
theorem dX8_digest_272 : decode cX8_digest 272 = .ok (.lload_n 1, 1) := by decide +kernel
theorem dX8_digest_273 : decode cX8_digest 273 = .ok (.lmul, 1) := by decide +kernel
theorem dX8_digest_274 : decode cX8_digest 274 = .ok (.aload_n 0, 1) := by decide +kernel
theorem dX8_digest_275 : decode cX8_digest 275 = .ok (.iload_n 3, 1) := by decide +kernel
theorem dX8_digest_276 : decode cX8_digest 276 = .ok (.iconst 0, 1) := by decide +kernel
theorem dX8_digest_277 : decode cX8_digest 277 = .ok (.invokevirtual 287, 3) := by decide +kernel
theorem dX8_digest_280 : decode cX8_digest 280 = .ok (.i2l, 1) := by decide +kernel
theorem dX8_digest_281 : decode cX8_digest 281 = .ok (.ladd, 1) := by decide +kernel
theorem dX8_digest_282 : decode cX8_digest 282 = .ok (.lstore_n 1, 1) := by decide +kernel
theorem dX8_digest_283 : decode cX8_digest 283 = .ok (.ldc2_w 341, 3) := by decide +kernel
theorem dX8_digest_286 : decode cX8_digest 286 = .ok (.lload_n 1, 1) := by decide +kernel
theorem dX8_digest_287 : decode cX8_digest 287 = .ok (.lmul, 1) := by decide +kernel
theorem dX8_digest_288 : decode cX8_digest 288 = .ok (.aload_n 0, 1) := by decide +kernel
theorem dX8_digest_289 : decode cX8_digest 289 = .ok (.invokevirtual 297, 3) := by decide +kernel
theorem dX8_digest_292 : decode cX8_digest 292 = .ok (.i2l, 1) := by decide +kernel
theorem dX8_digest_293 : decode cX8_digest 293 = .ok (.ladd, 1) := by decide +kernel
theorem dX8_digest_294 : decode cX8_digest 294 = .ok (.lstore_n 1, 1) := by decide +kernel
theorem dX8_digest_295 : decode cX8_digest 295 = .ok (.ldc2_w 341, 3) := by decide +kernel
theorem dX8_digest_298 : decode cX8_digest 298 = .ok (.lload_n 1, 1) := by decide +kernel
theorem dX8_digest_299 : decode cX8_digest 299 = .ok (.lmul, 1) := by decide +kernel
theorem dX8_digest_300 : decode cX8_digest 300 = .ok (.aload_n 0, 1) := by decide +kernel
theorem dX8_digest_301 : decode cX8_digest 301 = .ok (.iconst 5, 1) := by decide +kernel
theorem dX8_digest_302 : decode cX8_digest 302 = .ok (.bipush 14, 2) := by decide +kernel
theorem dX8_digest_304 : decode cX8_digest 304 = .ok (.iconst 0, 1) := by decide +kernel
theorem dX8_digest_305 : decode cX8_digest 305 = .ok (.invokevirtual 313, 3) := by decide +kernel
theorem dX8_digest_308 : decode cX8_digest 308 = .ok (.ladd, 1) := by decide +kernel
theorem dX8_digest_309 : decode cX8_digest 309 = .ok (.lstore_n 1, 1) := by decide +kernel
theorem dX8_digest_310 : decode cX8_digest 310 = .ok (.ldc2_w 341, 3) := by decide +kernel
theorem dX8_digest_313 : decode cX8_digest 313 = .ok (.lload_n 1, 1) := by decide +kernel
theorem dX8_digest_314 : decode cX8_digest 314 = .ok (.lmul, 1) := by decide +kernel
theorem dX8_digest_315 : decode cX8_digest 315 = .ok (.aload_n 0, 1) := by decide +kernel
theorem dX8_digest_316 : decode cX8_digest 316 = .ok (.iconst 5, 1) := by decide +kernel
theorem dX8_digest_317 : decode cX8_digest 317 = .ok (.bipush 14, 2) := by decide +kernel
theorem dX8_digest_319 : decode cX8_digest 319 = .ok (.iconst 1, 1) := by decide +kernel
theorem dX8_digest_320 : decode cX8_digest 320 = .ok (.invokevirtual 313, 3) := by decide +kernel
theorem dX8_digest_323 : decode cX8_digest 323 = .ok (.ladd, 1) := by decide +kernel
theorem dX8_digest_324 : decode cX8_digest 324 = .ok (.lstore_n 1, 1) := by decide +kernel
theorem dX8_digest_325 : decode cX8_digest 325 = .ok (.ldc2_w 341, 3) := by decide +kernel
theorem dX8_digest_328 : decode cX8_digest 328 = .ok (.lload_n 1, 1) := by decide +kernel
theorem dX8_digest_329 : decode cX8_digest 329 = .ok (.lmul, 1) := by decide +kernel
theorem dX8_digest_330 : decode cX8_digest 330 = .ok (.aload_n 0, 1) := by decide +kernel
theorem dX8_digest_331 : decode cX8_digest 331 = .ok (.bipush 7, 2) := by decide +kernel
theorem dX8_digest_333 : decode cX8_digest 333 = .ok (.bipush 6, 2) := by decide +kernel
theorem dX8_digest_335 : decode cX8_digest 335 = .ok (.iconst 0, 1) := by decide +kernel
theorem dX8_digest_336 : decode cX8_digest 336 = .ok (.invokevirtual 325, 3) := by decide +kernel
theorem dX8_digest_339 : decode cX8_digest 339 = .ok (.i2l, 1) := by decide +kernel
theorem dX8_digest_340 : decode cX8_digest 340 = .ok (.ladd, 1) := by decide +kernel
theorem dX8_digest_341 : decode cX8_digest 341 = .ok (.lstore_n 1, 1) := by decide +kernel
theorem dX8_digest_342 : decode cX8_digest 342 = .ok (.ldc2_w 341, 3) := by decide +kernel
theorem dX8_digest_345 : decode cX8_digest 345 = .ok (.lload_n 1, 1) := by decide +kernel
theorem dX8_digest_346 : decode cX8_digest 346 = .ok (.lmul, 1) := by decide +kernel
theorem dX8_digest_347 : decode cX8_digest 347 = .ok (.aload_n 0, 1) := by decide +kernel
theorem dX8_digest_348 : decode cX8_digest 348 = .ok (.bipush 7, 2) := by decide +kernel
theorem dX8_digest_350 : decode cX8_digest 350 = .ok (.bipush 6, 2) := by decide +kernel
theorem dX8_digest_352 : decode cX8_digest 352 = .ok (.iconst 1, 1) := by decide +kernel
theorem dX8_digest_353 : decode cX8_digest 353 = .ok (.invokevirtual 325, 3) := by decide +kernel
theorem dX8_digest_356 : decode cX8_digest 356 = .ok (.i2l, 1) := by decide +kernel
theorem dX8_digest_357 : decode cX8_digest 357 = .ok (.ladd, 1) := by decide +kernel
theorem dX8_digest_358 : decode cX8_digest 358 = .ok (.lreturn, 1) := by decide +kernel
