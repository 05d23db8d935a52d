theorem dX12_in_0 : decode cX12_in 0 = .ok (.lload_n 0, 1) := by decide +kernel
theorem dX12_in_1 : decode cX12_in 1 = .ok (.lload_n 2, 1) := by decide +kernel
theorem dX12_in_2 : decode cX12_in 2 = .ok (.lcmp, 1) := by decide +kernel
theorem dX12_in_3 : decode cX12_in 3 = .ok (.ifCond .lt 14, 3) := by decide +kernel
theorem dX12_in_6 : decode cX12_in 6 = .ok (.lload_n 0, 1) := by decide +kernel
theorem dX12_in_7 : decode cX12_in 7 = .ok (.lload 4, 2) := by decide +kernel
theorem dX12_in_9 : decode cX12_in 9 = .ok (.lcmp, 1) := by decide +kernel
theorem dX12_in_10 : decode cX12_in 10 = .ok (.ifCond .gt 7, 3) := by decide +kernel
theorem dX12_in_13 : decode cX12_in 13 = .ok (.iconst 1, 1) := by decide +kernel
theorem dX12_in_14 : decode cX12_in 14 = .ok (.goto 4, 3) := by decide +kernel
theorem dX12_in_17 : decode cX12_in 17 = .ok (.iconst 0, 1) := by decide +kernel
theorem dX12_in_18 : decode cX12_in 18 = .ok (.ireturn, 1) := by decide +kernel
theorem dX12_init_0 : decode cX12_init 0 = .ok (.aload_n 0, 1) := by decide +kernel
theorem dX12_init_1 : decode cX12_init 1 = .ok (.invokespecial 7, 3) := by decide +kernel
theorem dX12_init_4 : decode cX12_init 4 = .ok (.aload_n 0, 1) := by decide +kernel
theorem dX12_init_5 : decode cX12_init 5 = .ok (.sipush 960, 3) := by decide +kernel
theorem dX12_init_8 : decode cX12_init 8 = .ok (.newarray .int, 2) := by decide +kernel
theorem dX12_init_10 : decode cX12_init 10 = .ok (.putfield 13, 3) := by decide +kernel
theorem dX12_init_13 : decode cX12_init 13 = .ok (.aload_n 0, 1) := by decide +kernel
theorem dX12_init_14 : decode cX12_init 14 = .ok (.bipush 6, 2) := by decide +kernel
theorem dX12_init_16 : decode cX12_init 16 = .ok (.newarray .int, 2) := by decide +kernel
theorem dX12_init_18 : decode cX12_init 18 = .ok (.putfield 17, 3) := by decide +kernel
theorem dX12_init_21 : decode cX12_init 21 = .ok (.aload_n 0, 1) := by decide +kernel
theorem dX12_init_22 : decode cX12_init 22 = .ok (.sipush 160, 3) := by decide +kernel
theorem dX12_init_25 : decode cX12_init 25 = .ok (.newarray .int, 2) := by decide +kernel
theorem dX12_init_27 : decode cX12_init 27 = .ok (.putfield 20, 3) := by decide +kernel
theorem dX12_init_30 : decode cX12_init 30 = .ok (.aload_n 0, 1) := by decide +kernel
theorem dX12_init_31 : decode cX12_init 31 = .ok (.bipush 7, 2) := by decide +kernel
theorem dX12_init_33 : decode cX12_init 33 = .ok (.newarray .int, 2) := by decide +kernel
theorem dX12_init_35 : decode cX12_init 35 = .ok (.putfield 23, 3) := by decide +kernel
theorem dX12_init_38 : decode cX12_init 38 = .ok (.aload_n 0, 1) := by decide +kernel
theorem dX12_init_39 : decode cX12_init 39 = .ok (.bipush 7, 2) := by decide +kernel
theorem dX12_init_41 : decode cX12_init 41 = .ok (.newarray .int, 2) := by decide +kernel
theorem dX12_init_43 : decode cX12_init 43 = .ok (.putfield 26, 3) := by decide +kernel
theorem dX12_init_46 : decode cX12_init 46 = .ok (.aload_n 0, 1) := by decide +kernel
theorem dX12_init_47 : decode cX12_init 47 = .ok (.bipush 7, 2) := by decide +kernel
theorem dX12_init_49 : decode cX12_init 49 = .ok (.newarray .int, 2) := by decide +kernel
theorem dX12_init_51 : decode cX12_init 51 = .ok (.putfield 29, 3) := by decide +kernel
theorem dX12_init_54 : decode cX12_init 54 = .ok (.aload_n 0, 1) := by decide +kernel
theorem dX12_init_55 : decode cX12_init 55 = .ok (.bipush 7, 2) := by decide +kernel
theorem dX12_init_57 : decode cX12_init 57 = .ok (.newarray .int, 2) := by decide +kernel
theorem dX12_init_59 : decode cX12_init 59 = .ok (.putfield 32, 3) := by decide +kernel
theorem dX12_init_62 : decode cX12_init 62 = .ok (.aload_n 0, 1) := by decide +kernel
theorem dX12_init_63 : decode cX12_init 63 = .ok (.bipush 14, 2) := by decide +kernel
theorem dX12_init_65 : decode cX12_init 65 = .ok (.newarray .int, 2) := by decide +kernel
theorem dX12_init_67 : decode cX12_init 67 = .ok (.putfield 35, 3) := by decide +kernel
theorem dX12_init_70 : decode cX12_init 70 = .ok (.aload_n 0, 1) := by decide +kernel
theorem dX12_init_71 : decode cX12_init 71 = .ok (.bipush 14, 2) := by decide +kernel
theorem dX12_init_73 : decode cX12_init 73 = .ok (.newarray .int, 2) := by decide +kernel
theorem dX12_init_75 : decode cX12_init 75 = .ok (.putfield 38, 3) := by decide +kernel
theorem dX12_init_78 : decode cX12_init 78 = .ok (.aload_n 0, 1) := by decide +kernel
theorem dX12_init_79 : decode cX12_init 79 = .ok (.bipush 14, 2) := by decide +kernel
theorem dX12_init_81 : decode cX12_init 81 = .ok (.newarray .int, 2) := by decide +kernel
theorem dX12_init_83 : decode cX12_init 83 = .ok (.putfield 41, 3) := by decide +kernel
theorem dX12_init_86 : decode cX12_init 86 = .ok (.aload_n 0, 1) := by decide +kernel
theorem dX12_init_87 : decode cX12_init 87 = .ok (.bipush 14, 2) := by decide +kernel
theorem dX12_init_89 : decode cX12_init 89 = .ok (.newarray .int, 2) := by decide +kernel
theorem dX12_init_91 : decode cX12_init 91 = .ok (.putfield 44, 3) := by decide +kernel
theorem dX12_init_94 : decode cX12_init 94 = .ok (.aload_n 0, 1) := by decide +kernel
theorem dX12_init_95 : decode cX12_init 95 = .ok (.bipush 14, 2) := by decide +kernel
theorem dX12_init_97 : decode cX12_init 97 = .ok (.newarray .int, 2) := by decide +kernel
theorem dX12_init_99 : decode cX12_init 99 = .ok (.putfield 47, 3) := by decide +kernel
theorem dX12_init_102 : decode cX12_init 102 = .ok (.aload_n 0, 1) := by decide +kernel
theorem dX12_init_103 : decode cX12_init 103 = .ok (.bipush 14, 2) := by decide +kernel
theorem dX12_init_105 : decode cX12_init 105 = .ok (.newarray .int, 2) := by decide +kernel
theorem dX12_init_107 : decode cX12_init 107 = .ok (.putfield 50, 3) := by decide +kernel
theorem dX12_init_110 : decode cX12_init 110 = .ok (.aload_n 0, 1) := by decide +kernel
theorem dX12_init_111 : decode cX12_init 111 = .ok (.bipush 14, 2) := by decide +kernel
theorem dX12_init_113 : decode cX12_init 113 = .ok (.newarray .int, 2) := by decide +kernel
theorem dX12_init_115 : decode cX12_init 115 = .ok (.putfield 53, 3) := by decide +kernel
theorem dX12_init_118 : decode cX12_init 118 = .ok (.aload_n 0, 1) := by decide +kernel
theorem dX12_init_119 : decode cX12_init 119 = .ok (.sipush 8658, 3) := by decide +kernel
theorem dX12_init_122 : decode cX12_init 122 = .ok (.newarray .int, 2) := by decide +kernel
theorem dX12_init_124 : decode cX12_init 124 = .ok (.putfield 56, 3) := by decide +kernel
theorem dX12_init_127 : decode cX12_init 127 = .ok (.aload_n 0, 1) := by decide +kernel
theorem dX12_init_128 : decode cX12_init 128 = .ok (.sipush 8658, 3) := by decide +kernel
theorem dX12_init_131 : decode cX12_init 131 = .ok (.newarray .int, 2) := by decide +kernel
theorem dX12_init_133 : decode cX12_init 133 = .ok (.putfield 59, 3) := by decide +kernel
theorem dX12_init_136 : decode cX12_init 136 = .ok (.aload_n 0, 1) := by decide +kernel
theorem dX12_init_137 : decode cX12_init 137 = .ok (.sipush 8658, 3) := by decide +kernel
theorem dX12_init_140 : decode cX12_init 140 = .ok (.newarray .int, 2) := by decide +kernel
theorem dX12_init_142 : decode cX12_init 142 = .ok (.putfield 62, 3) := by decide +kernel
theorem dX12_init_145 : decode cX12_init 145 = .ok (.aload_n 0, 1) := by decide +kernel
theorem dX12_init_146 : decode cX12_init 146 = .ok (.sipush 8658, 3) := by decide +kernel
theorem dX12_init_149 : decode cX12_init 149 = .ok (.newarray .int, 2) := by decide +kernel
theorem dX12_init_151 : decode cX12_init 151 = .ok (.putfield 65, 3) := by decide +kernel
theorem dX12_init_154 : decode cX12_init 154 = .ok (.aload_n 0, 1) := by decide +kernel
theorem dX12_init_155 : decode cX12_init 155 = .ok (.bipush 14, 2) := by decide +kernel
theorem dX12_init_157 : decode cX12_init 157 = .ok (.newarray .int, 2) := by decide +kernel
theorem dX12_init_159 : decode cX12_init 159 = .ok (.putfield 68, 3) := by decide +kernel
theorem dX12_init_162 : decode cX12_init 162 = .ok (.aload_n 0, 1) := by decide +kernel
theorem dX12_init_163 : decode cX12_init 163 = .ok (.bipush 100, 2) := by decide +kernel
theorem dX12_init_165 : decode cX12_init 165 = .ok (.newarray .int, 2) := by decide +kernel
theorem dX12_init_167 : decode cX12_init 167 = .ok (.putfield 71, 3) := by decide +kernel
theorem dX12_init_170 : decode cX12_init 170 = .ok (.aload_n 0, 1) := by decide +kernel
theorem dX12_init_171 : decode cX12_init 171 = .ok (.bipush 100, 2) := by decide +kernel
theorem dX12_init_173 : decode cX12_init 173 = .ok (.newarray .int, 2) := by decide +kernel
theorem dX12_init_175 : decode cX12_init 175 = .ok (.putfield 74, 3) := by decide +kernel
theorem dX12_init_178 : decode cX12_init 178 = .ok (.aload_n 0, 1) := by decide +kernel
theorem dX12_init_179 : decode cX12_init 179 = .ok (.bipush 100, 2) := by decide +kernel
theorem dX12_init_181 : decode cX12_init 181 = .ok (.newarray .int, 2) := by decide +kernel
theorem dX12_init_183 : decode cX12_init 183 = .ok (.putfield 77, 3) := by decide +kernel
theorem dX12_init_186 : decode cX12_init 186 = .ok (.aload_n 0, 1) := by decide +kernel
theorem dX12_init_187 : decode cX12_init 187 = .ok (.bipush 7, 2) := by decide +kernel
theorem dX12_init_189 : decode cX12_init 189 = .ok (.newarray .int, 2) := by decide +kernel
theorem dX12_init_191 : decode cX12_init 191 = .ok (.putfield 80, 3) := by decide +kernel
theorem dX12_init_194 : decode cX12_init 194 = .ok (.aload_n 0, 1) := by decide +kernel
theorem dX12_init_195 : decode cX12_init 195 = .ok (.bipush 7, 2) := by decide +kernel
theorem dX12_init_197 : decode cX12_init 197 = .ok (.newarray .int, 2) := by decide +kernel
theorem dX12_init_199 : decode cX12_init 199 = .ok (.putfield 83, 3) := by decide +kernel
theorem dX12_init_202 : decode cX12_init 202 = .ok (.aload_n 0, 1) := by decide +kernel
theorem dX12_init_203 : decode cX12_init 203 = .ok (.bipush 14, 2) := by decide +kernel
theorem dX12_init_205 : decode cX12_init 205 = .ok (.newarray .int, 2) := by decide +kernel
theorem dX12_init_207 : decode cX12_init 207 = .ok (.putfield 86, 3) := by decide +kernel
theorem dX12_init_210 : decode cX12_init 210 = .ok (.aload_n 0, 1) := by decide +kernel
theorem dX12_init_211 : decode cX12_init 211 = .ok (.bipush 14, 2) := by decide +kernel
theorem dX12_init_213 : decode cX12_init 213 = .ok (.newarray .int, 2) := by decide +kernel
theorem dX12_init_215 : decode cX12_init 215 = .ok (.putfield 89, 3) := by decide +kernel
theorem dX12_init_218 : decode cX12_init 218 = .ok (.aload_n 0, 1) := by decide +kernel
theorem dX12_init_219 : decode cX12_init 219 = .ok (.bipush 100, 2) := by decide +kernel
theorem dX12_init_221 : decode cX12_init 221 = .ok (.newarray .int, 2) := by decide +kernel
theorem dX12_init_223 : decode cX12_init 223 = .ok (.putfield 92, 3) := by decide +kernel
theorem dX12_init_226 : decode cX12_init 226 = .ok (.aload_n 0, 1) := by decide +kernel
theorem dX12_init_227 : decode cX12_init 227 = .ok (.iconst 4, 1) := by decide +kernel
theorem dX12_init_228 : decode cX12_init 228 = .ok (.newarray .boolean, 2) := by decide +kernel
theorem dX12_init_230 : decode cX12_init 230 = .ok (.putfield 95, 3) := by decide +kernel
theorem dX12_init_233 : decode cX12_init 233 = .ok (.aload_n 0, 1) := by decide +kernel
theorem dX12_init_234 : decode cX12_init 234 = .ok (.iconst 4, 1) := by decide +kernel
theorem dX12_init_235 : decode cX12_init 235 = .ok (.newarray .int, 2) := by decide +kernel
theorem dX12_init_237 : decode cX12_init 237 = .ok (.putfield 99, 3) := by decide +kernel
theorem dX12_init_240 : decode cX12_init 240 = .ok (.aload_n 0, 1) := by decide +kernel
theorem dX12_init_241 : decode cX12_init 241 = .ok (.iconst 4, 1) := by decide +kernel
theorem dX12_init_242 : decode cX12_init 242 = .ok (.newarray .int, 2) := by decide +kernel
theorem dX12_init_244 : decode cX12_init 244 = .ok (.putfield 102, 3) := by decide +kernel
theorem dX12_init_247 : decode cX12_init 247 = .ok (.aload_n 0, 1) := by decide +kernel
theorem dX12_init_248 : decode cX12_init 248 = .ok (.sipush 160, 3) := by decide +kernel
theorem dX12_init_251 : decode cX12_init 251 = .ok (.newarray .int, 2) := by decide +kernel
theorem dX12_init_253 : decode cX12_init 253 = .ok (.putfield 105, 3) := by decide +kernel
theorem dX12_init_256 : decode cX12_init 256 = .ok (.aload_n 0, 1) := by decide +kernel
theorem dX12_init_257 : decode cX12_init 257 = .ok (.iconst 0, 1) := by decide +kernel
theorem dX12_init_258 : decode cX12_init 258 = .ok (.ldc2_w 108, 3) := by decide +kernel
theorem dX12_init_261 : decode cX12_init 261 = .ok (.invokevirtual 110, 3) := by decide +kernel
theorem dX12_init_264 : decode cX12_init 264 = .ok (.aload_n 0, 1) := by decide +kernel
theorem dX12_init_265 : decode cX12_init 265 = .ok (.bipush 8, 2) := by decide +kernel
theorem dX12_init_267 : decode cX12_init 267 = .ok (.ldc2_w 114, 3) := by decide +kernel
theorem dX12_init_270 : decode cX12_init 270 = .ok (.invokevirtual 110, 3) := by decide +kernel
theorem dX12_init_273 : decode cX12_init 273 = .ok (.aload_n 0, 1) := by decide +kernel
theorem dX12_init_274 : decode cX12_init 274 = .ok (.bipush 16, 2) := by decide +kernel
theorem dX12_init_276 : decode cX12_init 276 = .ok (.ldc2_w 116, 3) := by decide +kernel
theorem dX12_init_279 : decode cX12_init 279 = .ok (.invokevirtual 110, 3) := by decide +kernel
theorem dX12_init_282 : decode cX12_init 282 = .ok (.aload_n 0, 1) := by decide +kernel
theorem dX12_init_283 : decode cX12_init 283 = .ok (.bipush 24, 2) := by decide +kernel
theorem dX12_init_285 : decode cX12_init 285 = .ok (.ldc2_w 118, 3) := by decide +kernel
theorem dX12_init_288 : decode cX12_init 288 = .ok (.invokevirtual 110, 3) := by decide +kernel
theorem dX12_init_291 : decode cX12_init 291 = .ok (.aload_n 0, 1) := by decide +kernel
theorem dX12_init_292 : decode cX12_init 292 = .ok (.bipush 32, 2) := by decide +kernel
theorem dX12_init_294 : decode cX12_init 294 = .ok (.ldc2_w 120, 3) := by decide +kernel
theorem dX12_init_297 : decode cX12_init 297 = .ok (.invokevirtual 110, 3) := by decide +kernel
theorem dX12_init_300 : decode cX12_init 300 = .ok (.aload_n 0, 1) := by decide +kernel
theorem dX12_init_301 : decode cX12_init 301 = .ok (.bipush 40, 2) := by decide +kernel
theorem dX12_init_303 : decode cX12_init 303 = .ok (.ldc2_w 122, 3) := by decide +kernel
theorem dX12_init_306 : decode cX12_init 306 = .ok (.invokevirtual 110, 3) := by decide +kernel
theorem dX12_init_309 : decode cX12_init 309 = .ok (.aload_n 0, 1) := by decide +kernel
theorem dX12_init_310 : decode cX12_init 310 = .ok (.bipush 48, 2) := by decide +kernel
theorem dX12_init_312 : decode cX12_init 312 = .ok (.ldc2_w 124, 3) := by decide +kernel
theorem dX12_init_315 : decode cX12_init 315 = .ok (.invokevirtual 110, 3) := by decide +kernel
theorem dX12_init_318 : decode cX12_init 318 = .ok (.aload_n 0, 1) := by decide +kernel
theorem dX12_init_319 : decode cX12_init 319 = .ok (.getfield 17, 3) := by decide +kernel
theorem dX12_init_322 : decode cX12_init 322 = .ok (.iconst 0, 1) := by decide +kernel
theorem dX12_init_323 : decode cX12_init 323 = .ok (.bipush 56, 2) := by decide +kernel
theorem dX12_init_325 : decode cX12_init 325 = .ok (.iastore, 1) := by decide +kernel
theorem dX12_init_326 : decode cX12_init 326 = .ok (.aload_n 0, 1) := by decide +kernel
theorem dX12_init_327 : decode cX12_init 327 = .ok (.iconst 1, 1) := by decide +kernel
theorem dX12_init_328 : decode cX12_init 328 = .ok (.putfield 126, 3) := by decide +kernel
theorem dX12_init_331 : decode cX12_init 331 = .ok (.return_, 1) := by decide +kernel
theorem dX12_spell_0 : decode cX12_spell 0 = .ok (.iconst 0, 1) := by decide +kernel
theorem dX12_spell_1 : decode cX12_spell 1 = .ok (.istore 4, 2) := by decide +kernel
theorem dX12_spell_3 : decode cX12_spell 3 = .ok (.iload 4, 2) := by decide +kernel
theorem dX12_spell_5 : decode cX12_spell 5 = .ok (.bipush 8, 2) := by decide +kernel
theorem dX12_spell_7 : decode cX12_spell 7 = .ok (.if_icmp .ge 33, 3) := by decide +kernel
theorem dX12_spell_10 : decode cX12_spell 10 = .ok (.aload_n 0, 1) := by decide +kernel
theorem dX12_spell_11 : decode cX12_spell 11 = .ok (.getfield 13, 3) := by decide +kernel
theorem dX12_spell_14 : decode cX12_spell 14 = .ok (.iload_n 1, 1) := by decide +kernel
theorem dX12_spell_15 : decode cX12_spell 15 = .ok (.iload 4, 2) := by decide +kernel
theorem dX12_spell_17 : decode cX12_spell 17 = .ok (.iadd, 1) := by decide +kernel
theorem dX12_spell_18 : decode cX12_spell 18 = .ok (.lload_n 2, 1) := by decide +kernel
theorem dX12_spell_19 : decode cX12_spell 19 = .ok (.bipush 56, 2) := by decide +kernel
theorem dX12_spell_21 : decode cX12_spell 21 = .ok (.bipush 8, 2) := by decide +kernel
theorem dX12_spell_23 : decode cX12_spell 23 = .ok (.iload 4, 2) := by decide +kernel
theorem dX12_spell_25 : decode cX12_spell 25 = .ok (.imul, 1) := by decide +kernel
theorem dX12_spell_26 : decode cX12_spell 26 = .ok (.isub, 1) := by decide +kernel
theorem dX12_spell_27 : decode cX12_spell 27 = .ok (.lshr, 1) := by decide +kernel
theorem dX12_spell_28 : decode cX12_spell 28 = .ok (.ldc2_w 129, 3) := by decide +kernel
theorem dX12_spell_31 : decode cX12_spell 31 = .ok (.land, 1) := by decide +kernel
theorem dX12_spell_32 : decode cX12_spell 32 = .ok (.l2i, 1) := by decide +kernel
theorem dX12_spell_33 : decode cX12_spell 33 = .ok (.iastore, 1) := by decide +kernel
theorem dX12_spell_34 : decode cX12_spell 34 = .ok (.iinc 4 1, 3) := by decide +kernel
theorem dX12_spell_37 : decode cX12_spell 37 = .ok (.goto (-34), 3) := by decide +kernel
theorem dX12_spell_40 : decode cX12_spell 40 = .ok (.return_, 1) := by decide +kernel
theorem dX12_isCrossing_0 : decode cX12_isCrossing 0 = .ok (.iload_n 1, 1) := by decide +kernel
theorem dX12_isCrossing_1 : decode cX12_isCrossing 1 = .ok (.i2l, 1) := by decide +kernel
theorem dX12_isCrossing_2 : decode cX12_isCrossing 2 = .ok (.lconst 0, 1) := by decide +kernel
theorem dX12_isCrossing_3 : decode cX12_isCrossing 3 = .ok (.aload_n 0, 1) := by decide +kernel
theorem dX12_isCrossing_4 : decode cX12_isCrossing 4 = .ok (.getfield 131, 3) := by decide +kernel
theorem dX12_isCrossing_7 : decode cX12_isCrossing 7 = .ok (.iconst 1, 1) := by decide +kernel
theorem dX12_isCrossing_8 : decode cX12_isCrossing 8 = .ok (.isub, 1) := by decide +kernel
theorem dX12_isCrossing_9 : decode cX12_isCrossing 9 = .ok (.i2l, 1) := by decide +kernel
theorem dX12_isCrossing_10 : decode cX12_isCrossing 10 = .ok (.invokestatic 134, 3) := by decide +kernel
theorem dX12_isCrossing_13 : decode cX12_isCrossing 13 = .ok (.ireturn, 1) := by decide +kernel
theorem dX12_isRower_0 : decode cX12_isRower 0 = .ok (.iload_n 1, 1) := by decide +kernel
theorem dX12_isRower_1 : decode cX12_isRower 1 = .ok (.i2l, 1) := by decide +kernel
theorem dX12_isRower_2 : decode cX12_isRower 2 = .ok (.lconst 0, 1) := by decide +kernel
theorem dX12_isRower_3 : decode cX12_isRower 3 = .ok (.aload_n 0, 1) := by decide +kernel
theorem dX12_isRower_4 : decode cX12_isRower 4 = .ok (.getfield 138, 3) := by decide +kernel
theorem dX12_isRower_7 : decode cX12_isRower 7 = .ok (.iconst 1, 1) := by decide +kernel
theorem dX12_isRower_8 : decode cX12_isRower 8 = .ok (.isub, 1) := by decide +kernel
theorem dX12_isRower_9 : decode cX12_isRower 9 = .ok (.i2l, 1) := by decide +kernel
theorem dX12_isRower_10 : decode cX12_isRower 10 = .ok (.invokestatic 134, 3) := by decide +kernel
theorem dX12_isRower_13 : decode cX12_isRower 13 = .ok (.ireturn, 1) := by decide +kernel
theorem dX12_isHour_0 : decode cX12_isHour 0 = .ok (.iload_n 0, 1) := by decide +kernel
theorem dX12_isHour_1 : decode cX12_isHour 1 = .ok (.i2l, 1) := by decide +kernel
theorem dX12_isHour_2 : decode cX12_isHour 2 = .ok (.lconst 0, 1) := by decide +kernel
theorem dX12_isHour_3 : decode cX12_isHour 3 = .ok (.ldc2_w 141, 3) := by decide +kernel
theorem dX12_isHour_6 : decode cX12_isHour 6 = .ok (.invokestatic 134, 3) := by decide +kernel
theorem dX12_isHour_9 : decode cX12_isHour 9 = .ok (.ireturn, 1) := by decide +kernel
theorem dX12_areLandings_0 : decode cX12_areLandings 0 = .ok (.iload_n 0, 1) := by decide +kernel
theorem dX12_areLandings_1 : decode cX12_areLandings 1 = .ok (.i2l, 1) := by decide +kernel
theorem dX12_areLandings_2 : decode cX12_areLandings 2 = .ok (.lconst 0, 1) := by decide +kernel
theorem dX12_areLandings_3 : decode cX12_areLandings 3 = .ok (.ldc2_w 143, 3) := by decide +kernel
theorem dX12_areLandings_6 : decode cX12_areLandings 6 = .ok (.invokestatic 134, 3) := by decide +kernel
theorem dX12_areLandings_9 : decode cX12_areLandings 9 = .ok (.ifCond .eq 18, 3) := by decide +kernel
theorem dX12_areLandings_12 : decode cX12_areLandings 12 = .ok (.iload_n 0, 1) := by decide +kernel
theorem dX12_areLandings_13 : decode cX12_areLandings 13 = .ok (.bipush 10, 2) := by decide +kernel
theorem dX12_areLandings_15 : decode cX12_areLandings 15 = .ok (.idiv, 1) := by decide +kernel
theorem dX12_areLandings_16 : decode cX12_areLandings 16 = .ok (.iload_n 0, 1) := by decide +kernel
theorem dX12_areLandings_17 : decode cX12_areLandings 17 = .ok (.bipush 10, 2) := by decide +kernel
theorem dX12_areLandings_19 : decode cX12_areLandings 19 = .ok (.irem, 1) := by decide +kernel
theorem dX12_areLandings_20 : decode cX12_areLandings 20 = .ok (.if_icmp .eq 7, 3) := by decide +kernel
theorem dX12_areLandings_23 : decode cX12_areLandings 23 = .ok (.iconst 1, 1) := by decide +kernel
theorem dX12_areLandings_24 : decode cX12_areLandings 24 = .ok (.goto 4, 3) := by decide +kernel
theorem dX12_areLandings_27 : decode cX12_areLandings 27 = .ok (.iconst 0, 1) := by decide +kernel
theorem dX12_areLandings_28 : decode cX12_areLandings 28 = .ok (.ireturn, 1) := by decide +kernel
theorem dX12_crossing_0 : decode cX12_crossing 0 = .ok (.iload_n 1, 1) := by decide +kernel
theorem dX12_crossing_1 : decode cX12_crossing 1 = .ok (.i2l, 1) := by decide +kernel
theorem dX12_crossing_2 : decode cX12_crossing 2 = .ok (.lconst 1, 1) := by decide +kernel
theorem dX12_crossing_3 : decode cX12_crossing 3 = .ok (.ldc2_w 145, 3) := by decide +kernel
theorem dX12_crossing_6 : decode cX12_crossing 6 = .ok (.invokestatic 134, 3) := by decide +kernel
theorem dX12_crossing_9 : decode cX12_crossing 9 = .ok (.ifCond .eq 10, 3) := by decide +kernel
theorem dX12_crossing_12 : decode cX12_crossing 12 = .ok (.iload_n 2, 1) := by decide +kernel
theorem dX12_crossing_13 : decode cX12_crossing 13 = .ok (.invokestatic 147, 3) := by decide +kernel
theorem dX12_crossing_16 : decode cX12_crossing 16 = .ok (.ifCond .ne 6, 3) := by decide +kernel
theorem dX12_crossing_19 : decode cX12_crossing 19 = .ok (.bipush (-2), 2) := by decide +kernel
theorem dX12_crossing_21 : decode cX12_crossing 21 = .ok (.ireturn, 1) := by decide +kernel
theorem dX12_crossing_22 : decode cX12_crossing 22 = .ok (.aload_n 0, 1) := by decide +kernel
theorem dX12_crossing_23 : decode cX12_crossing 23 = .ok (.getfield 131, 3) := by decide +kernel
theorem dX12_crossing_26 : decode cX12_crossing 26 = .ok (.bipush 7, 2) := by decide +kernel
theorem dX12_crossing_28 : decode cX12_crossing 28 = .ok (.if_icmp .ne 6, 3) := by decide +kernel
theorem dX12_crossing_31 : decode cX12_crossing 31 = .ok (.bipush (-4), 2) := by decide +kernel
theorem dX12_crossing_33 : decode cX12_crossing 33 = .ok (.ireturn, 1) := by decide +kernel
theorem dX12_crossing_34 : decode cX12_crossing 34 = .ok (.aload_n 0, 1) := by decide +kernel
theorem dX12_crossing_35 : decode cX12_crossing 35 = .ok (.getfield 23, 3) := by decide +kernel
theorem dX12_crossing_38 : decode cX12_crossing 38 = .ok (.aload_n 0, 1) := by decide +kernel
theorem dX12_crossing_39 : decode cX12_crossing 39 = .ok (.getfield 131, 3) := by decide +kernel
theorem dX12_crossing_42 : decode cX12_crossing 42 = .ok (.iload_n 1, 1) := by decide +kernel
theorem dX12_crossing_43 : decode cX12_crossing 43 = .ok (.iastore, 1) := by decide +kernel
theorem dX12_crossing_44 : decode cX12_crossing 44 = .ok (.aload_n 0, 1) := by decide +kernel
theorem dX12_crossing_45 : decode cX12_crossing 45 = .ok (.getfield 26, 3) := by decide +kernel
theorem dX12_crossing_48 : decode cX12_crossing 48 = .ok (.aload_n 0, 1) := by decide +kernel
theorem dX12_crossing_49 : decode cX12_crossing 49 = .ok (.getfield 131, 3) := by decide +kernel
theorem dX12_crossing_52 : decode cX12_crossing 52 = .ok (.iload_n 2, 1) := by decide +kernel
theorem dX12_crossing_53 : decode cX12_crossing 53 = .ok (.iastore, 1) := by decide +kernel
theorem dX12_crossing_54 : decode cX12_crossing 54 = .ok (.aload_n 0, 1) := by decide +kernel
theorem dX12_crossing_55 : decode cX12_crossing 55 = .ok (.getfield 29, 3) := by decide +kernel
theorem dX12_crossing_58 : decode cX12_crossing 58 = .ok (.aload_n 0, 1) := by decide +kernel
theorem dX12_crossing_59 : decode cX12_crossing 59 = .ok (.getfield 131, 3) := by decide +kernel
theorem dX12_crossing_62 : decode cX12_crossing 62 = .ok (.iconst 1, 1) := by decide +kernel
theorem dX12_crossing_63 : decode cX12_crossing 63 = .ok (.iastore, 1) := by decide +kernel
theorem dX12_crossing_64 : decode cX12_crossing 64 = .ok (.aload_n 0, 1) := by decide +kernel
theorem dX12_crossing_65 : decode cX12_crossing 65 = .ok (.getfield 32, 3) := by decide +kernel
theorem dX12_crossing_68 : decode cX12_crossing 68 = .ok (.aload_n 0, 1) := by decide +kernel
theorem dX12_crossing_69 : decode cX12_crossing 69 = .ok (.getfield 131, 3) := by decide +kernel
theorem dX12_crossing_72 : decode cX12_crossing 72 = .ok (.iconst 0, 1) := by decide +kernel
theorem dX12_crossing_73 : decode cX12_crossing 73 = .ok (.iastore, 1) := by decide +kernel
theorem dX12_crossing_74 : decode cX12_crossing 74 = .ok (.aload_n 0, 1) := by decide +kernel
theorem dX12_crossing_75 : decode cX12_crossing 75 = .ok (.dup, 1) := by decide +kernel
theorem dX12_crossing_76 : decode cX12_crossing 76 = .ok (.getfield 131, 3) := by decide +kernel
theorem dX12_crossing_79 : decode cX12_crossing 79 = .ok (.iconst 1, 1) := by decide +kernel
theorem dX12_crossing_80 : decode cX12_crossing 80 = .ok (.iadd, 1) := by decide +kernel
theorem dX12_crossing_81 : decode cX12_crossing 81 = .ok (.putfield 131, 3) := by decide +kernel
theorem dX12_crossing_84 : decode cX12_crossing 84 = .ok (.aload_n 0, 1) := by decide +kernel
theorem dX12_crossing_85 : decode cX12_crossing 85 = .ok (.getfield 131, 3) := by decide +kernel
theorem dX12_crossing_88 : decode cX12_crossing 88 = .ok (.iconst 1, 1) := by decide +kernel
theorem dX12_crossing_89 : decode cX12_crossing 89 = .ok (.isub, 1) := by decide +kernel
theorem dX12_crossing_90 : decode cX12_crossing 90 = .ok (.ireturn, 1) := by decide +kernel
theorem dX12_set_0 : decode cX12_set 0 = .ok (.sipush (-1000), 3) := by decide +kernel
theorem dX12_set_3 : decode cX12_set 3 = .ok (.istore_n 3, 1) := by decide +kernel
theorem dX12_set_4 : decode cX12_set 4 = .ok (.iload_n 1, 1) := by decide +kernel
theorem dX12_set_5 : decode cX12_set 5 = .ok (.i2l, 1) := by decide +kernel
theorem dX12_set_6 : decode cX12_set 6 = .ok (.lconst 0, 1) := by decide +kernel
theorem dX12_set_7 : decode cX12_set 7 = .ok (.lconst 1, 1) := by decide +kernel
theorem dX12_set_8 : decode cX12_set 8 = .ok (.invokestatic 134, 3) := by decide +kernel
theorem dX12_set_11 : decode cX12_set 11 = .ok (.ifCond .eq 48, 3) := by decide +kernel
theorem dX12_set_14 : decode cX12_set 14 = .ok (.iload_n 2, 1) := by decide +kernel
theorem dX12_set_15 : decode cX12_set 15 = .ok (.i2l, 1) := by decide +kernel
theorem dX12_set_16 : decode cX12_set 16 = .ok (.lconst 0, 1) := by decide +kernel
theorem dX12_set_17 : decode cX12_set 17 = .ok (.ldc2_w 151, 3) := by decide +kernel
theorem dX12_set_20 : decode cX12_set 20 = .ok (.invokestatic 134, 3) := by decide +kernel
theorem dX12_set_23 : decode cX12_set 23 = .ok (.ifCond .eq 36, 3) := by decide +kernel
theorem dX12_set_26 : decode cX12_set 26 = .ok (.iload_n 1, 1) := by decide +kernel
theorem dX12_set_27 : decode cX12_set 27 = .ok (.ifCond .ne 10, 3) := by decide +kernel
theorem dX12_set_30 : decode cX12_set 30 = .ok (.aload_n 0, 1) := by decide +kernel
theorem dX12_set_31 : decode cX12_set 31 = .ok (.getfield 153, 3) := by decide +kernel
theorem dX12_set_34 : decode cX12_set 34 = .ok (.goto 7, 3) := by decide +kernel
theorem dX12_set_37 : decode cX12_set 37 = .ok (.aload_n 0, 1) := by decide +kernel
theorem dX12_set_38 : decode cX12_set 38 = .ok (.getfield 156, 3) := by decide +kernel
theorem dX12_set_41 : decode cX12_set 41 = .ok (.istore_n 3, 1) := by decide +kernel
theorem dX12_set_42 : decode cX12_set 42 = .ok (.iload_n 1, 1) := by decide +kernel
theorem dX12_set_43 : decode cX12_set 43 = .ok (.ifCond .ne 11, 3) := by decide +kernel
theorem dX12_set_46 : decode cX12_set 46 = .ok (.aload_n 0, 1) := by decide +kernel
theorem dX12_set_47 : decode cX12_set 47 = .ok (.iload_n 2, 1) := by decide +kernel
theorem dX12_set_48 : decode cX12_set 48 = .ok (.putfield 153, 3) := by decide +kernel
theorem dX12_set_51 : decode cX12_set 51 = .ok (.goto 8, 3) := by decide +kernel
theorem dX12_set_54 : decode cX12_set 54 = .ok (.aload_n 0, 1) := by decide +kernel
theorem dX12_set_55 : decode cX12_set 55 = .ok (.iload_n 2, 1) := by decide +kernel
theorem dX12_set_56 : decode cX12_set 56 = .ok (.putfield 156, 3) := by decide +kernel
theorem dX12_set_59 : decode cX12_set 59 = .ok (.aload_n 0, 1) := by decide +kernel
theorem dX12_set_60 : decode cX12_set 60 = .ok (.iload_n 1, 1) := by decide +kernel
theorem dX12_set_61 : decode cX12_set 61 = .ok (.bipush 10, 2) := by decide +kernel
theorem dX12_set_63 : decode cX12_set 63 = .ok (.isub, 1) := by decide +kernel
theorem dX12_set_64 : decode cX12_set 64 = .ok (.invokevirtual 159, 3) := by decide +kernel
theorem dX12_set_67 : decode cX12_set 67 = .ok (.ifCond .eq 33, 3) := by decide +kernel
theorem dX12_set_70 : decode cX12_set 70 = .ok (.iload_n 2, 1) := by decide +kernel
theorem dX12_set_71 : decode cX12_set 71 = .ok (.i2l, 1) := by decide +kernel
theorem dX12_set_72 : decode cX12_set 72 = .ok (.lconst 0, 1) := by decide +kernel
theorem dX12_set_73 : decode cX12_set 73 = .ok (.lconst 1, 1) := by decide +kernel
theorem dX12_set_74 : decode cX12_set 74 = .ok (.invokestatic 134, 3) := by decide +kernel
theorem dX12_set_77 : decode cX12_set 77 = .ok (.ifCond .eq 23, 3) := by decide +kernel
theorem dX12_set_80 : decode cX12_set 80 = .ok (.aload_n 0, 1) := by decide +kernel
theorem dX12_set_81 : decode cX12_set 81 = .ok (.getfield 29, 3) := by decide +kernel
theorem dX12_set_84 : decode cX12_set 84 = .ok (.iload_n 1, 1) := by decide +kernel
theorem dX12_set_85 : decode cX12_set 85 = .ok (.bipush 10, 2) := by decide +kernel
theorem dX12_set_87 : decode cX12_set 87 = .ok (.isub, 1) := by decide +kernel
theorem dX12_set_88 : decode cX12_set 88 = .ok (.iaload, 1) := by decide +kernel
theorem dX12_set_89 : decode cX12_set 89 = .ok (.istore_n 3, 1) := by decide +kernel
theorem dX12_set_90 : decode cX12_set 90 = .ok (.aload_n 0, 1) := by decide +kernel
theorem dX12_set_91 : decode cX12_set 91 = .ok (.getfield 29, 3) := by decide +kernel
theorem dX12_set_94 : decode cX12_set 94 = .ok (.iload_n 1, 1) := by decide +kernel
theorem dX12_set_95 : decode cX12_set 95 = .ok (.bipush 10, 2) := by decide +kernel
theorem dX12_set_97 : decode cX12_set 97 = .ok (.isub, 1) := by decide +kernel
theorem dX12_set_98 : decode cX12_set 98 = .ok (.iload_n 2, 1) := by decide +kernel
theorem dX12_set_99 : decode cX12_set 99 = .ok (.iastore, 1) := by decide +kernel
theorem dX12_set_100 : decode cX12_set 100 = .ok (.aload_n 0, 1) := by decide +kernel
theorem dX12_set_101 : decode cX12_set 101 = .ok (.iload_n 1, 1) := by decide +kernel
theorem dX12_set_102 : decode cX12_set 102 = .ok (.bipush 20, 2) := by decide +kernel
theorem dX12_set_104 : decode cX12_set 104 = .ok (.isub, 1) := by decide +kernel
theorem dX12_set_105 : decode cX12_set 105 = .ok (.invokevirtual 159, 3) := by decide +kernel
theorem dX12_set_108 : decode cX12_set 108 = .ok (.ifCond .eq 35, 3) := by decide +kernel
theorem dX12_set_111 : decode cX12_set 111 = .ok (.iload_n 2, 1) := by decide +kernel
theorem dX12_set_112 : decode cX12_set 112 = .ok (.i2l, 1) := by decide +kernel
theorem dX12_set_113 : decode cX12_set 113 = .ok (.lconst 0, 1) := by decide +kernel
theorem dX12_set_114 : decode cX12_set 114 = .ok (.ldc2_w 162, 3) := by decide +kernel
theorem dX12_set_117 : decode cX12_set 117 = .ok (.invokestatic 134, 3) := by decide +kernel
theorem dX12_set_120 : decode cX12_set 120 = .ok (.ifCond .eq 23, 3) := by decide +kernel
theorem dX12_set_123 : decode cX12_set 123 = .ok (.aload_n 0, 1) := by decide +kernel
theorem dX12_set_124 : decode cX12_set 124 = .ok (.getfield 32, 3) := by decide +kernel
theorem dX12_set_127 : decode cX12_set 127 = .ok (.iload_n 1, 1) := by decide +kernel
theorem dX12_set_128 : decode cX12_set 128 = .ok (.bipush 20, 2) := by decide +kernel
theorem dX12_set_130 : decode cX12_set 130 = .ok (.isub, 1) := by decide +kernel
theorem dX12_set_131 : decode cX12_set 131 = .ok (.iaload, 1) := by decide +kernel
theorem dX12_set_132 : decode cX12_set 132 = .ok (.istore_n 3, 1) := by decide +kernel
theorem dX12_set_133 : decode cX12_set 133 = .ok (.aload_n 0, 1) := by decide +kernel
theorem dX12_set_134 : decode cX12_set 134 = .ok (.getfield 32, 3) := by decide +kernel
theorem dX12_set_137 : decode cX12_set 137 = .ok (.iload_n 1, 1) := by decide +kernel
theorem dX12_set_138 : decode cX12_set 138 = .ok (.bipush 20, 2) := by decide +kernel
theorem dX12_set_140 : decode cX12_set 140 = .ok (.isub, 1) := by decide +kernel
theorem dX12_set_141 : decode cX12_set 141 = .ok (.iload_n 2, 1) := by decide +kernel
theorem dX12_set_142 : decode cX12_set 142 = .ok (.iastore, 1) := by decide +kernel
theorem dX12_set_143 : decode cX12_set 143 = .ok (.iload_n 3, 1) := by decide +kernel
theorem dX12_set_144 : decode cX12_set 144 = .ok (.ireturn, 1) := by decide +kernel
theorem dX12_rower_0 : decode cX12_rower 0 = .ok (.iload_n 1, 1) := by decide +kernel
theorem dX12_rower_1 : decode cX12_rower 1 = .ok (.i2l, 1) := by decide +kernel
theorem dX12_rower_2 : decode cX12_rower 2 = .ok (.lconst 0, 1) := by decide +kernel
theorem dX12_rower_3 : decode cX12_rower 3 = .ok (.ldc2_w 164, 3) := by decide +kernel
theorem dX12_rower_6 : decode cX12_rower 6 = .ok (.invokestatic 134, 3) := by decide +kernel
theorem dX12_rower_9 : decode cX12_rower 9 = .ok (.ifCond .eq 41, 3) := by decide +kernel
theorem dX12_rower_12 : decode cX12_rower 12 = .ok (.iload_n 2, 1) := by decide +kernel
theorem dX12_rower_13 : decode cX12_rower 13 = .ok (.i2l, 1) := by decide +kernel
theorem dX12_rower_14 : decode cX12_rower 14 = .ok (.ldc2_w 166, 3) := by decide +kernel
theorem dX12_rower_17 : decode cX12_rower 17 = .ok (.ldc2_w 168, 3) := by decide +kernel
theorem dX12_rower_20 : decode cX12_rower 20 = .ok (.invokestatic 134, 3) := by decide +kernel
theorem dX12_rower_23 : decode cX12_rower 23 = .ok (.ifCond .eq 27, 3) := by decide +kernel
theorem dX12_rower_26 : decode cX12_rower 26 = .ok (.aload_n 0, 1) := by decide +kernel
theorem dX12_rower_27 : decode cX12_rower 27 = .ok (.iload_n 2, 1) := by decide +kernel
theorem dX12_rower_28 : decode cX12_rower 28 = .ok (.bipush 10, 2) := by decide +kernel
theorem dX12_rower_30 : decode cX12_rower 30 = .ok (.irem, 1) := by decide +kernel
theorem dX12_rower_31 : decode cX12_rower 31 = .ok (.invokevirtual 159, 3) := by decide +kernel
theorem dX12_rower_34 : decode cX12_rower 34 = .ok (.ifCond .eq 16, 3) := by decide +kernel
theorem dX12_rower_37 : decode cX12_rower 37 = .ok (.iload_n 3, 1) := by decide +kernel
theorem dX12_rower_38 : decode cX12_rower 38 = .ok (.iconst (-1), 1) := by decide +kernel
theorem dX12_rower_39 : decode cX12_rower 39 = .ok (.if_icmp .eq 14, 3) := by decide +kernel
theorem dX12_rower_42 : decode cX12_rower 42 = .ok (.aload_n 0, 1) := by decide +kernel
theorem dX12_rower_43 : decode cX12_rower 43 = .ok (.iload_n 3, 1) := by decide +kernel
theorem dX12_rower_44 : decode cX12_rower 44 = .ok (.invokevirtual 170, 3) := by decide +kernel
theorem dX12_rower_47 : decode cX12_rower 47 = .ok (.ifCond .ne 6, 3) := by decide +kernel
theorem dX12_rower_50 : decode cX12_rower 50 = .ok (.bipush (-2), 2) := by decide +kernel
theorem dX12_rower_52 : decode cX12_rower 52 = .ok (.ireturn, 1) := by decide +kernel
theorem dX12_rower_53 : decode cX12_rower 53 = .ok (.aload_n 0, 1) := by decide +kernel
theorem dX12_rower_54 : decode cX12_rower 54 = .ok (.getfield 138, 3) := by decide +kernel
theorem dX12_rower_57 : decode cX12_rower 57 = .ok (.bipush 14, 2) := by decide +kernel
theorem dX12_rower_59 : decode cX12_rower 59 = .ok (.if_icmp .ne 6, 3) := by decide +kernel
theorem dX12_rower_62 : decode cX12_rower 62 = .ok (.bipush (-4), 2) := by decide +kernel
theorem dX12_rower_64 : decode cX12_rower 64 = .ok (.ireturn, 1) := by decide +kernel
theorem dX12_rower_65 : decode cX12_rower 65 = .ok (.aload_n 0, 1) := by decide +kernel
theorem dX12_rower_66 : decode cX12_rower 66 = .ok (.getfield 35, 3) := by decide +kernel
theorem dX12_rower_69 : decode cX12_rower 69 = .ok (.aload_n 0, 1) := by decide +kernel
theorem dX12_rower_70 : decode cX12_rower 70 = .ok (.getfield 138, 3) := by decide +kernel
theorem dX12_rower_73 : decode cX12_rower 73 = .ok (.iload_n 1, 1) := by decide +kernel
theorem dX12_rower_74 : decode cX12_rower 74 = .ok (.iastore, 1) := by decide +kernel
theorem dX12_rower_75 : decode cX12_rower 75 = .ok (.aload_n 0, 1) := by decide +kernel
theorem dX12_rower_76 : decode cX12_rower 76 = .ok (.getfield 38, 3) := by decide +kernel
theorem dX12_rower_79 : decode cX12_rower 79 = .ok (.aload_n 0, 1) := by decide +kernel
theorem dX12_rower_80 : decode cX12_rower 80 = .ok (.getfield 138, 3) := by decide +kernel
theorem dX12_rower_83 : decode cX12_rower 83 = .ok (.iload_n 2, 1) := by decide +kernel
theorem dX12_rower_84 : decode cX12_rower 84 = .ok (.bipush 100, 2) := by decide +kernel
theorem dX12_rower_86 : decode cX12_rower 86 = .ok (.idiv, 1) := by decide +kernel
theorem dX12_rower_87 : decode cX12_rower 87 = .ok (.iastore, 1) := by decide +kernel
theorem dX12_rower_88 : decode cX12_rower 88 = .ok (.aload_n 0, 1) := by decide +kernel
theorem dX12_rower_89 : decode cX12_rower 89 = .ok (.getfield 41, 3) := by decide +kernel
theorem dX12_rower_92 : decode cX12_rower 92 = .ok (.aload_n 0, 1) := by decide +kernel
theorem dX12_rower_93 : decode cX12_rower 93 = .ok (.getfield 138, 3) := by decide +kernel
theorem dX12_rower_96 : decode cX12_rower 96 = .ok (.iload_n 2, 1) := by decide +kernel
theorem dX12_rower_97 : decode cX12_rower 97 = .ok (.bipush 10, 2) := by decide +kernel
theorem dX12_rower_99 : decode cX12_rower 99 = .ok (.idiv, 1) := by decide +kernel
theorem dX12_rower_100 : decode cX12_rower 100 = .ok (.bipush 10, 2) := by decide +kernel
theorem dX12_rower_102 : decode cX12_rower 102 = .ok (.irem, 1) := by decide +kernel
theorem dX12_rower_103 : decode cX12_rower 103 = .ok (.iastore, 1) := by decide +kernel
theorem dX12_rower_104 : decode cX12_rower 104 = .ok (.aload_n 0, 1) := by decide +kernel
theorem dX12_rower_105 : decode cX12_rower 105 = .ok (.getfield 44, 3) := by decide +kernel
theorem dX12_rower_108 : decode cX12_rower 108 = .ok (.aload_n 0, 1) := by decide +kernel
theorem dX12_rower_109 : decode cX12_rower 109 = .ok (.getfield 138, 3) := by decide +kernel
theorem dX12_rower_112 : decode cX12_rower 112 = .ok (.iload_n 2, 1) := by decide +kernel
theorem dX12_rower_113 : decode cX12_rower 113 = .ok (.bipush 10, 2) := by decide +kernel
theorem dX12_rower_115 : decode cX12_rower 115 = .ok (.irem, 1) := by decide +kernel
theorem dX12_rower_116 : decode cX12_rower 116 = .ok (.iastore, 1) := by decide +kernel
theorem dX12_rower_117 : decode cX12_rower 117 = .ok (.aload_n 0, 1) := by decide +kernel
theorem dX12_rower_118 : decode cX12_rower 118 = .ok (.getfield 47, 3) := by decide +kernel
theorem dX12_rower_121 : decode cX12_rower 121 = .ok (.aload_n 0, 1) := by decide +kernel
theorem dX12_rower_122 : decode cX12_rower 122 = .ok (.getfield 138, 3) := by decide +kernel
theorem dX12_rower_125 : decode cX12_rower 125 = .ok (.iload_n 3, 1) := by decide +kernel
theorem dX12_rower_126 : decode cX12_rower 126 = .ok (.iastore, 1) := by decide +kernel
theorem dX12_rower_127 : decode cX12_rower 127 = .ok (.aload_n 0, 1) := by decide +kernel
theorem dX12_rower_128 : decode cX12_rower 128 = .ok (.getfield 50, 3) := by decide +kernel
theorem dX12_rower_131 : decode cX12_rower 131 = .ok (.aload_n 0, 1) := by decide +kernel
theorem dX12_rower_132 : decode cX12_rower 132 = .ok (.getfield 138, 3) := by decide +kernel
theorem dX12_rower_135 : decode cX12_rower 135 = .ok (.iconst 0, 1) := by decide +kernel
theorem dX12_rower_136 : decode cX12_rower 136 = .ok (.iastore, 1) := by decide +kernel
theorem dX12_rower_137 : decode cX12_rower 137 = .ok (.aload_n 0, 1) := by decide +kernel
theorem dX12_rower_138 : decode cX12_rower 138 = .ok (.getfield 53, 3) := by decide +kernel
theorem dX12_rower_141 : decode cX12_rower 141 = .ok (.aload_n 0, 1) := by decide +kernel
theorem dX12_rower_142 : decode cX12_rower 142 = .ok (.getfield 138, 3) := by decide +kernel
theorem dX12_rower_145 : decode cX12_rower 145 = .ok (.iconst 0, 1) := by decide +kernel
theorem dX12_rower_146 : decode cX12_rower 146 = .ok (.iastore, 1) := by decide +kernel
theorem dX12_rower_147 : decode cX12_rower 147 = .ok (.aload_n 0, 1) := by decide +kernel
theorem dX12_rower_148 : decode cX12_rower 148 = .ok (.dup, 1) := by decide +kernel
theorem dX12_rower_149 : decode cX12_rower 149 = .ok (.getfield 138, 3) := by decide +kernel
theorem dX12_rower_152 : decode cX12_rower 152 = .ok (.iconst 1, 1) := by decide +kernel
theorem dX12_rower_153 : decode cX12_rower 153 = .ok (.iadd, 1) := by decide +kernel
theorem dX12_rower_154 : decode cX12_rower 154 = .ok (.putfield 138, 3) := by decide +kernel
theorem dX12_rower_157 : decode cX12_rower 157 = .ok (.aload_n 0, 1) := by decide +kernel
theorem dX12_rower_158 : decode cX12_rower 158 = .ok (.getfield 138, 3) := by decide +kernel
theorem dX12_rower_161 : decode cX12_rower 161 = .ok (.iconst 1, 1) := by decide +kernel
theorem dX12_rower_162 : decode cX12_rower 162 = .ok (.isub, 1) := by decide +kernel
theorem dX12_rower_163 : decode cX12_rower 163 = .ok (.ireturn, 1) := by decide +kernel
theorem dX12_ill_0 : decode cX12_ill 0 = .ok (.aload_n 0, 1) := by decide +kernel
theorem dX12_ill_1 : decode cX12_ill 1 = .ok (.iload_n 1, 1) := by decide +kernel
theorem dX12_ill_2 : decode cX12_ill 2 = .ok (.invokevirtual 170, 3) := by decide +kernel
theorem dX12_ill_5 : decode cX12_ill 5 = .ok (.ifCond .eq 13, 3) := by decide +kernel
theorem dX12_ill_8 : decode cX12_ill 8 = .ok (.iload_n 2, 1) := by decide +kernel
theorem dX12_ill_9 : decode cX12_ill 9 = .ok (.i2l, 1) := by decide +kernel
theorem dX12_ill_10 : decode cX12_ill 10 = .ok (.lconst 0, 1) := by decide +kernel
theorem dX12_ill_11 : decode cX12_ill 11 = .ok (.lconst 1, 1) := by decide +kernel
theorem dX12_ill_12 : decode cX12_ill 12 = .ok (.invokestatic 134, 3) := by decide +kernel
theorem dX12_ill_15 : decode cX12_ill 15 = .ok (.ifCond .ne 6, 3) := by decide +kernel
theorem dX12_ill_18 : decode cX12_ill 18 = .ok (.bipush (-2), 2) := by decide +kernel
theorem dX12_ill_20 : decode cX12_ill 20 = .ok (.ireturn, 1) := by decide +kernel
theorem dX12_ill_21 : decode cX12_ill 21 = .ok (.aload_n 0, 1) := by decide +kernel
theorem dX12_ill_22 : decode cX12_ill 22 = .ok (.getfield 50, 3) := by decide +kernel
theorem dX12_ill_25 : decode cX12_ill 25 = .ok (.iload_n 1, 1) := by decide +kernel
theorem dX12_ill_26 : decode cX12_ill 26 = .ok (.iaload, 1) := by decide +kernel
theorem dX12_ill_27 : decode cX12_ill 27 = .ok (.istore_n 3, 1) := by decide +kernel
theorem dX12_ill_28 : decode cX12_ill 28 = .ok (.aload_n 0, 1) := by decide +kernel
theorem dX12_ill_29 : decode cX12_ill 29 = .ok (.getfield 50, 3) := by decide +kernel
theorem dX12_ill_32 : decode cX12_ill 32 = .ok (.iload_n 1, 1) := by decide +kernel
theorem dX12_ill_33 : decode cX12_ill 33 = .ok (.iload_n 2, 1) := by decide +kernel
theorem dX12_ill_34 : decode cX12_ill 34 = .ok (.iastore, 1) := by decide +kernel
theorem dX12_ill_35 : decode cX12_ill 35 = .ok (.iload_n 3, 1) := by decide +kernel
theorem dX12_ill_36 : decode cX12_ill 36 = .ok (.ireturn, 1) := by decide +kernel
theorem dX12_paceOf_0 : decode cX12_paceOf 0 = .ok (.bipush 10, 2) := by decide +kernel
theorem dX12_paceOf_2 : decode cX12_paceOf 2 = .ok (.aload_n 0, 1) := by decide +kernel
theorem dX12_paceOf_3 : decode cX12_paceOf 3 = .ok (.getfield 38, 3) := by decide +kernel
theorem dX12_paceOf_6 : decode cX12_paceOf 6 = .ok (.iload_n 1, 1) := by decide +kernel
theorem dX12_paceOf_7 : decode cX12_paceOf 7 = .ok (.iaload, 1) := by decide +kernel
theorem dX12_paceOf_8 : decode cX12_paceOf 8 = .ok (.bipush 20, 2) := by decide +kernel
theorem dX12_paceOf_10 : decode cX12_paceOf 10 = .ok (.idiv, 1) := by decide +kernel
theorem dX12_paceOf_11 : decode cX12_paceOf 11 = .ok (.isub, 1) := by decide +kernel
theorem dX12_paceOf_12 : decode cX12_paceOf 12 = .ok (.istore_n 2, 1) := by decide +kernel
theorem dX12_paceOf_13 : decode cX12_paceOf 13 = .ok (.aload_n 0, 1) := by decide +kernel
theorem dX12_paceOf_14 : decode cX12_paceOf 14 = .ok (.getfield 35, 3) := by decide +kernel
theorem dX12_paceOf_17 : decode cX12_paceOf 17 = .ok (.iload_n 1, 1) := by decide +kernel
theorem dX12_paceOf_18 : decode cX12_paceOf 18 = .ok (.iaload, 1) := by decide +kernel
theorem dX12_paceOf_19 : decode cX12_paceOf 19 = .ok (.tableswitch 57 1 5 #[33, 36, 38, 48, 51], 33) := by decide +kernel
theorem dX12_paceOf_52 : decode cX12_paceOf 52 = .ok (.bipush 12, 2) := by decide +kernel
theorem dX12_paceOf_54 : decode cX12_paceOf 54 = .ok (.ireturn, 1) := by decide +kernel
theorem dX12_paceOf_55 : decode cX12_paceOf 55 = .ok (.iload_n 2, 1) := by decide +kernel
theorem dX12_paceOf_56 : decode cX12_paceOf 56 = .ok (.ireturn, 1) := by decide +kernel
theorem dX12_paceOf_57 : decode cX12_paceOf 57 = .ok (.bipush 12, 2) := by decide +kernel
theorem dX12_paceOf_59 : decode cX12_paceOf 59 = .ok (.aload_n 0, 1) := by decide +kernel
theorem dX12_paceOf_60 : decode cX12_paceOf 60 = .ok (.getfield 41, 3) := by decide +kernel
theorem dX12_paceOf_63 : decode cX12_paceOf 63 = .ok (.iload_n 1, 1) := by decide +kernel
theorem dX12_paceOf_64 : decode cX12_paceOf 64 = .ok (.iaload, 1) := by decide +kernel
theorem dX12_paceOf_65 : decode cX12_paceOf 65 = .ok (.iadd, 1) := by decide +kernel
theorem dX12_paceOf_66 : decode cX12_paceOf 66 = .ok (.ireturn, 1) := by decide +kernel
theorem dX12_paceOf_67 : decode cX12_paceOf 67 = .ok (.bipush 7, 2) := by decide +kernel
theorem dX12_paceOf_69 : decode cX12_paceOf 69 = .ok (.ireturn, 1) := by decide +kernel
theorem dX12_paceOf_70 : decode cX12_paceOf 70 = .ok (.iconst 2, 1) := by decide +kernel
theorem dX12_paceOf_71 : decode cX12_paceOf 71 = .ok (.iload_n 2, 1) := by decide +kernel
theorem dX12_paceOf_72 : decode cX12_paceOf 72 = .ok (.iconst 2, 1) := by decide +kernel
theorem dX12_paceOf_73 : decode cX12_paceOf 73 = .ok (.idiv, 1) := by decide +kernel
theorem dX12_paceOf_74 : decode cX12_paceOf 74 = .ok (.iadd, 1) := by decide +kernel
theorem dX12_paceOf_75 : decode cX12_paceOf 75 = .ok (.ireturn, 1) := by decide +kernel
theorem dX12_paceOf_76 : decode cX12_paceOf 76 = .ok (.bipush 10, 2) := by decide +kernel
theorem dX12_paceOf_78 : decode cX12_paceOf 78 = .ok (.ireturn, 1) := by decide +kernel
theorem dX12_may_0 : decode cX12_may 0 = .ok (.aload_n 0, 1) := by decide +kernel
theorem dX12_may_1 : decode cX12_may 1 = .ok (.getfield 50, 3) := by decide +kernel
theorem dX12_may_4 : decode cX12_may 4 = .ok (.iload_n 1, 1) := by decide +kernel
theorem dX12_may_5 : decode cX12_may 5 = .ok (.iaload, 1) := by decide +kernel
theorem dX12_may_6 : decode cX12_may 6 = .ok (.iconst 1, 1) := by decide +kernel
theorem dX12_may_7 : decode cX12_may 7 = .ok (.if_icmp .ne 5, 3) := by decide +kernel
theorem dX12_may_10 : decode cX12_may 10 = .ok (.iconst 0, 1) := by decide +kernel
theorem dX12_may_11 : decode cX12_may 11 = .ok (.ireturn, 1) := by decide +kernel
theorem dX12_may_12 : decode cX12_may 12 = .ok (.iload_n 2, 1) := by decide +kernel
theorem dX12_may_13 : decode cX12_may 13 = .ok (.i2l, 1) := by decide +kernel
theorem dX12_may_14 : decode cX12_may 14 = .ok (.ldc2_w 173, 3) := by decide +kernel
theorem dX12_may_17 : decode cX12_may 17 = .ok (.ldc2_w 175, 3) := by decide +kernel
theorem dX12_may_20 : decode cX12_may 20 = .ok (.invokestatic 134, 3) := by decide +kernel
theorem dX12_may_23 : decode cX12_may 23 = .ok (.istore_n 3, 1) := by decide +kernel
theorem dX12_may_24 : decode cX12_may 24 = .ok (.aload_n 0, 1) := by decide +kernel
theorem dX12_may_25 : decode cX12_may 25 = .ok (.getfield 35, 3) := by decide +kernel
theorem dX12_may_28 : decode cX12_may 28 = .ok (.iload_n 1, 1) := by decide +kernel
theorem dX12_may_29 : decode cX12_may 29 = .ok (.iaload, 1) := by decide +kernel
theorem dX12_may_30 : decode cX12_may 30 = .ok (.tableswitch 160 1 5 #[34, 55, 81, 112, 124], 34) := by decide +kernel
theorem dX12_may_64 : decode cX12_may 64 = .ok (.iload_n 3, 1) := by decide +kernel
theorem dX12_may_65 : decode cX12_may 65 = .ok (.ifCond .eq 18, 3) := by decide +kernel
theorem dX12_may_68 : decode cX12_may 68 = .ok (.aload_n 0, 1) := by decide +kernel
theorem dX12_may_69 : decode cX12_may 69 = .ok (.getfield 38, 3) := by decide +kernel
theorem dX12_may_72 : decode cX12_may 72 = .ok (.iload_n 1, 1) := by decide +kernel
theorem dX12_may_73 : decode cX12_may 73 = .ok (.iaload, 1) := by decide +kernel
theorem dX12_may_74 : decode cX12_may 74 = .ok (.bipush 15, 2) := by decide +kernel
theorem dX12_may_76 : decode cX12_may 76 = .ok (.if_icmp .le 7, 3) := by decide +kernel
theorem dX12_may_79 : decode cX12_may 79 = .ok (.iconst 1, 1) := by decide +kernel
theorem dX12_may_80 : decode cX12_may 80 = .ok (.goto 4, 3) := by decide +kernel
theorem dX12_may_83 : decode cX12_may 83 = .ok (.iconst 0, 1) := by decide +kernel
theorem dX12_may_84 : decode cX12_may 84 = .ok (.ireturn, 1) := by decide +kernel
theorem dX12_may_85 : decode cX12_may 85 = .ok (.iload_n 3, 1) := by decide +kernel
theorem dX12_may_86 : decode cX12_may 86 = .ok (.ifCond .eq 23, 3) := by decide +kernel
theorem dX12_may_89 : decode cX12_may 89 = .ok (.iload_n 2, 1) := by decide +kernel
theorem dX12_may_90 : decode cX12_may 90 = .ok (.iconst 2, 1) := by decide +kernel
theorem dX12_may_91 : decode cX12_may 91 = .ok (.irem, 1) := by decide +kernel
theorem dX12_may_92 : decode cX12_may 92 = .ok (.ifCond .eq 13, 3) := by decide +kernel
theorem dX12_may_95 : decode cX12_may 95 = .ok (.aload_n 0, 1) := by decide +kernel
theorem dX12_may_96 : decode cX12_may 96 = .ok (.getfield 41, 3) := by decide +kernel
theorem dX12_may_99 : decode cX12_may 99 = .ok (.iload_n 1, 1) := by decide +kernel
theorem dX12_may_100 : decode cX12_may 100 = .ok (.iaload, 1) := by decide +kernel
theorem dX12_may_101 : decode cX12_may 101 = .ok (.iconst 4, 1) := by decide +kernel
theorem dX12_may_102 : decode cX12_may 102 = .ok (.if_icmp .le 7, 3) := by decide +kernel
theorem dX12_may_105 : decode cX12_may 105 = .ok (.iconst 1, 1) := by decide +kernel
theorem dX12_may_106 : decode cX12_may 106 = .ok (.goto 4, 3) := by decide +kernel
theorem dX12_may_109 : decode cX12_may 109 = .ok (.iconst 0, 1) := by decide +kernel
theorem dX12_may_110 : decode cX12_may 110 = .ok (.ireturn, 1) := by decide +kernel
theorem dX12_may_111 : decode cX12_may 111 = .ok (.iload_n 3, 1) := by decide +kernel
theorem dX12_may_112 : decode cX12_may 112 = .ok (.ifCond .eq 14, 3) := by decide +kernel
theorem dX12_may_115 : decode cX12_may 115 = .ok (.aload_n 0, 1) := by decide +kernel
theorem dX12_may_116 : decode cX12_may 116 = .ok (.getfield 38, 3) := by decide +kernel
theorem dX12_may_119 : decode cX12_may 119 = .ok (.iload_n 1, 1) := by decide +kernel
theorem dX12_may_120 : decode cX12_may 120 = .ok (.iaload, 1) := by decide +kernel
theorem dX12_may_121 : decode cX12_may 121 = .ok (.bipush 15, 2) := by decide +kernel
theorem dX12_may_123 : decode cX12_may 123 = .ok (.if_icmp .gt 13, 3) := by decide +kernel
theorem dX12_may_126 : decode cX12_may 126 = .ok (.iload_n 2, 1) := by decide +kernel
theorem dX12_may_127 : decode cX12_may 127 = .ok (.aload_n 0, 1) := by decide +kernel
theorem dX12_may_128 : decode cX12_may 128 = .ok (.getfield 41, 3) := by decide +kernel
theorem dX12_may_131 : decode cX12_may 131 = .ok (.iload_n 1, 1) := by decide +kernel
theorem dX12_may_132 : decode cX12_may 132 = .ok (.iaload, 1) := by decide +kernel
theorem dX12_may_133 : decode cX12_may 133 = .ok (.if_icmp .ne 7, 3) := by decide +kernel
theorem dX12_may_136 : decode cX12_may 136 = .ok (.iconst 1, 1) := by decide +kernel
theorem dX12_may_137 : decode cX12_may 137 = .ok (.goto 4, 3) := by decide +kernel
theorem dX12_may_140 : decode cX12_may 140 = .ok (.iconst 0, 1) := by decide +kernel
theorem dX12_may_141 : decode cX12_may 141 = .ok (.ireturn, 1) := by decide +kernel
theorem dX12_may_142 : decode cX12_may 142 = .ok (.iload_n 2, 1) := by decide +kernel
theorem dX12_may_143 : decode cX12_may 143 = .ok (.bipush 6, 2) := by decide +kernel
theorem dX12_may_145 : decode cX12_may 145 = .ok (.if_icmp .lt 7, 3) := by decide +kernel
theorem dX12_may_148 : decode cX12_may 148 = .ok (.iconst 1, 1) := by decide +kernel
theorem dX12_may_149 : decode cX12_may 149 = .ok (.goto 4, 3) := by decide +kernel
theorem dX12_may_152 : decode cX12_may 152 = .ok (.iconst 0, 1) := by decide +kernel
theorem dX12_may_153 : decode cX12_may 153 = .ok (.ireturn, 1) := by decide +kernel
theorem dX12_may_154 : decode cX12_may 154 = .ok (.iload_n 2, 1) := by decide +kernel
theorem dX12_may_155 : decode cX12_may 155 = .ok (.i2l, 1) := by decide +kernel
theorem dX12_may_156 : decode cX12_may 156 = .ok (.ldc2_w 173, 3) := by decide +kernel
theorem dX12_may_159 : decode cX12_may 159 = .ok (.ldc2_w 177, 3) := by decide +kernel
theorem dX12_may_162 : decode cX12_may 162 = .ok (.invokestatic 134, 3) := by decide +kernel
theorem dX12_may_165 : decode cX12_may 165 = .ok (.ifCond .eq 23, 3) := by decide +kernel
theorem dX12_may_168 : decode cX12_may 168 = .ok (.iload_n 2, 1) := by decide +kernel
theorem dX12_may_169 : decode cX12_may 169 = .ok (.iconst 2, 1) := by decide +kernel
theorem dX12_may_170 : decode cX12_may 170 = .ok (.irem, 1) := by decide +kernel
theorem dX12_may_171 : decode cX12_may 171 = .ok (.ifCond .eq 13, 3) := by decide +kernel
theorem dX12_may_174 : decode cX12_may 174 = .ok (.aload_n 0, 1) := by decide +kernel
theorem dX12_may_175 : decode cX12_may 175 = .ok (.getfield 41, 3) := by decide +kernel
theorem dX12_may_178 : decode cX12_may 178 = .ok (.iload_n 1, 1) := by decide +kernel
theorem dX12_may_179 : decode cX12_may 179 = .ok (.iaload, 1) := by decide +kernel
theorem dX12_may_180 : decode cX12_may 180 = .ok (.iconst 4, 1) := by decide +kernel
theorem dX12_may_181 : decode cX12_may 181 = .ok (.if_icmp .le 7, 3) := by decide +kernel
theorem dX12_may_184 : decode cX12_may 184 = .ok (.iconst 1, 1) := by decide +kernel
theorem dX12_may_185 : decode cX12_may 185 = .ok (.goto 4, 3) := by decide +kernel
theorem dX12_may_188 : decode cX12_may 188 = .ok (.iconst 0, 1) := by decide +kernel
theorem dX12_may_189 : decode cX12_may 189 = .ok (.ireturn, 1) := by decide +kernel
theorem dX12_may_190 : decode cX12_may 190 = .ok (.iload_n 3, 1) := by decide +kernel
theorem dX12_may_191 : decode cX12_may 191 = .ok (.ireturn, 1) := by decide +kernel
theorem dX12_partsOf_0 : decode cX12_partsOf 0 = .ok (.aload_n 0, 1) := by decide +kernel
theorem dX12_partsOf_1 : decode cX12_partsOf 1 = .ok (.getfield 35, 3) := by decide +kernel
theorem dX12_partsOf_4 : decode cX12_partsOf 4 = .ok (.iload_n 1, 1) := by decide +kernel
theorem dX12_partsOf_5 : decode cX12_partsOf 5 = .ok (.iaload, 1) := by decide +kernel
theorem dX12_partsOf_6 : decode cX12_partsOf 6 = .ok (.istore_n 2, 1) := by decide +kernel
theorem dX12_partsOf_7 : decode cX12_partsOf 7 = .ok (.iload_n 2, 1) := by decide +kernel
theorem dX12_partsOf_8 : decode cX12_partsOf 8 = .ok (.iconst 1, 1) := by decide +kernel
theorem dX12_partsOf_9 : decode cX12_partsOf 9 = .ok (.if_icmp .ne 7, 3) := by decide +kernel
theorem dX12_partsOf_12 : decode cX12_partsOf 12 = .ok (.iconst 3, 1) := by decide +kernel
theorem dX12_partsOf_13 : decode cX12_partsOf 13 = .ok (.goto 32, 3) := by decide +kernel
theorem dX12_partsOf_16 : decode cX12_partsOf 16 = .ok (.iload_n 2, 1) := by decide +kernel
theorem dX12_partsOf_17 : decode cX12_partsOf 17 = .ok (.iconst 3, 1) := by decide +kernel
theorem dX12_partsOf_18 : decode cX12_partsOf 18 = .ok (.if_icmp .ne 8, 3) := by decide +kernel
theorem dX12_partsOf_21 : decode cX12_partsOf 21 = .ok (.bipush 6, 2) := by decide +kernel
theorem dX12_partsOf_23 : decode cX12_partsOf 23 = .ok (.goto 22, 3) := by decide +kernel
theorem dX12_partsOf_26 : decode cX12_partsOf 26 = .ok (.iload_n 2, 1) := by decide +kernel
theorem dX12_partsOf_27 : decode cX12_partsOf 27 = .ok (.iconst 4, 1) := by decide +kernel
theorem dX12_partsOf_28 : decode cX12_partsOf 28 = .ok (.if_icmp .ne 7, 3) := by decide +kernel
theorem dX12_partsOf_31 : decode cX12_partsOf 31 = .ok (.iconst 2, 1) := by decide +kernel
theorem dX12_partsOf_32 : decode cX12_partsOf 32 = .ok (.goto 13, 3) := by decide +kernel
theorem dX12_partsOf_35 : decode cX12_partsOf 35 = .ok (.iload_n 2, 1) := by decide +kernel
theorem dX12_partsOf_36 : decode cX12_partsOf 36 = .ok (.iconst 5, 1) := by decide +kernel
theorem dX12_partsOf_37 : decode cX12_partsOf 37 = .ok (.if_icmp .ne 7, 3) := by decide +kernel
theorem dX12_partsOf_40 : decode cX12_partsOf 40 = .ok (.iconst 5, 1) := by decide +kernel
theorem dX12_partsOf_41 : decode cX12_partsOf 41 = .ok (.goto 4, 3) := by decide +kernel
theorem dX12_partsOf_44 : decode cX12_partsOf 44 = .ok (.iconst 4, 1) := by decide +kernel
theorem dX12_partsOf_45 : decode cX12_partsOf 45 = .ok (.ireturn, 1) := by decide +kernel
theorem dX12_told_0 : decode cX12_told 0 = .ok (.aload_n 0, 1) := by decide +kernel
theorem dX12_told_1 : decode cX12_told 1 = .ok (.iload_n 1, 1) := by decide +kernel
theorem dX12_told_2 : decode cX12_told 2 = .ok (.invokevirtual 170, 3) := by decide +kernel
theorem dX12_told_5 : decode cX12_told 5 = .ok (.ifCond .eq 10, 3) := by decide +kernel
theorem dX12_told_8 : decode cX12_told 8 = .ok (.iload_n 2, 1) := by decide +kernel
theorem dX12_told_9 : decode cX12_told 9 = .ok (.invokestatic 179, 3) := by decide +kernel
theorem dX12_told_12 : decode cX12_told 12 = .ok (.ifCond .ne 6, 3) := by decide +kernel
theorem dX12_told_15 : decode cX12_told 15 = .ok (.ldc 182, 2) := by decide +kernel
theorem dX12_told_17 : decode cX12_told 17 = .ok (.ireturn, 1) := by decide +kernel
theorem dX12_told_18 : decode cX12_told 18 = .ok (.iload_n 3, 1) := by decide +kernel
theorem dX12_told_19 : decode cX12_told 19 = .ok (.tableswitch 140 0 10 #[57, 64, 71, 78, 85, 92, 99, 106, 112, 127, 133], 57) := by decide +kernel
theorem dX12_told_76 : decode cX12_told 76 = .ok (.aload_n 0, 1) := by decide +kernel
theorem dX12_told_77 : decode cX12_told 77 = .ok (.getfield 35, 3) := by decide +kernel
theorem dX12_told_80 : decode cX12_told 80 = .ok (.iload_n 1, 1) := by decide +kernel
theorem dX12_told_81 : decode cX12_told 81 = .ok (.iaload, 1) := by decide +kernel
theorem dX12_told_82 : decode cX12_told 82 = .ok (.ireturn, 1) := by decide +kernel
theorem dX12_told_83 : decode cX12_told 83 = .ok (.aload_n 0, 1) := by decide +kernel
theorem dX12_told_84 : decode cX12_told 84 = .ok (.getfield 38, 3) := by decide +kernel
theorem dX12_told_87 : decode cX12_told 87 = .ok (.iload_n 1, 1) := by decide +kernel
theorem dX12_told_88 : decode cX12_told 88 = .ok (.iaload, 1) := by decide +kernel
theorem dX12_told_89 : decode cX12_told 89 = .ok (.ireturn, 1) := by decide +kernel
theorem dX12_told_90 : decode cX12_told 90 = .ok (.aload_n 0, 1) := by decide +kernel
theorem dX12_told_91 : decode cX12_told 91 = .ok (.getfield 41, 3) := by decide +kernel
theorem dX12_told_94 : decode cX12_told 94 = .ok (.iload_n 1, 1) := by decide +kernel
theorem dX12_told_95 : decode cX12_told 95 = .ok (.iaload, 1) := by decide +kernel
theorem dX12_told_96 : decode cX12_told 96 = .ok (.ireturn, 1) := by decide +kernel
theorem dX12_told_97 : decode cX12_told 97 = .ok (.aload_n 0, 1) := by decide +kernel
theorem dX12_told_98 : decode cX12_told 98 = .ok (.getfield 44, 3) := by decide +kernel
theorem dX12_told_101 : decode cX12_told 101 = .ok (.iload_n 1, 1) := by decide +kernel
theorem dX12_told_102 : decode cX12_told 102 = .ok (.iaload, 1) := by decide +kernel
theorem dX12_told_103 : decode cX12_told 103 = .ok (.ireturn, 1) := by decide +kernel
theorem dX12_told_104 : decode cX12_told 104 = .ok (.aload_n 0, 1) := by decide +kernel
theorem dX12_told_105 : decode cX12_told 105 = .ok (.getfield 47, 3) := by decide +kernel
theorem dX12_told_108 : decode cX12_told 108 = .ok (.iload_n 1, 1) := by decide +kernel
theorem dX12_told_109 : decode cX12_told 109 = .ok (.iaload, 1) := by decide +kernel
theorem dX12_told_110 : decode cX12_told 110 = .ok (.ireturn, 1) := by decide +kernel
theorem dX12_told_111 : decode cX12_told 111 = .ok (.aload_n 0, 1) := by decide +kernel
theorem dX12_told_112 : decode cX12_told 112 = .ok (.getfield 50, 3) := by decide +kernel
theorem dX12_told_115 : decode cX12_told 115 = .ok (.iload_n 1, 1) := by decide +kernel
theorem dX12_told_116 : decode cX12_told 116 = .ok (.iaload, 1) := by decide +kernel
theorem dX12_told_117 : decode cX12_told 117 = .ok (.ireturn, 1) := by decide +kernel
theorem dX12_told_118 : decode cX12_told 118 = .ok (.aload_n 0, 1) := by decide +kernel
theorem dX12_told_119 : decode cX12_told 119 = .ok (.getfield 53, 3) := by decide +kernel
theorem dX12_told_122 : decode cX12_told 122 = .ok (.iload_n 1, 1) := by decide +kernel
theorem dX12_told_123 : decode cX12_told 123 = .ok (.iaload, 1) := by decide +kernel
theorem dX12_told_124 : decode cX12_told 124 = .ok (.ireturn, 1) := by decide +kernel
theorem dX12_told_125 : decode cX12_told 125 = .ok (.aload_n 0, 1) := by decide +kernel
theorem dX12_told_126 : decode cX12_told 126 = .ok (.iload_n 1, 1) := by decide +kernel
theorem dX12_told_127 : decode cX12_told 127 = .ok (.invokevirtual 183, 3) := by decide +kernel
theorem dX12_told_130 : decode cX12_told 130 = .ok (.ireturn, 1) := by decide +kernel
theorem dX12_told_131 : decode cX12_told 131 = .ok (.aload_n 0, 1) := by decide +kernel
theorem dX12_told_132 : decode cX12_told 132 = .ok (.iload_n 1, 1) := by decide +kernel
theorem dX12_told_133 : decode cX12_told 133 = .ok (.iload_n 2, 1) := by decide +kernel
theorem dX12_told_134 : decode cX12_told 134 = .ok (.invokevirtual 187, 3) := by decide +kernel
theorem dX12_told_137 : decode cX12_told 137 = .ok (.ifCond .eq 7, 3) := by decide +kernel
theorem dX12_told_140 : decode cX12_told 140 = .ok (.iconst 1, 1) := by decide +kernel
theorem dX12_told_141 : decode cX12_told 141 = .ok (.goto 4, 3) := by decide +kernel
theorem dX12_told_144 : decode cX12_told 144 = .ok (.iconst 0, 1) := by decide +kernel
theorem dX12_told_145 : decode cX12_told 145 = .ok (.ireturn, 1) := by decide +kernel
theorem dX12_told_146 : decode cX12_told 146 = .ok (.aload_n 0, 1) := by decide +kernel
theorem dX12_told_147 : decode cX12_told 147 = .ok (.iload_n 1, 1) := by decide +kernel
theorem dX12_told_148 : decode cX12_told 148 = .ok (.invokevirtual 191, 3) := by decide +kernel
theorem dX12_told_151 : decode cX12_told 151 = .ok (.ireturn, 1) := by decide +kernel
theorem dX12_told_152 : decode cX12_told 152 = .ok (.aload_n 0, 1) := by decide +kernel
theorem dX12_told_153 : decode cX12_told 153 = .ok (.iload_n 1, 1) := by decide +kernel
theorem dX12_told_154 : decode cX12_told 154 = .ok (.iload_n 2, 1) := by decide +kernel
theorem dX12_told_155 : decode cX12_told 155 = .ok (.invokevirtual 194, 3) := by decide +kernel
theorem dX12_told_158 : decode cX12_told 158 = .ok (.ireturn, 1) := by decide +kernel
theorem dX12_told_159 : decode cX12_told 159 = .ok (.ldc 182, 2) := by decide +kernel
theorem dX12_told_161 : decode cX12_told 161 = .ok (.ireturn, 1) := by decide +kernel
theorem dX12_feed_0 : decode cX12_feed 0 = .ok (.iload_n 1, 1) := by decide +kernel
theorem dX12_feed_1 : decode cX12_feed 1 = .ok (.i2l, 1) := by decide +kernel
theorem dX12_feed_2 : decode cX12_feed 2 = .ok (.lconst 1, 1) := by decide +kernel
theorem dX12_feed_3 : decode cX12_feed 3 = .ok (.ldc2_w 198, 3) := by decide +kernel
theorem dX12_feed_6 : decode cX12_feed 6 = .ok (.invokestatic 134, 3) := by decide +kernel
theorem dX12_feed_9 : decode cX12_feed 9 = .ok (.ifCond .ne 6, 3) := by decide +kernel
theorem dX12_feed_12 : decode cX12_feed 12 = .ok (.bipush (-2), 2) := by decide +kernel
theorem dX12_feed_14 : decode cX12_feed 14 = .ok (.ireturn, 1) := by decide +kernel
theorem dX12_feed_15 : decode cX12_feed 15 = .ok (.aload_n 0, 1) := by decide +kernel
theorem dX12_feed_16 : decode cX12_feed 16 = .ok (.getfield 200, 3) := by decide +kernel
theorem dX12_feed_19 : decode cX12_feed 19 = .ok (.iload_n 1, 1) := by decide +kernel
theorem dX12_feed_20 : decode cX12_feed 20 = .ok (.iadd, 1) := by decide +kernel
theorem dX12_feed_21 : decode cX12_feed 21 = .ok (.sipush 160, 3) := by decide +kernel
theorem dX12_feed_24 : decode cX12_feed 24 = .ok (.if_icmp .le 6, 3) := by decide +kernel
theorem dX12_feed_27 : decode cX12_feed 27 = .ok (.bipush (-4), 2) := by decide +kernel
theorem dX12_feed_29 : decode cX12_feed 29 = .ok (.ireturn, 1) := by decide +kernel
theorem dX12_feed_30 : decode cX12_feed 30 = .ok (.iconst 0, 1) := by decide +kernel
theorem dX12_feed_31 : decode cX12_feed 31 = .ok (.istore 4, 2) := by decide +kernel
theorem dX12_feed_33 : decode cX12_feed 33 = .ok (.iload 4, 2) := by decide +kernel
theorem dX12_feed_35 : decode cX12_feed 35 = .ok (.iload_n 1, 1) := by decide +kernel
theorem dX12_feed_36 : decode cX12_feed 36 = .ok (.if_icmp .ge 40, 3) := by decide +kernel
theorem dX12_feed_39 : decode cX12_feed 39 = .ok (.aload_n 0, 1) := by decide +kernel
theorem dX12_feed_40 : decode cX12_feed 40 = .ok (.getfield 20, 3) := by decide +kernel
theorem dX12_feed_43 : decode cX12_feed 43 = .ok (.aload_n 0, 1) := by decide +kernel
theorem dX12_feed_44 : decode cX12_feed 44 = .ok (.getfield 200, 3) := by decide +kernel
theorem dX12_feed_47 : decode cX12_feed 47 = .ok (.lload_n 2, 1) := by decide +kernel
theorem dX12_feed_48 : decode cX12_feed 48 = .ok (.bipush 8, 2) := by decide +kernel
theorem dX12_feed_50 : decode cX12_feed 50 = .ok (.iload 4, 2) := by decide +kernel
theorem dX12_feed_52 : decode cX12_feed 52 = .ok (.imul, 1) := by decide +kernel
theorem dX12_feed_53 : decode cX12_feed 53 = .ok (.lshr, 1) := by decide +kernel
theorem dX12_feed_54 : decode cX12_feed 54 = .ok (.ldc2_w 129, 3) := by decide +kernel
theorem dX12_feed_57 : decode cX12_feed 57 = .ok (.land, 1) := by decide +kernel
theorem dX12_feed_58 : decode cX12_feed 58 = .ok (.l2i, 1) := by decide +kernel
theorem dX12_feed_59 : decode cX12_feed 59 = .ok (.iastore, 1) := by decide +kernel
theorem dX12_feed_60 : decode cX12_feed 60 = .ok (.aload_n 0, 1) := by decide +kernel
theorem dX12_feed_61 : decode cX12_feed 61 = .ok (.dup, 1) := by decide +kernel
theorem dX12_feed_62 : decode cX12_feed 62 = .ok (.getfield 200, 3) := by decide +kernel
theorem dX12_feed_65 : decode cX12_feed 65 = .ok (.iconst 1, 1) := by decide +kernel
theorem dX12_feed_66 : decode cX12_feed 66 = .ok (.iadd, 1) := by decide +kernel
theorem dX12_feed_67 : decode cX12_feed 67 = .ok (.putfield 200, 3) := by decide +kernel
theorem dX12_feed_70 : decode cX12_feed 70 = .ok (.iinc 4 1, 3) := by decide +kernel
theorem dX12_feed_73 : decode cX12_feed 73 = .ok (.goto (-40), 3) := by decide +kernel
theorem dX12_feed_76 : decode cX12_feed 76 = .ok (.aload_n 0, 1) := by decide +kernel
theorem dX12_feed_77 : decode cX12_feed 77 = .ok (.getfield 200, 3) := by decide +kernel
theorem dX12_feed_80 : decode cX12_feed 80 = .ok (.ireturn, 1) := by decide +kernel
theorem dX12_byteAt_0 : decode cX12_byteAt 0 = .ok (.iload_n 1, 1) := by decide +kernel
theorem dX12_byteAt_1 : decode cX12_byteAt 1 = .ok (.aload_n 0, 1) := by decide +kernel
theorem dX12_byteAt_2 : decode cX12_byteAt 2 = .ok (.getfield 203, 3) := by decide +kernel
theorem dX12_byteAt_5 : decode cX12_byteAt 5 = .ok (.if_icmp .ge 17, 3) := by decide +kernel
theorem dX12_byteAt_8 : decode cX12_byteAt 8 = .ok (.aload_n 0, 1) := by decide +kernel
theorem dX12_byteAt_9 : decode cX12_byteAt 9 = .ok (.getfield 13, 3) := by decide +kernel
theorem dX12_byteAt_12 : decode cX12_byteAt 12 = .ok (.aload_n 0, 1) := by decide +kernel
theorem dX12_byteAt_13 : decode cX12_byteAt 13 = .ok (.getfield 206, 3) := by decide +kernel
theorem dX12_byteAt_16 : decode cX12_byteAt 16 = .ok (.iload_n 1, 1) := by decide +kernel
theorem dX12_byteAt_17 : decode cX12_byteAt 17 = .ok (.iadd, 1) := by decide +kernel
theorem dX12_byteAt_18 : decode cX12_byteAt 18 = .ok (.iaload, 1) := by decide +kernel
theorem dX12_byteAt_19 : decode cX12_byteAt 19 = .ok (.goto 4, 3) := by decide +kernel
theorem dX12_byteAt_22 : decode cX12_byteAt 22 = .ok (.iconst (-1), 1) := by decide +kernel
theorem dX12_byteAt_23 : decode cX12_byteAt 23 = .ok (.ireturn, 1) := by decide +kernel
theorem dX12_next_0 : decode cX12_next 0 = .ok (.aload_n 0, 1) := by decide +kernel
theorem dX12_next_1 : decode cX12_next 1 = .ok (.aload_n 0, 1) := by decide +kernel
theorem dX12_next_2 : decode cX12_next 2 = .ok (.getfield 209, 3) := by decide +kernel
theorem dX12_next_5 : decode cX12_next 5 = .ok (.invokevirtual 212, 3) := by decide +kernel
theorem dX12_next_8 : decode cX12_next 8 = .ok (.bipush 32, 2) := by decide +kernel
theorem dX12_next_10 : decode cX12_next 10 = .ok (.if_icmp .eq 16, 3) := by decide +kernel
theorem dX12_next_13 : decode cX12_next 13 = .ok (.aload_n 0, 1) := by decide +kernel
theorem dX12_next_14 : decode cX12_next 14 = .ok (.aload_n 0, 1) := by decide +kernel
theorem dX12_next_15 : decode cX12_next 15 = .ok (.getfield 209, 3) := by decide +kernel
theorem dX12_next_18 : decode cX12_next 18 = .ok (.invokevirtual 212, 3) := by decide +kernel
theorem dX12_next_21 : decode cX12_next 21 = .ok (.bipush 10, 2) := by decide +kernel
theorem dX12_next_23 : decode cX12_next 23 = .ok (.if_icmp .ne 16, 3) := by decide +kernel
theorem dX12_next_26 : decode cX12_next 26 = .ok (.aload_n 0, 1) := by decide +kernel
theorem dX12_next_27 : decode cX12_next 27 = .ok (.dup, 1) := by decide +kernel
theorem dX12_next_28 : decode cX12_next 28 = .ok (.getfield 209, 3) := by decide +kernel
theorem dX12_next_31 : decode cX12_next 31 = .ok (.iconst 1, 1) := by decide +kernel
theorem dX12_next_32 : decode cX12_next 32 = .ok (.iadd, 1) := by decide +kernel
theorem dX12_next_33 : decode cX12_next 33 = .ok (.putfield 209, 3) := by decide +kernel
theorem dX12_next_36 : decode cX12_next 36 = .ok (.goto (-36), 3) := by decide +kernel
theorem dX12_next_39 : decode cX12_next 39 = .ok (.aload_n 0, 1) := by decide +kernel
theorem dX12_next_40 : decode cX12_next 40 = .ok (.aload_n 0, 1) := by decide +kernel
theorem dX12_next_41 : decode cX12_next 41 = .ok (.getfield 209, 3) := by decide +kernel
theorem dX12_next_44 : decode cX12_next 44 = .ok (.putfield 215, 3) := by decide +kernel
theorem dX12_next_47 : decode cX12_next 47 = .ok (.aload_n 0, 1) := by decide +kernel
theorem dX12_next_48 : decode cX12_next 48 = .ok (.aload_n 0, 1) := by decide +kernel
theorem dX12_next_49 : decode cX12_next 49 = .ok (.getfield 209, 3) := by decide +kernel
theorem dX12_next_52 : decode cX12_next 52 = .ok (.invokevirtual 212, 3) := by decide +kernel
theorem dX12_next_55 : decode cX12_next 55 = .ok (.istore_n 1, 1) := by decide +kernel
theorem dX12_next_56 : decode cX12_next 56 = .ok (.aload_n 0, 1) := by decide +kernel
theorem dX12_next_57 : decode cX12_next 57 = .ok (.iconst 4, 1) := by decide +kernel
theorem dX12_next_58 : decode cX12_next 58 = .ok (.putfield 218, 3) := by decide +kernel
theorem dX12_next_61 : decode cX12_next 61 = .ok (.iload_n 1, 1) := by decide +kernel
theorem dX12_next_62 : decode cX12_next 62 = .ok (.ifCond .ge 19, 3) := by decide +kernel
theorem dX12_next_65 : decode cX12_next 65 = .ok (.aload_n 0, 1) := by decide +kernel
theorem dX12_next_66 : decode cX12_next 66 = .ok (.iconst 0, 1) := by decide +kernel
theorem dX12_next_67 : decode cX12_next 67 = .ok (.putfield 218, 3) := by decide +kernel
theorem dX12_next_70 : decode cX12_next 70 = .ok (.aload_n 0, 1) := by decide +kernel
theorem dX12_next_71 : decode cX12_next 71 = .ok (.aload_n 0, 1) := by decide +kernel
theorem dX12_next_72 : decode cX12_next 72 = .ok (.getfield 203, 3) := by decide +kernel
theorem dX12_next_75 : decode cX12_next 75 = .ok (.putfield 215, 3) := by decide +kernel
theorem dX12_next_78 : decode cX12_next 78 = .ok (.goto 294, 3) := by decide +kernel
theorem dX12_next_81 : decode cX12_next 81 = .ok (.iload_n 1, 1) := by decide +kernel
theorem dX12_next_82 : decode cX12_next 82 = .ok (.i2l, 1) := by decide +kernel
theorem dX12_next_83 : decode cX12_next 83 = .ok (.ldc2_w 221, 3) := by decide +kernel
theorem dX12_next_86 : decode cX12_next 86 = .ok (.ldc2_w 223, 3) := by decide +kernel
theorem dX12_next_89 : decode cX12_next 89 = .ok (.invokestatic 134, 3) := by decide +kernel
theorem dX12_next_92 : decode cX12_next 92 = .ok (.ifCond .eq 93, 3) := by decide +kernel
theorem dX12_next_95 : decode cX12_next 95 = .ok (.aload_n 0, 1) := by decide +kernel
theorem dX12_next_96 : decode cX12_next 96 = .ok (.iconst 1, 1) := by decide +kernel
theorem dX12_next_97 : decode cX12_next 97 = .ok (.putfield 218, 3) := by decide +kernel
theorem dX12_next_100 : decode cX12_next 100 = .ok (.aload_n 0, 1) := by decide +kernel
theorem dX12_next_101 : decode cX12_next 101 = .ok (.lconst 0, 1) := by decide +kernel
theorem dX12_next_102 : decode cX12_next 102 = .ok (.putfield 225, 3) := by decide +kernel
theorem dX12_next_105 : decode cX12_next 105 = .ok (.iconst 0, 1) := by decide +kernel
theorem dX12_next_106 : decode cX12_next 106 = .ok (.istore_n 2, 1) := by decide +kernel
theorem dX12_next_107 : decode cX12_next 107 = .ok (.aload_n 0, 1) := by decide +kernel
theorem dX12_next_108 : decode cX12_next 108 = .ok (.aload_n 0, 1) := by decide +kernel
theorem dX12_next_109 : decode cX12_next 109 = .ok (.getfield 209, 3) := by decide +kernel
theorem dX12_next_112 : decode cX12_next 112 = .ok (.invokevirtual 212, 3) := by decide +kernel
theorem dX12_next_115 : decode cX12_next 115 = .ok (.i2l, 1) := by decide +kernel
theorem dX12_next_116 : decode cX12_next 116 = .ok (.ldc2_w 221, 3) := by decide +kernel
theorem dX12_next_119 : decode cX12_next 119 = .ok (.ldc2_w 223, 3) := by decide +kernel
theorem dX12_next_122 : decode cX12_next 122 = .ok (.invokestatic 134, 3) := by decide +kernel
theorem dX12_next_125 : decode cX12_next 125 = .ok (.ifCond .eq 57, 3) := by decide +kernel
theorem dX12_next_128 : decode cX12_next 128 = .ok (.aload_n 0, 1) := by decide +kernel
theorem dX12_next_129 : decode cX12_next 129 = .ok (.iload_n 2, 1) := by decide +kernel
theorem dX12_next_130 : decode cX12_next 130 = .ok (.bipush 8, 2) := by decide +kernel
theorem dX12_next_132 : decode cX12_next 132 = .ok (.if_icmp .ge 28, 3) := by decide +kernel
theorem dX12_next_135 : decode cX12_next 135 = .ok (.ldc2_w 229, 3) := by decide +kernel
theorem dX12_next_138 : decode cX12_next 138 = .ok (.aload_n 0, 1) := by decide +kernel
theorem dX12_next_139 : decode cX12_next 139 = .ok (.getfield 225, 3) := by decide +kernel
theorem dX12_next_142 : decode cX12_next 142 = .ok (.lmul, 1) := by decide +kernel
theorem dX12_next_143 : decode cX12_next 143 = .ok (.aload_n 0, 1) := by decide +kernel
theorem dX12_next_144 : decode cX12_next 144 = .ok (.aload_n 0, 1) := by decide +kernel
theorem dX12_next_145 : decode cX12_next 145 = .ok (.getfield 209, 3) := by decide +kernel
theorem dX12_next_148 : decode cX12_next 148 = .ok (.invokevirtual 212, 3) := by decide +kernel
theorem dX12_next_151 : decode cX12_next 151 = .ok (.i2l, 1) := by decide +kernel
theorem dX12_next_152 : decode cX12_next 152 = .ok (.ladd, 1) := by decide +kernel
theorem dX12_next_153 : decode cX12_next 153 = .ok (.ldc2_w 231, 3) := by decide +kernel
theorem dX12_next_156 : decode cX12_next 156 = .ok (.lsub, 1) := by decide +kernel
theorem dX12_next_157 : decode cX12_next 157 = .ok (.goto 6, 3) := by decide +kernel
theorem dX12_next_160 : decode cX12_next 160 = .ok (.ldc2_w 233, 3) := by decide +kernel
theorem dX12_next_163 : decode cX12_next 163 = .ok (.putfield 225, 3) := by decide +kernel
theorem dX12_next_166 : decode cX12_next 166 = .ok (.iinc 2 1, 3) := by decide +kernel
theorem dX12_next_169 : decode cX12_next 169 = .ok (.aload_n 0, 1) := by decide +kernel
theorem dX12_next_170 : decode cX12_next 170 = .ok (.dup, 1) := by decide +kernel
theorem dX12_next_171 : decode cX12_next 171 = .ok (.getfield 209, 3) := by decide +kernel
theorem dX12_next_174 : decode cX12_next 174 = .ok (.iconst 1, 1) := by decide +kernel
theorem dX12_next_175 : decode cX12_next 175 = .ok (.iadd, 1) := by decide +kernel
theorem dX12_next_176 : decode cX12_next 176 = .ok (.putfield 209, 3) := by decide +kernel
theorem dX12_next_179 : decode cX12_next 179 = .ok (.goto (-72), 3) := by decide +kernel
theorem dX12_next_182 : decode cX12_next 182 = .ok (.goto 190, 3) := by decide +kernel
theorem dX12_next_185 : decode cX12_next 185 = .ok (.iload_n 1, 1) := by decide +kernel
theorem dX12_next_186 : decode cX12_next 186 = .ok (.i2l, 1) := by decide +kernel
theorem dX12_next_187 : decode cX12_next 187 = .ok (.ldc2_w 235, 3) := by decide +kernel
theorem dX12_next_190 : decode cX12_next 190 = .ok (.ldc2_w 237, 3) := by decide +kernel
theorem dX12_next_193 : decode cX12_next 193 = .ok (.invokestatic 134, 3) := by decide +kernel
theorem dX12_next_196 : decode cX12_next 196 = .ok (.ifCond .eq 107, 3) := by decide +kernel
theorem dX12_next_199 : decode cX12_next 199 = .ok (.aload_n 0, 1) := by decide +kernel
theorem dX12_next_200 : decode cX12_next 200 = .ok (.iconst 2, 1) := by decide +kernel
theorem dX12_next_201 : decode cX12_next 201 = .ok (.putfield 218, 3) := by decide +kernel
theorem dX12_next_204 : decode cX12_next 204 = .ok (.aload_n 0, 1) := by decide +kernel
theorem dX12_next_205 : decode cX12_next 205 = .ok (.lconst 0, 1) := by decide +kernel
theorem dX12_next_206 : decode cX12_next 206 = .ok (.putfield 225, 3) := by decide +kernel
theorem dX12_next_209 : decode cX12_next 209 = .ok (.iconst 0, 1) := by decide +kernel
theorem dX12_next_210 : decode cX12_next 210 = .ok (.istore_n 2, 1) := by decide +kernel
theorem dX12_next_211 : decode cX12_next 211 = .ok (.aload_n 0, 1) := by decide +kernel
theorem dX12_next_212 : decode cX12_next 212 = .ok (.aload_n 0, 1) := by decide +kernel
theorem dX12_next_213 : decode cX12_next 213 = .ok (.getfield 209, 3) := by decide +kernel
theorem dX12_next_216 : decode cX12_next 216 = .ok (.invokevirtual 212, 3) := by decide +kernel
theorem dX12_next_219 : decode cX12_next 219 = .ok (.i2l, 1) := by decide +kernel
theorem dX12_next_220 : decode cX12_next 220 = .ok (.ldc2_w 235, 3) := by decide +kernel
theorem dX12_next_223 : decode cX12_next 223 = .ok (.ldc2_w 237, 3) := by decide +kernel
theorem dX12_next_226 : decode cX12_next 226 = .ok (.invokestatic 134, 3) := by decide +kernel
theorem dX12_next_229 : decode cX12_next 229 = .ok (.ifCond .eq 57, 3) := by decide +kernel
theorem dX12_next_232 : decode cX12_next 232 = .ok (.aload_n 0, 1) := by decide +kernel
theorem dX12_next_233 : decode cX12_next 233 = .ok (.iload_n 2, 1) := by decide +kernel
theorem dX12_next_234 : decode cX12_next 234 = .ok (.iconst 4, 1) := by decide +kernel
theorem dX12_next_235 : decode cX12_next 235 = .ok (.if_icmp .ge 28, 3) := by decide +kernel
theorem dX12_next_238 : decode cX12_next 238 = .ok (.ldc2_w 239, 3) := by decide +kernel
theorem dX12_next_241 : decode cX12_next 241 = .ok (.aload_n 0, 1) := by decide +kernel
theorem dX12_next_242 : decode cX12_next 242 = .ok (.getfield 225, 3) := by decide +kernel
theorem dX12_next_245 : decode cX12_next 245 = .ok (.lmul, 1) := by decide +kernel
theorem dX12_next_246 : decode cX12_next 246 = .ok (.aload_n 0, 1) := by decide +kernel
theorem dX12_next_247 : decode cX12_next 247 = .ok (.aload_n 0, 1) := by decide +kernel
theorem dX12_next_248 : decode cX12_next 248 = .ok (.getfield 209, 3) := by decide +kernel
theorem dX12_next_251 : decode cX12_next 251 = .ok (.invokevirtual 212, 3) := by decide +kernel
theorem dX12_next_254 : decode cX12_next 254 = .ok (.i2l, 1) := by decide +kernel
theorem dX12_next_255 : decode cX12_next 255 = .ok (.ladd, 1) := by decide +kernel
theorem dX12_next_256 : decode cX12_next 256 = .ok (.ldc2_w 235, 3) := by decide +kernel
theorem dX12_next_259 : decode cX12_next 259 = .ok (.lsub, 1) := by decide +kernel
theorem dX12_next_260 : decode cX12_next 260 = .ok (.goto 7, 3) := by decide +kernel
theorem dX12_next_263 : decode cX12_next 263 = .ok (.aload_n 0, 1) := by decide +kernel
theorem dX12_next_264 : decode cX12_next 264 = .ok (.getfield 225, 3) := by decide +kernel
theorem dX12_next_267 : decode cX12_next 267 = .ok (.putfield 225, 3) := by decide +kernel
theorem dX12_next_270 : decode cX12_next 270 = .ok (.iinc 2 1, 3) := by decide +kernel
theorem dX12_next_273 : decode cX12_next 273 = .ok (.aload_n 0, 1) := by decide +kernel
theorem dX12_next_274 : decode cX12_next 274 = .ok (.dup, 1) := by decide +kernel
theorem dX12_next_275 : decode cX12_next 275 = .ok (.getfield 209, 3) := by decide +kernel
theorem dX12_next_278 : decode cX12_next 278 = .ok (.iconst 1, 1) := by decide +kernel
theorem dX12_next_279 : decode cX12_next 279 = .ok (.iadd, 1) := by decide +kernel
theorem dX12_next_280 : decode cX12_next 280 = .ok (.putfield 209, 3) := by decide +kernel
theorem dX12_next_283 : decode cX12_next 283 = .ok (.goto (-72), 3) := by decide +kernel
theorem dX12_next_286 : decode cX12_next 286 = .ok (.aload_n 0, 1) := by decide +kernel
theorem dX12_next_287 : decode cX12_next 287 = .ok (.iload_n 2, 1) := by decide +kernel
theorem dX12_next_288 : decode cX12_next 288 = .ok (.iconst 4, 1) := by decide +kernel
theorem dX12_next_289 : decode cX12_next 289 = .ok (.if_icmp .le 7, 3) := by decide +kernel
theorem dX12_next_292 : decode cX12_next 292 = .ok (.iconst 4, 1) := by decide +kernel
theorem dX12_next_293 : decode cX12_next 293 = .ok (.goto 4, 3) := by decide +kernel
theorem dX12_next_296 : decode cX12_next 296 = .ok (.iconst 2, 1) := by decide +kernel
theorem dX12_next_297 : decode cX12_next 297 = .ok (.putfield 218, 3) := by decide +kernel
theorem dX12_next_300 : decode cX12_next 300 = .ok (.goto 72, 3) := by decide +kernel
theorem dX12_next_303 : decode cX12_next 303 = .ok (.iload_n 1, 1) := by decide +kernel
theorem dX12_next_304 : decode cX12_next 304 = .ok (.bipush 40, 2) := by decide +kernel
theorem dX12_next_306 : decode cX12_next 306 = .ok (.if_icmp .eq 45, 3) := by decide +kernel
theorem dX12_next_309 : decode cX12_next 309 = .ok (.iload_n 1, 1) := by decide +kernel
theorem dX12_next_310 : decode cX12_next 310 = .ok (.bipush 41, 2) := by decide +kernel
theorem dX12_next_312 : decode cX12_next 312 = .ok (.if_icmp .eq 39, 3) := by decide +kernel
theorem dX12_next_315 : decode cX12_next 315 = .ok (.iload_n 1, 1) := by decide +kernel
theorem dX12_next_316 : decode cX12_next 316 = .ok (.bipush 59, 2) := by decide +kernel
theorem dX12_next_318 : decode cX12_next 318 = .ok (.if_icmp .eq 33, 3) := by decide +kernel
theorem dX12_next_321 : decode cX12_next 321 = .ok (.iload_n 1, 1) := by decide +kernel
theorem dX12_next_322 : decode cX12_next 322 = .ok (.bipush 43, 2) := by decide +kernel
theorem dX12_next_324 : decode cX12_next 324 = .ok (.if_icmp .eq 27, 3) := by decide +kernel
theorem dX12_next_327 : decode cX12_next 327 = .ok (.iload_n 1, 1) := by decide +kernel
theorem dX12_next_328 : decode cX12_next 328 = .ok (.bipush 45, 2) := by decide +kernel
theorem dX12_next_330 : decode cX12_next 330 = .ok (.if_icmp .eq 21, 3) := by decide +kernel
theorem dX12_next_333 : decode cX12_next 333 = .ok (.iload_n 1, 1) := by decide +kernel
theorem dX12_next_334 : decode cX12_next 334 = .ok (.bipush 42, 2) := by decide +kernel
theorem dX12_next_336 : decode cX12_next 336 = .ok (.if_icmp .eq 15, 3) := by decide +kernel
theorem dX12_next_339 : decode cX12_next 339 = .ok (.iload_n 1, 1) := by decide +kernel
theorem dX12_next_340 : decode cX12_next 340 = .ok (.bipush 60, 2) := by decide +kernel
theorem dX12_next_342 : decode cX12_next 342 = .ok (.if_icmp .eq 9, 3) := by decide +kernel
theorem dX12_next_345 : decode cX12_next 345 = .ok (.iload_n 1, 1) := by decide +kernel
theorem dX12_next_346 : decode cX12_next 346 = .ok (.bipush 61, 2) := by decide +kernel
theorem dX12_next_348 : decode cX12_next 348 = .ok (.if_icmp .ne 24, 3) := by decide +kernel
theorem dX12_next_351 : decode cX12_next 351 = .ok (.aload_n 0, 1) := by decide +kernel
theorem dX12_next_352 : decode cX12_next 352 = .ok (.iconst 3, 1) := by decide +kernel
theorem dX12_next_353 : decode cX12_next 353 = .ok (.putfield 218, 3) := by decide +kernel
theorem dX12_next_356 : decode cX12_next 356 = .ok (.aload_n 0, 1) := by decide +kernel
theorem dX12_next_357 : decode cX12_next 357 = .ok (.iload_n 1, 1) := by decide +kernel
theorem dX12_next_358 : decode cX12_next 358 = .ok (.i2l, 1) := by decide +kernel
theorem dX12_next_359 : decode cX12_next 359 = .ok (.putfield 225, 3) := by decide +kernel
theorem dX12_next_362 : decode cX12_next 362 = .ok (.aload_n 0, 1) := by decide +kernel
theorem dX12_next_363 : decode cX12_next 363 = .ok (.dup, 1) := by decide +kernel
theorem dX12_next_364 : decode cX12_next 364 = .ok (.getfield 209, 3) := by decide +kernel
theorem dX12_next_367 : decode cX12_next 367 = .ok (.iconst 1, 1) := by decide +kernel
theorem dX12_next_368 : decode cX12_next 368 = .ok (.iadd, 1) := by decide +kernel
theorem dX12_next_369 : decode cX12_next 369 = .ok (.putfield 209, 3) := by decide +kernel
theorem dX12_next_372 : decode cX12_next 372 = .ok (.return_, 1) := by decide +kernel
theorem dX12_fail_0 : decode cX12_fail 0 = .ok (.aload_n 0, 1) := by decide +kernel
theorem dX12_fail_1 : decode cX12_fail 1 = .ok (.getfield 241, 3) := by decide +kernel
theorem dX12_fail_4 : decode cX12_fail 4 = .ok (.ifCond .ne 16, 3) := by decide +kernel
theorem dX12_fail_7 : decode cX12_fail 7 = .ok (.aload_n 0, 1) := by decide +kernel
theorem dX12_fail_8 : decode cX12_fail 8 = .ok (.iconst 1, 1) := by decide +kernel
theorem dX12_fail_9 : decode cX12_fail 9 = .ok (.putfield 241, 3) := by decide +kernel
theorem dX12_fail_12 : decode cX12_fail 12 = .ok (.aload_n 0, 1) := by decide +kernel
theorem dX12_fail_13 : decode cX12_fail 13 = .ok (.aload_n 0, 1) := by decide +kernel
theorem dX12_fail_14 : decode cX12_fail 14 = .ok (.getfield 215, 3) := by decide +kernel
theorem dX12_fail_17 : decode cX12_fail 17 = .ok (.putfield 245, 3) := by decide +kernel
theorem dX12_fail_20 : decode cX12_fail 20 = .ok (.return_, 1) := by decide +kernel
theorem dX12_isWord_0 : decode cX12_isWord 0 = .ok (.aload_n 0, 1) := by decide +kernel
theorem dX12_isWord_1 : decode cX12_isWord 1 = .ok (.getfield 241, 3) := by decide +kernel
theorem dX12_isWord_4 : decode cX12_isWord 4 = .ok (.ifCond .ne 24, 3) := by decide +kernel
theorem dX12_isWord_7 : decode cX12_isWord 7 = .ok (.aload_n 0, 1) := by decide +kernel
theorem dX12_isWord_8 : decode cX12_isWord 8 = .ok (.getfield 218, 3) := by decide +kernel
theorem dX12_isWord_11 : decode cX12_isWord 11 = .ok (.iconst 1, 1) := by decide +kernel
theorem dX12_isWord_12 : decode cX12_isWord 12 = .ok (.if_icmp .ne 16, 3) := by decide +kernel
theorem dX12_isWord_15 : decode cX12_isWord 15 = .ok (.aload_n 0, 1) := by decide +kernel
theorem dX12_isWord_16 : decode cX12_isWord 16 = .ok (.getfield 225, 3) := by decide +kernel
theorem dX12_isWord_19 : decode cX12_isWord 19 = .ok (.lload_n 1, 1) := by decide +kernel
theorem dX12_isWord_20 : decode cX12_isWord 20 = .ok (.lcmp, 1) := by decide +kernel
theorem dX12_isWord_21 : decode cX12_isWord 21 = .ok (.ifCond .ne 7, 3) := by decide +kernel
theorem dX12_isWord_24 : decode cX12_isWord 24 = .ok (.iconst 1, 1) := by decide +kernel
theorem dX12_isWord_25 : decode cX12_isWord 25 = .ok (.goto 4, 3) := by decide +kernel
theorem dX12_isWord_28 : decode cX12_isWord 28 = .ok (.iconst 0, 1) := by decide +kernel
theorem dX12_isWord_29 : decode cX12_isWord 29 = .ok (.ireturn, 1) := by decide +kernel
theorem dX12_isSign_0 : decode cX12_isSign 0 = .ok (.aload_n 0, 1) := by decide +kernel
theorem dX12_isSign_1 : decode cX12_isSign 1 = .ok (.getfield 241, 3) := by decide +kernel
theorem dX12_isSign_4 : decode cX12_isSign 4 = .ok (.ifCond .ne 25, 3) := by decide +kernel
theorem dX12_isSign_7 : decode cX12_isSign 7 = .ok (.aload_n 0, 1) := by decide +kernel
theorem dX12_isSign_8 : decode cX12_isSign 8 = .ok (.getfield 218, 3) := by decide +kernel
theorem dX12_isSign_11 : decode cX12_isSign 11 = .ok (.iconst 3, 1) := by decide +kernel
theorem dX12_isSign_12 : decode cX12_isSign 12 = .ok (.if_icmp .ne 17, 3) := by decide +kernel
theorem dX12_isSign_15 : decode cX12_isSign 15 = .ok (.aload_n 0, 1) := by decide +kernel
theorem dX12_isSign_16 : decode cX12_isSign 16 = .ok (.getfield 225, 3) := by decide +kernel
theorem dX12_isSign_19 : decode cX12_isSign 19 = .ok (.iload_n 1, 1) := by decide +kernel
theorem dX12_isSign_20 : decode cX12_isSign 20 = .ok (.i2l, 1) := by decide +kernel
theorem dX12_isSign_21 : decode cX12_isSign 21 = .ok (.lcmp, 1) := by decide +kernel
theorem dX12_isSign_22 : decode cX12_isSign 22 = .ok (.ifCond .ne 7, 3) := by decide +kernel
theorem dX12_isSign_25 : decode cX12_isSign 25 = .ok (.iconst 1, 1) := by decide +kernel
theorem dX12_isSign_26 : decode cX12_isSign 26 = .ok (.goto 4, 3) := by decide +kernel
theorem dX12_isSign_29 : decode cX12_isSign 29 = .ok (.iconst 0, 1) := by decide +kernel
theorem dX12_isSign_30 : decode cX12_isSign 30 = .ok (.ireturn, 1) := by decide +kernel
theorem dX12_opens_0 : decode cX12_opens 0 = .ok (.aload_n 0, 1) := by decide +kernel
theorem dX12_opens_1 : decode cX12_opens 1 = .ok (.getfield 248, 3) := by decide +kernel
theorem dX12_opens_4 : decode cX12_opens 4 = .ok (.iconst 5, 1) := by decide +kernel
theorem dX12_opens_5 : decode cX12_opens 5 = .ok (.if_icmp .ne 9, 3) := by decide +kernel
theorem dX12_opens_8 : decode cX12_opens 8 = .ok (.aload_n 0, 1) := by decide +kernel
theorem dX12_opens_9 : decode cX12_opens 9 = .ok (.invokevirtual 251, 3) := by decide +kernel
theorem dX12_opens_12 : decode cX12_opens 12 = .ok (.iconst 0, 1) := by decide +kernel
theorem dX12_opens_13 : decode cX12_opens 13 = .ok (.ireturn, 1) := by decide +kernel
theorem dX12_opens_14 : decode cX12_opens 14 = .ok (.aload_n 0, 1) := by decide +kernel
theorem dX12_opens_15 : decode cX12_opens 15 = .ok (.dup, 1) := by decide +kernel
theorem dX12_opens_16 : decode cX12_opens 16 = .ok (.getfield 248, 3) := by decide +kernel
theorem dX12_opens_19 : decode cX12_opens 19 = .ok (.iconst 1, 1) := by decide +kernel
theorem dX12_opens_20 : decode cX12_opens 20 = .ok (.iadd, 1) := by decide +kernel
theorem dX12_opens_21 : decode cX12_opens 21 = .ok (.putfield 248, 3) := by decide +kernel
theorem dX12_opens_24 : decode cX12_opens 24 = .ok (.aload_n 0, 1) := by decide +kernel
theorem dX12_opens_25 : decode cX12_opens 25 = .ok (.invokevirtual 254, 3) := by decide +kernel
theorem dX12_opens_28 : decode cX12_opens 28 = .ok (.iconst 1, 1) := by decide +kernel
theorem dX12_opens_29 : decode cX12_opens 29 = .ok (.ireturn, 1) := by decide +kernel
theorem dX12_name_0 : decode cX12_name 0 = .ok (.aload_n 0, 1) := by decide +kernel
theorem dX12_name_1 : decode cX12_name 1 = .ok (.ldc2_w 257, 3) := by decide +kernel
theorem dX12_name_4 : decode cX12_name 4 = .ok (.invokevirtual 259, 3) := by decide +kernel
theorem dX12_name_7 : decode cX12_name 7 = .ok (.ifCond .eq 8, 3) := by decide +kernel
theorem dX12_name_10 : decode cX12_name 10 = .ok (.aload_n 0, 1) := by decide +kernel
theorem dX12_name_11 : decode cX12_name 11 = .ok (.getfield 263, 3) := by decide +kernel
theorem dX12_name_14 : decode cX12_name 14 = .ok (.ireturn, 1) := by decide +kernel
theorem dX12_name_15 : decode cX12_name 15 = .ok (.aload_n 0, 1) := by decide +kernel
theorem dX12_name_16 : decode cX12_name 16 = .ok (.ldc2_w 266, 3) := by decide +kernel
theorem dX12_name_19 : decode cX12_name 19 = .ok (.invokevirtual 259, 3) := by decide +kernel
theorem dX12_name_22 : decode cX12_name 22 = .ok (.ifCond .eq 8, 3) := by decide +kernel
theorem dX12_name_25 : decode cX12_name 25 = .ok (.aload_n 0, 1) := by decide +kernel
theorem dX12_name_26 : decode cX12_name 26 = .ok (.getfield 153, 3) := by decide +kernel
theorem dX12_name_29 : decode cX12_name 29 = .ok (.ireturn, 1) := by decide +kernel
theorem dX12_name_30 : decode cX12_name 30 = .ok (.aload_n 0, 1) := by decide +kernel
theorem dX12_name_31 : decode cX12_name 31 = .ok (.ldc2_w 268, 3) := by decide +kernel
theorem dX12_name_34 : decode cX12_name 34 = .ok (.invokevirtual 259, 3) := by decide +kernel
theorem dX12_name_37 : decode cX12_name 37 = .ok (.ifCond .eq 8, 3) := by decide +kernel
theorem dX12_name_40 : decode cX12_name 40 = .ok (.aload_n 0, 1) := by decide +kernel
theorem dX12_name_41 : decode cX12_name 41 = .ok (.getfield 156, 3) := by decide +kernel
theorem dX12_name_44 : decode cX12_name 44 = .ok (.ireturn, 1) := by decide +kernel
theorem dX12_name_45 : decode cX12_name 45 = .ok (.aload_n 0, 1) := by decide +kernel
theorem dX12_name_46 : decode cX12_name 46 = .ok (.ldc2_w 270, 3) := by decide +kernel
theorem dX12_name_49 : decode cX12_name 49 = .ok (.invokevirtual 259, 3) := by decide +kernel
theorem dX12_name_52 : decode cX12_name 52 = .ok (.ifCond .eq 8, 3) := by decide +kernel
theorem dX12_name_55 : decode cX12_name 55 = .ok (.aload_n 0, 1) := by decide +kernel
theorem dX12_name_56 : decode cX12_name 56 = .ok (.getfield 272, 3) := by decide +kernel
theorem dX12_name_59 : decode cX12_name 59 = .ok (.ireturn, 1) := by decide +kernel
theorem dX12_name_60 : decode cX12_name 60 = .ok (.aload_n 0, 1) := by decide +kernel
theorem dX12_name_61 : decode cX12_name 61 = .ok (.ldc2_w 275, 3) := by decide +kernel
theorem dX12_name_64 : decode cX12_name 64 = .ok (.invokevirtual 259, 3) := by decide +kernel
theorem dX12_name_67 : decode cX12_name 67 = .ok (.ifCond .eq 8, 3) := by decide +kernel
theorem dX12_name_70 : decode cX12_name 70 = .ok (.aload_n 0, 1) := by decide +kernel
theorem dX12_name_71 : decode cX12_name 71 = .ok (.getfield 277, 3) := by decide +kernel
theorem dX12_name_74 : decode cX12_name 74 = .ok (.ireturn, 1) := by decide +kernel
theorem dX12_name_75 : decode cX12_name 75 = .ok (.aload_n 0, 1) := by decide +kernel
theorem dX12_name_76 : decode cX12_name 76 = .ok (.ldc2_w 280, 3) := by decide +kernel
theorem dX12_name_79 : decode cX12_name 79 = .ok (.invokevirtual 259, 3) := by decide +kernel
theorem dX12_name_82 : decode cX12_name 82 = .ok (.ifCond .eq 8, 3) := by decide +kernel
theorem dX12_name_85 : decode cX12_name 85 = .ok (.aload_n 0, 1) := by decide +kernel
theorem dX12_name_86 : decode cX12_name 86 = .ok (.getfield 282, 3) := by decide +kernel
theorem dX12_name_89 : decode cX12_name 89 = .ok (.ireturn, 1) := by decide +kernel
theorem dX12_name_90 : decode cX12_name 90 = .ok (.aload_n 0, 1) := by decide +kernel
theorem dX12_name_91 : decode cX12_name 91 = .ok (.invokevirtual 251, 3) := by decide +kernel
theorem dX12_name_94 : decode cX12_name 94 = .ok (.iconst 0, 1) := by decide +kernel
theorem dX12_name_95 : decode cX12_name 95 = .ok (.ireturn, 1) := by decide +kernel
theorem dX12_one_0 : decode cX12_one 0 = .ok (.iconst 0, 1) := by decide +kernel
theorem dX12_one_1 : decode cX12_one 1 = .ok (.istore_n 1, 1) := by decide +kernel
theorem dX12_one_2 : decode cX12_one 2 = .ok (.aload_n 0, 1) := by decide +kernel
theorem dX12_one_3 : decode cX12_one 3 = .ok (.bipush 45, 2) := by decide +kernel
theorem dX12_one_5 : decode cX12_one 5 = .ok (.invokevirtual 285, 3) := by decide +kernel
theorem dX12_one_8 : decode cX12_one 8 = .ok (.ifCond .eq 29, 3) := by decide +kernel
theorem dX12_one_11 : decode cX12_one 11 = .ok (.aload_n 0, 1) := by decide +kernel
theorem dX12_one_12 : decode cX12_one 12 = .ok (.invokevirtual 288, 3) := by decide +kernel
theorem dX12_one_15 : decode cX12_one 15 = .ok (.ifCond .eq 146, 3) := by decide +kernel
theorem dX12_one_18 : decode cX12_one 18 = .ok (.aload_n 0, 1) := by decide +kernel
theorem dX12_one_19 : decode cX12_one 19 = .ok (.invokevirtual 292, 3) := by decide +kernel
theorem dX12_one_22 : decode cX12_one 22 = .ok (.ineg, 1) := by decide +kernel
theorem dX12_one_23 : decode cX12_one 23 = .ok (.istore_n 1, 1) := by decide +kernel
theorem dX12_one_24 : decode cX12_one 24 = .ok (.aload_n 0, 1) := by decide +kernel
theorem dX12_one_25 : decode cX12_one 25 = .ok (.dup, 1) := by decide +kernel
theorem dX12_one_26 : decode cX12_one 26 = .ok (.getfield 248, 3) := by decide +kernel
theorem dX12_one_29 : decode cX12_one 29 = .ok (.iconst 1, 1) := by decide +kernel
theorem dX12_one_30 : decode cX12_one 30 = .ok (.isub, 1) := by decide +kernel
theorem dX12_one_31 : decode cX12_one 31 = .ok (.putfield 248, 3) := by decide +kernel
theorem dX12_one_34 : decode cX12_one 34 = .ok (.goto 127, 3) := by decide +kernel
theorem dX12_one_37 : decode cX12_one 37 = .ok (.aload_n 0, 1) := by decide +kernel
theorem dX12_one_38 : decode cX12_one 38 = .ok (.bipush 40, 2) := by decide +kernel
theorem dX12_one_40 : decode cX12_one 40 = .ok (.invokevirtual 285, 3) := by decide +kernel
theorem dX12_one_43 : decode cX12_one 43 = .ok (.ifCond .eq 52, 3) := by decide +kernel
theorem dX12_one_46 : decode cX12_one 46 = .ok (.aload_n 0, 1) := by decide +kernel
theorem dX12_one_47 : decode cX12_one 47 = .ok (.invokevirtual 288, 3) := by decide +kernel
theorem dX12_one_50 : decode cX12_one 50 = .ok (.ifCond .eq 111, 3) := by decide +kernel
theorem dX12_one_53 : decode cX12_one 53 = .ok (.aload_n 0, 1) := by decide +kernel
theorem dX12_one_54 : decode cX12_one 54 = .ok (.invokevirtual 296, 3) := by decide +kernel
theorem dX12_one_57 : decode cX12_one 57 = .ok (.istore_n 1, 1) := by decide +kernel
theorem dX12_one_58 : decode cX12_one 58 = .ok (.aload_n 0, 1) := by decide +kernel
theorem dX12_one_59 : decode cX12_one 59 = .ok (.bipush 41, 2) := by decide +kernel
theorem dX12_one_61 : decode cX12_one 61 = .ok (.invokevirtual 285, 3) := by decide +kernel
theorem dX12_one_64 : decode cX12_one 64 = .ok (.ifCond .ne 7, 3) := by decide +kernel
theorem dX12_one_67 : decode cX12_one 67 = .ok (.aload_n 0, 1) := by decide +kernel
theorem dX12_one_68 : decode cX12_one 68 = .ok (.invokevirtual 251, 3) := by decide +kernel
theorem dX12_one_71 : decode cX12_one 71 = .ok (.aload_n 0, 1) := by decide +kernel
theorem dX12_one_72 : decode cX12_one 72 = .ok (.dup, 1) := by decide +kernel
theorem dX12_one_73 : decode cX12_one 73 = .ok (.getfield 248, 3) := by decide +kernel
theorem dX12_one_76 : decode cX12_one 76 = .ok (.iconst 1, 1) := by decide +kernel
theorem dX12_one_77 : decode cX12_one 77 = .ok (.isub, 1) := by decide +kernel
theorem dX12_one_78 : decode cX12_one 78 = .ok (.putfield 248, 3) := by decide +kernel
theorem dX12_one_81 : decode cX12_one 81 = .ok (.aload_n 0, 1) := by decide +kernel
theorem dX12_one_82 : decode cX12_one 82 = .ok (.getfield 241, 3) := by decide +kernel
theorem dX12_one_85 : decode cX12_one 85 = .ok (.ifCond .ne 76, 3) := by decide +kernel
theorem dX12_one_88 : decode cX12_one 88 = .ok (.aload_n 0, 1) := by decide +kernel
theorem dX12_one_89 : decode cX12_one 89 = .ok (.invokevirtual 254, 3) := by decide +kernel
theorem dX12_one_92 : decode cX12_one 92 = .ok (.goto 69, 3) := by decide +kernel
theorem dX12_one_95 : decode cX12_one 95 = .ok (.aload_n 0, 1) := by decide +kernel
theorem dX12_one_96 : decode cX12_one 96 = .ok (.getfield 241, 3) := by decide +kernel
theorem dX12_one_99 : decode cX12_one 99 = .ok (.ifCond .ne 24, 3) := by decide +kernel
theorem dX12_one_102 : decode cX12_one 102 = .ok (.aload_n 0, 1) := by decide +kernel
theorem dX12_one_103 : decode cX12_one 103 = .ok (.getfield 218, 3) := by decide +kernel
theorem dX12_one_106 : decode cX12_one 106 = .ok (.iconst 2, 1) := by decide +kernel
theorem dX12_one_107 : decode cX12_one 107 = .ok (.if_icmp .ne 16, 3) := by decide +kernel
theorem dX12_one_110 : decode cX12_one 110 = .ok (.aload_n 0, 1) := by decide +kernel
theorem dX12_one_111 : decode cX12_one 111 = .ok (.getfield 225, 3) := by decide +kernel
theorem dX12_one_114 : decode cX12_one 114 = .ok (.l2i, 1) := by decide +kernel
theorem dX12_one_115 : decode cX12_one 115 = .ok (.istore_n 1, 1) := by decide +kernel
theorem dX12_one_116 : decode cX12_one 116 = .ok (.aload_n 0, 1) := by decide +kernel
theorem dX12_one_117 : decode cX12_one 117 = .ok (.invokevirtual 254, 3) := by decide +kernel
theorem dX12_one_120 : decode cX12_one 120 = .ok (.goto 41, 3) := by decide +kernel
theorem dX12_one_123 : decode cX12_one 123 = .ok (.aload_n 0, 1) := by decide +kernel
theorem dX12_one_124 : decode cX12_one 124 = .ok (.getfield 241, 3) := by decide +kernel
theorem dX12_one_127 : decode cX12_one 127 = .ok (.ifCond .ne 30, 3) := by decide +kernel
theorem dX12_one_130 : decode cX12_one 130 = .ok (.aload_n 0, 1) := by decide +kernel
theorem dX12_one_131 : decode cX12_one 131 = .ok (.getfield 218, 3) := by decide +kernel
theorem dX12_one_134 : decode cX12_one 134 = .ok (.iconst 1, 1) := by decide +kernel
theorem dX12_one_135 : decode cX12_one 135 = .ok (.if_icmp .ne 22, 3) := by decide +kernel
theorem dX12_one_138 : decode cX12_one 138 = .ok (.aload_n 0, 1) := by decide +kernel
theorem dX12_one_139 : decode cX12_one 139 = .ok (.invokevirtual 299, 3) := by decide +kernel
theorem dX12_one_142 : decode cX12_one 142 = .ok (.istore_n 1, 1) := by decide +kernel
theorem dX12_one_143 : decode cX12_one 143 = .ok (.aload_n 0, 1) := by decide +kernel
theorem dX12_one_144 : decode cX12_one 144 = .ok (.getfield 241, 3) := by decide +kernel
theorem dX12_one_147 : decode cX12_one 147 = .ok (.ifCond .ne 14, 3) := by decide +kernel
theorem dX12_one_150 : decode cX12_one 150 = .ok (.aload_n 0, 1) := by decide +kernel
theorem dX12_one_151 : decode cX12_one 151 = .ok (.invokevirtual 254, 3) := by decide +kernel
theorem dX12_one_154 : decode cX12_one 154 = .ok (.goto 7, 3) := by decide +kernel
theorem dX12_one_157 : decode cX12_one 157 = .ok (.aload_n 0, 1) := by decide +kernel
theorem dX12_one_158 : decode cX12_one 158 = .ok (.invokevirtual 251, 3) := by decide +kernel
theorem dX12_one_161 : decode cX12_one 161 = .ok (.iload_n 1, 1) := by decide +kernel
theorem dX12_one_162 : decode cX12_one 162 = .ok (.ireturn, 1) := by decide +kernel
theorem dX12_term_0 : decode cX12_term 0 = .ok (.aload_n 0, 1) := by decide +kernel
theorem dX12_term_1 : decode cX12_term 1 = .ok (.invokevirtual 292, 3) := by decide +kernel
theorem dX12_term_4 : decode cX12_term 4 = .ok (.istore_n 1, 1) := by decide +kernel
theorem dX12_term_5 : decode cX12_term 5 = .ok (.aload_n 0, 1) := by decide +kernel
theorem dX12_term_6 : decode cX12_term 6 = .ok (.bipush 42, 2) := by decide +kernel
theorem dX12_term_8 : decode cX12_term 8 = .ok (.invokevirtual 285, 3) := by decide +kernel
theorem dX12_term_11 : decode cX12_term 11 = .ok (.ifCond .eq 17, 3) := by decide +kernel
theorem dX12_term_14 : decode cX12_term 14 = .ok (.aload_n 0, 1) := by decide +kernel
theorem dX12_term_15 : decode cX12_term 15 = .ok (.invokevirtual 254, 3) := by decide +kernel
theorem dX12_term_18 : decode cX12_term 18 = .ok (.iload_n 1, 1) := by decide +kernel
theorem dX12_term_19 : decode cX12_term 19 = .ok (.aload_n 0, 1) := by decide +kernel
theorem dX12_term_20 : decode cX12_term 20 = .ok (.invokevirtual 292, 3) := by decide +kernel
theorem dX12_term_23 : decode cX12_term 23 = .ok (.imul, 1) := by decide +kernel
theorem dX12_term_24 : decode cX12_term 24 = .ok (.istore_n 1, 1) := by decide +kernel
theorem dX12_term_25 : decode cX12_term 25 = .ok (.goto (-20), 3) := by decide +kernel
theorem dX12_term_28 : decode cX12_term 28 = .ok (.iload_n 1, 1) := by decide +kernel
theorem dX12_term_29 : decode cX12_term 29 = .ok (.ireturn, 1) := by decide +kernel
theorem dX12_added_0 : decode cX12_added 0 = .ok (.aload_n 0, 1) := by decide +kernel
theorem dX12_added_1 : decode cX12_added 1 = .ok (.invokevirtual 302, 3) := by decide +kernel
theorem dX12_added_4 : decode cX12_added 4 = .ok (.istore_n 1, 1) := by decide +kernel
theorem dX12_added_5 : decode cX12_added 5 = .ok (.aload_n 0, 1) := by decide +kernel
theorem dX12_added_6 : decode cX12_added 6 = .ok (.bipush 43, 2) := by decide +kernel
theorem dX12_added_8 : decode cX12_added 8 = .ok (.invokevirtual 285, 3) := by decide +kernel
theorem dX12_added_11 : decode cX12_added 11 = .ok (.ifCond .ne 12, 3) := by decide +kernel
theorem dX12_added_14 : decode cX12_added 14 = .ok (.aload_n 0, 1) := by decide +kernel
theorem dX12_added_15 : decode cX12_added 15 = .ok (.bipush 45, 2) := by decide +kernel
theorem dX12_added_17 : decode cX12_added 17 = .ok (.invokevirtual 285, 3) := by decide +kernel
theorem dX12_added_20 : decode cX12_added 20 = .ok (.ifCond .eq 46, 3) := by decide +kernel
theorem dX12_added_23 : decode cX12_added 23 = .ok (.aload_n 0, 1) := by decide +kernel
theorem dX12_added_24 : decode cX12_added 24 = .ok (.getfield 225, 3) := by decide +kernel
theorem dX12_added_27 : decode cX12_added 27 = .ok (.ldc2_w 305, 3) := by decide +kernel
theorem dX12_added_30 : decode cX12_added 30 = .ok (.lcmp, 1) := by decide +kernel
theorem dX12_added_31 : decode cX12_added 31 = .ok (.ifCond .ne 7, 3) := by decide +kernel
theorem dX12_added_34 : decode cX12_added 34 = .ok (.iconst 1, 1) := by decide +kernel
theorem dX12_added_35 : decode cX12_added 35 = .ok (.goto 4, 3) := by decide +kernel
theorem dX12_added_38 : decode cX12_added 38 = .ok (.iconst 0, 1) := by decide +kernel
theorem dX12_added_39 : decode cX12_added 39 = .ok (.istore_n 2, 1) := by decide +kernel
theorem dX12_added_40 : decode cX12_added 40 = .ok (.aload_n 0, 1) := by decide +kernel
theorem dX12_added_41 : decode cX12_added 41 = .ok (.invokevirtual 254, 3) := by decide +kernel
theorem dX12_added_44 : decode cX12_added 44 = .ok (.aload_n 0, 1) := by decide +kernel
theorem dX12_added_45 : decode cX12_added 45 = .ok (.invokevirtual 302, 3) := by decide +kernel
theorem dX12_added_48 : decode cX12_added 48 = .ok (.istore_n 3, 1) := by decide +kernel
theorem dX12_added_49 : decode cX12_added 49 = .ok (.iload_n 2, 1) := by decide +kernel
theorem dX12_added_50 : decode cX12_added 50 = .ok (.ifCond .eq 9, 3) := by decide +kernel
theorem dX12_added_53 : decode cX12_added 53 = .ok (.iload_n 1, 1) := by decide +kernel
theorem dX12_added_54 : decode cX12_added 54 = .ok (.iload_n 3, 1) := by decide +kernel
theorem dX12_added_55 : decode cX12_added 55 = .ok (.iadd, 1) := by decide +kernel
theorem dX12_added_56 : decode cX12_added 56 = .ok (.goto 6, 3) := by decide +kernel
theorem dX12_added_59 : decode cX12_added 59 = .ok (.iload_n 1, 1) := by decide +kernel
theorem dX12_added_60 : decode cX12_added 60 = .ok (.iload_n 3, 1) := by decide +kernel
theorem dX12_added_61 : decode cX12_added 61 = .ok (.isub, 1) := by decide +kernel
theorem dX12_added_62 : decode cX12_added 62 = .ok (.istore_n 1, 1) := by decide +kernel
theorem dX12_added_63 : decode cX12_added 63 = .ok (.goto (-58), 3) := by decide +kernel
theorem dX12_added_66 : decode cX12_added 66 = .ok (.iload_n 1, 1) := by decide +kernel
theorem dX12_added_67 : decode cX12_added 67 = .ok (.ireturn, 1) := by decide +kernel
theorem dX12_not_0 : decode cX12_not 0 = .ok (.aload_n 0, 1) := by decide +kernel
theorem dX12_not_1 : decode cX12_not 1 = .ok (.ldc2_w 307, 3) := by decide +kernel
theorem dX12_not_4 : decode cX12_not 4 = .ok (.invokevirtual 259, 3) := by decide +kernel
theorem dX12_not_7 : decode cX12_not 7 = .ok (.ifCond .eq 37, 3) := by decide +kernel
theorem dX12_not_10 : decode cX12_not 10 = .ok (.aload_n 0, 1) := by decide +kernel
theorem dX12_not_11 : decode cX12_not 11 = .ok (.invokevirtual 288, 3) := by decide +kernel
theorem dX12_not_14 : decode cX12_not 14 = .ok (.ifCond .ne 5, 3) := by decide +kernel
theorem dX12_not_17 : decode cX12_not 17 = .ok (.iconst 0, 1) := by decide +kernel
theorem dX12_not_18 : decode cX12_not 18 = .ok (.ireturn, 1) := by decide +kernel
theorem dX12_not_19 : decode cX12_not 19 = .ok (.aload_n 0, 1) := by decide +kernel
theorem dX12_not_20 : decode cX12_not 20 = .ok (.invokevirtual 309, 3) := by decide +kernel
theorem dX12_not_23 : decode cX12_not 23 = .ok (.istore_n 1, 1) := by decide +kernel
theorem dX12_not_24 : decode cX12_not 24 = .ok (.aload_n 0, 1) := by decide +kernel
theorem dX12_not_25 : decode cX12_not 25 = .ok (.dup, 1) := by decide +kernel
theorem dX12_not_26 : decode cX12_not 26 = .ok (.getfield 248, 3) := by decide +kernel
theorem dX12_not_29 : decode cX12_not 29 = .ok (.iconst 1, 1) := by decide +kernel
theorem dX12_not_30 : decode cX12_not 30 = .ok (.isub, 1) := by decide +kernel
theorem dX12_not_31 : decode cX12_not 31 = .ok (.putfield 248, 3) := by decide +kernel
theorem dX12_not_34 : decode cX12_not 34 = .ok (.iload_n 1, 1) := by decide +kernel
theorem dX12_not_35 : decode cX12_not 35 = .ok (.ifCond .ne 7, 3) := by decide +kernel
theorem dX12_not_38 : decode cX12_not 38 = .ok (.iconst 1, 1) := by decide +kernel
theorem dX12_not_39 : decode cX12_not 39 = .ok (.goto 4, 3) := by decide +kernel
theorem dX12_not_42 : decode cX12_not 42 = .ok (.iconst 0, 1) := by decide +kernel
theorem dX12_not_43 : decode cX12_not 43 = .ok (.ireturn, 1) := by decide +kernel
theorem dX12_not_44 : decode cX12_not 44 = .ok (.aload_n 0, 1) := by decide +kernel
theorem dX12_not_45 : decode cX12_not 45 = .ok (.invokevirtual 312, 3) := by decide +kernel
theorem dX12_not_48 : decode cX12_not 48 = .ok (.istore_n 1, 1) := by decide +kernel
theorem dX12_not_49 : decode cX12_not 49 = .ok (.aload_n 0, 1) := by decide +kernel
theorem dX12_not_50 : decode cX12_not 50 = .ok (.bipush 60, 2) := by decide +kernel
theorem dX12_not_52 : decode cX12_not 52 = .ok (.invokevirtual 285, 3) := by decide +kernel
theorem dX12_not_55 : decode cX12_not 55 = .ok (.ifCond .ne 14, 3) := by decide +kernel
theorem dX12_not_58 : decode cX12_not 58 = .ok (.aload_n 0, 1) := by decide +kernel
theorem dX12_not_59 : decode cX12_not 59 = .ok (.bipush 61, 2) := by decide +kernel
theorem dX12_not_61 : decode cX12_not 61 = .ok (.invokevirtual 285, 3) := by decide +kernel
theorem dX12_not_64 : decode cX12_not 64 = .ok (.ifCond .ne 5, 3) := by decide +kernel
theorem dX12_not_67 : decode cX12_not 67 = .ok (.iload_n 1, 1) := by decide +kernel
theorem dX12_not_68 : decode cX12_not 68 = .ok (.ireturn, 1) := by decide +kernel
theorem dX12_not_69 : decode cX12_not 69 = .ok (.aload_n 0, 1) := by decide +kernel
theorem dX12_not_70 : decode cX12_not 70 = .ok (.getfield 225, 3) := by decide +kernel
theorem dX12_not_73 : decode cX12_not 73 = .ok (.ldc2_w 145, 3) := by decide +kernel
theorem dX12_not_76 : decode cX12_not 76 = .ok (.lcmp, 1) := by decide +kernel
theorem dX12_not_77 : decode cX12_not 77 = .ok (.ifCond .ne 7, 3) := by decide +kernel
theorem dX12_not_80 : decode cX12_not 80 = .ok (.iconst 1, 1) := by decide +kernel
theorem dX12_not_81 : decode cX12_not 81 = .ok (.goto 4, 3) := by decide +kernel
theorem dX12_not_84 : decode cX12_not 84 = .ok (.iconst 0, 1) := by decide +kernel
theorem dX12_not_85 : decode cX12_not 85 = .ok (.istore_n 2, 1) := by decide +kernel
theorem dX12_not_86 : decode cX12_not 86 = .ok (.aload_n 0, 1) := by decide +kernel
theorem dX12_not_87 : decode cX12_not 87 = .ok (.invokevirtual 254, 3) := by decide +kernel
theorem dX12_not_90 : decode cX12_not 90 = .ok (.aload_n 0, 1) := by decide +kernel
theorem dX12_not_91 : decode cX12_not 91 = .ok (.invokevirtual 312, 3) := by decide +kernel
theorem dX12_not_94 : decode cX12_not 94 = .ok (.istore_n 3, 1) := by decide +kernel
theorem dX12_not_95 : decode cX12_not 95 = .ok (.iload_n 2, 1) := by decide +kernel
theorem dX12_not_96 : decode cX12_not 96 = .ok (.ifCond .eq 11, 3) := by decide +kernel
theorem dX12_not_99 : decode cX12_not 99 = .ok (.iload_n 1, 1) := by decide +kernel
theorem dX12_not_100 : decode cX12_not 100 = .ok (.iload_n 3, 1) := by decide +kernel
theorem dX12_not_101 : decode cX12_not 101 = .ok (.if_icmp .ge 15, 3) := by decide +kernel
theorem dX12_not_104 : decode cX12_not 104 = .ok (.goto 8, 3) := by decide +kernel
theorem dX12_not_107 : decode cX12_not 107 = .ok (.iload_n 1, 1) := by decide +kernel
theorem dX12_not_108 : decode cX12_not 108 = .ok (.iload_n 3, 1) := by decide +kernel
theorem dX12_not_109 : decode cX12_not 109 = .ok (.if_icmp .ne 7, 3) := by decide +kernel
theorem dX12_not_112 : decode cX12_not 112 = .ok (.iconst 1, 1) := by decide +kernel
theorem dX12_not_113 : decode cX12_not 113 = .ok (.goto 4, 3) := by decide +kernel
theorem dX12_not_116 : decode cX12_not 116 = .ok (.iconst 0, 1) := by decide +kernel
theorem dX12_not_117 : decode cX12_not 117 = .ok (.ireturn, 1) := by decide +kernel
theorem dX12_both_0 : decode cX12_both 0 = .ok (.aload_n 0, 1) := by decide +kernel
theorem dX12_both_1 : decode cX12_both 1 = .ok (.invokevirtual 309, 3) := by decide +kernel
theorem dX12_both_4 : decode cX12_both 4 = .ok (.istore_n 1, 1) := by decide +kernel
theorem dX12_both_5 : decode cX12_both 5 = .ok (.aload_n 0, 1) := by decide +kernel
theorem dX12_both_6 : decode cX12_both 6 = .ok (.ldc2_w 315, 3) := by decide +kernel
theorem dX12_both_9 : decode cX12_both 9 = .ok (.invokevirtual 259, 3) := by decide +kernel
theorem dX12_both_12 : decode cX12_both 12 = .ok (.ifCond .eq 29, 3) := by decide +kernel
theorem dX12_both_15 : decode cX12_both 15 = .ok (.aload_n 0, 1) := by decide +kernel
theorem dX12_both_16 : decode cX12_both 16 = .ok (.invokevirtual 254, 3) := by decide +kernel
theorem dX12_both_19 : decode cX12_both 19 = .ok (.aload_n 0, 1) := by decide +kernel
theorem dX12_both_20 : decode cX12_both 20 = .ok (.invokevirtual 309, 3) := by decide +kernel
theorem dX12_both_23 : decode cX12_both 23 = .ok (.istore_n 2, 1) := by decide +kernel
theorem dX12_both_24 : decode cX12_both 24 = .ok (.iload_n 1, 1) := by decide +kernel
theorem dX12_both_25 : decode cX12_both 25 = .ok (.ifCond .eq 11, 3) := by decide +kernel
theorem dX12_both_28 : decode cX12_both 28 = .ok (.iload_n 2, 1) := by decide +kernel
theorem dX12_both_29 : decode cX12_both 29 = .ok (.ifCond .eq 7, 3) := by decide +kernel
theorem dX12_both_32 : decode cX12_both 32 = .ok (.iconst 1, 1) := by decide +kernel
theorem dX12_both_33 : decode cX12_both 33 = .ok (.goto 4, 3) := by decide +kernel
theorem dX12_both_36 : decode cX12_both 36 = .ok (.iconst 0, 1) := by decide +kernel
theorem dX12_both_37 : decode cX12_both 37 = .ok (.istore_n 1, 1) := by decide +kernel
theorem dX12_both_38 : decode cX12_both 38 = .ok (.goto (-33), 3) := by decide +kernel
theorem dX12_both_41 : decode cX12_both 41 = .ok (.iload_n 1, 1) := by decide +kernel
theorem dX12_both_42 : decode cX12_both 42 = .ok (.ireturn, 1) := by decide +kernel
theorem dX12_either_0 : decode cX12_either 0 = .ok (.aload_n 0, 1) := by decide +kernel
theorem dX12_either_1 : decode cX12_either 1 = .ok (.invokevirtual 317, 3) := by decide +kernel
theorem dX12_either_4 : decode cX12_either 4 = .ok (.istore_n 1, 1) := by decide +kernel
theorem dX12_either_5 : decode cX12_either 5 = .ok (.aload_n 0, 1) := by decide +kernel
theorem dX12_either_6 : decode cX12_either 6 = .ok (.ldc2_w 320, 3) := by decide +kernel
theorem dX12_either_9 : decode cX12_either 9 = .ok (.invokevirtual 259, 3) := by decide +kernel
theorem dX12_either_12 : decode cX12_either 12 = .ok (.ifCond .eq 29, 3) := by decide +kernel
theorem dX12_either_15 : decode cX12_either 15 = .ok (.aload_n 0, 1) := by decide +kernel
theorem dX12_either_16 : decode cX12_either 16 = .ok (.invokevirtual 254, 3) := by decide +kernel
theorem dX12_either_19 : decode cX12_either 19 = .ok (.aload_n 0, 1) := by decide +kernel
theorem dX12_either_20 : decode cX12_either 20 = .ok (.invokevirtual 317, 3) := by decide +kernel
theorem dX12_either_23 : decode cX12_either 23 = .ok (.istore_n 2, 1) := by decide +kernel
theorem dX12_either_24 : decode cX12_either 24 = .ok (.iload_n 1, 1) := by decide +kernel
theorem dX12_either_25 : decode cX12_either 25 = .ok (.ifCond .ne 7, 3) := by decide +kernel
theorem dX12_either_28 : decode cX12_either 28 = .ok (.iload_n 2, 1) := by decide +kernel
theorem dX12_either_29 : decode cX12_either 29 = .ok (.ifCond .eq 7, 3) := by decide +kernel
theorem dX12_either_32 : decode cX12_either 32 = .ok (.iconst 1, 1) := by decide +kernel
theorem dX12_either_33 : decode cX12_either 33 = .ok (.goto 4, 3) := by decide +kernel
theorem dX12_either_36 : decode cX12_either 36 = .ok (.iconst 0, 1) := by decide +kernel
theorem dX12_either_37 : decode cX12_either 37 = .ok (.istore_n 1, 1) := by decide +kernel
theorem dX12_either_38 : decode cX12_either 38 = .ok (.goto (-33), 3) := by decide +kernel
theorem dX12_either_41 : decode cX12_either 41 = .ok (.iload_n 1, 1) := by decide +kernel
theorem dX12_either_42 : decode cX12_either 42 = .ok (.ireturn, 1) := by decide +kernel
theorem dX12_part_0 : decode cX12_part 0 = .ok (.aload_n 0, 1) := by decide +kernel
theorem dX12_part_1 : decode cX12_part 1 = .ok (.lload_n 1, 1) := by decide +kernel
theorem dX12_part_2 : decode cX12_part 2 = .ok (.invokevirtual 259, 3) := by decide +kernel
theorem dX12_part_5 : decode cX12_part 5 = .ok (.ifCond .ne 7, 3) := by decide +kernel
theorem dX12_part_8 : decode cX12_part 8 = .ok (.aload_n 0, 1) := by decide +kernel
theorem dX12_part_9 : decode cX12_part 9 = .ok (.invokevirtual 251, 3) := by decide +kernel
theorem dX12_part_12 : decode cX12_part 12 = .ok (.aload_n 0, 1) := by decide +kernel
theorem dX12_part_13 : decode cX12_part 13 = .ok (.getfield 241, 3) := by decide +kernel
theorem dX12_part_16 : decode cX12_part 16 = .ok (.ifCond .ne 7, 3) := by decide +kernel
theorem dX12_part_19 : decode cX12_part 19 = .ok (.aload_n 0, 1) := by decide +kernel
theorem dX12_part_20 : decode cX12_part 20 = .ok (.invokevirtual 254, 3) := by decide +kernel
theorem dX12_part_23 : decode cX12_part 23 = .ok (.aload_n 0, 1) := by decide +kernel
theorem dX12_part_24 : decode cX12_part 24 = .ok (.getfield 241, 3) := by decide +kernel
theorem dX12_part_27 : decode cX12_part 27 = .ok (.ifCond .eq 7, 3) := by decide +kernel
theorem dX12_part_30 : decode cX12_part 30 = .ok (.iconst 0, 1) := by decide +kernel
theorem dX12_part_31 : decode cX12_part 31 = .ok (.goto 7, 3) := by decide +kernel
theorem dX12_part_34 : decode cX12_part 34 = .ok (.aload_n 0, 1) := by decide +kernel
theorem dX12_part_35 : decode cX12_part 35 = .ok (.invokevirtual 296, 3) := by decide +kernel
theorem dX12_part_38 : decode cX12_part 38 = .ok (.istore_n 3, 1) := by decide +kernel
theorem dX12_part_39 : decode cX12_part 39 = .ok (.aload_n 0, 1) := by decide +kernel
theorem dX12_part_40 : decode cX12_part 40 = .ok (.bipush 59, 2) := by decide +kernel
theorem dX12_part_42 : decode cX12_part 42 = .ok (.invokevirtual 285, 3) := by decide +kernel
theorem dX12_part_45 : decode cX12_part 45 = .ok (.ifCond .ne 7, 3) := by decide +kernel
theorem dX12_part_48 : decode cX12_part 48 = .ok (.aload_n 0, 1) := by decide +kernel
theorem dX12_part_49 : decode cX12_part 49 = .ok (.invokevirtual 251, 3) := by decide +kernel
theorem dX12_part_52 : decode cX12_part 52 = .ok (.aload_n 0, 1) := by decide +kernel
theorem dX12_part_53 : decode cX12_part 53 = .ok (.getfield 241, 3) := by decide +kernel
theorem dX12_part_56 : decode cX12_part 56 = .ok (.ifCond .ne 7, 3) := by decide +kernel
theorem dX12_part_59 : decode cX12_part 59 = .ok (.aload_n 0, 1) := by decide +kernel
theorem dX12_part_60 : decode cX12_part 60 = .ok (.invokevirtual 254, 3) := by decide +kernel
theorem dX12_part_63 : decode cX12_part 63 = .ok (.iload_n 3, 1) := by decide +kernel
theorem dX12_part_64 : decode cX12_part 64 = .ok (.ireturn, 1) := by decide +kernel
theorem dX12_read_0 : decode cX12_read 0 = .ok (.aload_n 0, 1) := by decide +kernel
theorem dX12_read_1 : decode cX12_read 1 = .ok (.iload_n 2, 1) := by decide +kernel
theorem dX12_read_2 : decode cX12_read 2 = .ok (.putfield 263, 3) := by decide +kernel
theorem dX12_read_5 : decode cX12_read 5 = .ok (.aload_n 0, 1) := by decide +kernel
theorem dX12_read_6 : decode cX12_read 6 = .ok (.iload_n 3, 1) := by decide +kernel
theorem dX12_read_7 : decode cX12_read 7 = .ok (.putfield 272, 3) := by decide +kernel
theorem dX12_read_10 : decode cX12_read 10 = .ok (.aload_n 0, 1) := by decide +kernel
theorem dX12_read_11 : decode cX12_read 11 = .ok (.iload 4, 2) := by decide +kernel
theorem dX12_read_13 : decode cX12_read 13 = .ok (.putfield 277, 3) := by decide +kernel
theorem dX12_read_16 : decode cX12_read 16 = .ok (.aload_n 0, 1) := by decide +kernel
theorem dX12_read_17 : decode cX12_read 17 = .ok (.iload 5, 2) := by decide +kernel
theorem dX12_read_19 : decode cX12_read 19 = .ok (.putfield 282, 3) := by decide +kernel
theorem dX12_read_22 : decode cX12_read 22 = .ok (.aload_n 0, 1) := by decide +kernel
theorem dX12_read_23 : decode cX12_read 23 = .ok (.sipush 160, 3) := by decide +kernel
theorem dX12_read_26 : decode cX12_read 26 = .ok (.iload_n 1, 1) := by decide +kernel
theorem dX12_read_27 : decode cX12_read 27 = .ok (.imul, 1) := by decide +kernel
theorem dX12_read_28 : decode cX12_read 28 = .ok (.putfield 206, 3) := by decide +kernel
theorem dX12_read_31 : decode cX12_read 31 = .ok (.aload_n 0, 1) := by decide +kernel
theorem dX12_read_32 : decode cX12_read 32 = .ok (.aload_n 0, 1) := by decide +kernel
theorem dX12_read_33 : decode cX12_read 33 = .ok (.getfield 17, 3) := by decide +kernel
theorem dX12_read_36 : decode cX12_read 36 = .ok (.iload_n 1, 1) := by decide +kernel
theorem dX12_read_37 : decode cX12_read 37 = .ok (.iaload, 1) := by decide +kernel
theorem dX12_read_38 : decode cX12_read 38 = .ok (.putfield 203, 3) := by decide +kernel
theorem dX12_read_41 : decode cX12_read 41 = .ok (.aload_n 0, 1) := by decide +kernel
theorem dX12_read_42 : decode cX12_read 42 = .ok (.iconst 0, 1) := by decide +kernel
theorem dX12_read_43 : decode cX12_read 43 = .ok (.putfield 209, 3) := by decide +kernel
theorem dX12_read_46 : decode cX12_read 46 = .ok (.aload_n 0, 1) := by decide +kernel
theorem dX12_read_47 : decode cX12_read 47 = .ok (.iconst 0, 1) := by decide +kernel
theorem dX12_read_48 : decode cX12_read 48 = .ok (.putfield 248, 3) := by decide +kernel
theorem dX12_read_51 : decode cX12_read 51 = .ok (.aload_n 0, 1) := by decide +kernel
theorem dX12_read_52 : decode cX12_read 52 = .ok (.iconst 0, 1) := by decide +kernel
theorem dX12_read_53 : decode cX12_read 53 = .ok (.putfield 241, 3) := by decide +kernel
theorem dX12_read_56 : decode cX12_read 56 = .ok (.aload_n 0, 1) := by decide +kernel
theorem dX12_read_57 : decode cX12_read 57 = .ok (.invokevirtual 254, 3) := by decide +kernel
theorem dX12_read_60 : decode cX12_read 60 = .ok (.aload_n 0, 1) := by decide +kernel
theorem dX12_read_61 : decode cX12_read 61 = .ok (.ldc2_w 322, 3) := by decide +kernel
theorem dX12_read_64 : decode cX12_read 64 = .ok (.invokevirtual 324, 3) := by decide +kernel
theorem dX12_read_67 : decode cX12_read 67 = .ok (.istore 7, 2) := by decide +kernel
theorem dX12_read_69 : decode cX12_read 69 = .ok (.aload_n 0, 1) := by decide +kernel
theorem dX12_read_70 : decode cX12_read 70 = .ok (.getfield 241, 3) := by decide +kernel
theorem dX12_read_73 : decode cX12_read 73 = .ok (.ifCond .eq 7, 3) := by decide +kernel
theorem dX12_read_76 : decode cX12_read 76 = .ok (.iconst 0, 1) := by decide +kernel
theorem dX12_read_77 : decode cX12_read 77 = .ok (.goto 10, 3) := by decide +kernel
theorem dX12_read_80 : decode cX12_read 80 = .ok (.aload_n 0, 1) := by decide +kernel
theorem dX12_read_81 : decode cX12_read 81 = .ok (.ldc2_w 328, 3) := by decide +kernel
theorem dX12_read_84 : decode cX12_read 84 = .ok (.invokevirtual 324, 3) := by decide +kernel
theorem dX12_read_87 : decode cX12_read 87 = .ok (.istore 8, 2) := by decide +kernel
theorem dX12_read_89 : decode cX12_read 89 = .ok (.aload_n 0, 1) := by decide +kernel
theorem dX12_read_90 : decode cX12_read 90 = .ok (.getfield 241, 3) := by decide +kernel
theorem dX12_read_93 : decode cX12_read 93 = .ok (.ifCond .eq 7, 3) := by decide +kernel
theorem dX12_read_96 : decode cX12_read 96 = .ok (.iconst 0, 1) := by decide +kernel
theorem dX12_read_97 : decode cX12_read 97 = .ok (.goto 10, 3) := by decide +kernel
theorem dX12_read_100 : decode cX12_read 100 = .ok (.aload_n 0, 1) := by decide +kernel
theorem dX12_read_101 : decode cX12_read 101 = .ok (.ldc2_w 330, 3) := by decide +kernel
theorem dX12_read_104 : decode cX12_read 104 = .ok (.invokevirtual 324, 3) := by decide +kernel
theorem dX12_read_107 : decode cX12_read 107 = .ok (.istore 9, 2) := by decide +kernel
theorem dX12_read_109 : decode cX12_read 109 = .ok (.aload_n 0, 1) := by decide +kernel
theorem dX12_read_110 : decode cX12_read 110 = .ok (.getfield 241, 3) := by decide +kernel
theorem dX12_read_113 : decode cX12_read 113 = .ok (.ifCond .ne 14, 3) := by decide +kernel
theorem dX12_read_116 : decode cX12_read 116 = .ok (.aload_n 0, 1) := by decide +kernel
theorem dX12_read_117 : decode cX12_read 117 = .ok (.getfield 218, 3) := by decide +kernel
theorem dX12_read_120 : decode cX12_read 120 = .ok (.ifCond .eq 7, 3) := by decide +kernel
theorem dX12_read_123 : decode cX12_read 123 = .ok (.aload_n 0, 1) := by decide +kernel
theorem dX12_read_124 : decode cX12_read 124 = .ok (.invokevirtual 251, 3) := by decide +kernel
theorem dX12_read_127 : decode cX12_read 127 = .ok (.iload 6, 2) := by decide +kernel
theorem dX12_read_129 : decode cX12_read 129 = .ok (.ifCond .ne 8, 3) := by decide +kernel
theorem dX12_read_132 : decode cX12_read 132 = .ok (.iload 7, 2) := by decide +kernel
theorem dX12_read_134 : decode cX12_read 134 = .ok (.goto 16, 3) := by decide +kernel
theorem dX12_read_137 : decode cX12_read 137 = .ok (.iload 6, 2) := by decide +kernel
theorem dX12_read_139 : decode cX12_read 139 = .ok (.iconst 1, 1) := by decide +kernel
theorem dX12_read_140 : decode cX12_read 140 = .ok (.if_icmp .ne 8, 3) := by decide +kernel
theorem dX12_read_143 : decode cX12_read 143 = .ok (.iload 8, 2) := by decide +kernel
theorem dX12_read_145 : decode cX12_read 145 = .ok (.goto 5, 3) := by decide +kernel
theorem dX12_read_148 : decode cX12_read 148 = .ok (.iload 9, 2) := by decide +kernel
theorem dX12_read_150 : decode cX12_read 150 = .ok (.ireturn, 1) := by decide +kernel
theorem dX12_within_0 : decode cX12_within 0 = .ok (.iload_n 0, 1) := by decide +kernel
theorem dX12_within_1 : decode cX12_within 1 = .ok (.iload_n 1, 1) := by decide +kernel
theorem dX12_within_2 : decode cX12_within 2 = .ok (.if_icmp .ge 7, 3) := by decide +kernel
theorem dX12_within_5 : decode cX12_within 5 = .ok (.iload_n 1, 1) := by decide +kernel
theorem dX12_within_6 : decode cX12_within 6 = .ok (.goto 13, 3) := by decide +kernel
theorem dX12_within_9 : decode cX12_within 9 = .ok (.iload_n 0, 1) := by decide +kernel
theorem dX12_within_10 : decode cX12_within 10 = .ok (.iload_n 2, 1) := by decide +kernel
theorem dX12_within_11 : decode cX12_within 11 = .ok (.if_icmp .le 7, 3) := by decide +kernel
theorem dX12_within_14 : decode cX12_within 14 = .ok (.iload_n 2, 1) := by decide +kernel
theorem dX12_within_15 : decode cX12_within 15 = .ok (.goto 4, 3) := by decide +kernel
theorem dX12_within_18 : decode cX12_within 18 = .ok (.iload_n 0, 1) := by decide +kernel
theorem dX12_within_19 : decode cX12_within 19 = .ok (.ireturn, 1) := by decide +kernel
theorem dX12_dueOf_0 : decode cX12_dueOf 0 = .ok (.aload_n 0, 1) := by decide +kernel
theorem dX12_dueOf_1 : decode cX12_dueOf 1 = .ok (.aload_n 0, 1) := by decide +kernel
theorem dX12_dueOf_2 : decode cX12_dueOf 2 = .ok (.getfield 332, 3) := by decide +kernel
theorem dX12_dueOf_5 : decode cX12_dueOf 5 = .ok (.iconst 0, 1) := by decide +kernel
theorem dX12_dueOf_6 : decode cX12_dueOf 6 = .ok (.aload_n 0, 1) := by decide +kernel
theorem dX12_dueOf_7 : decode cX12_dueOf 7 = .ok (.getfield 38, 3) := by decide +kernel
theorem dX12_dueOf_10 : decode cX12_dueOf 10 = .ok (.iload_n 1, 1) := by decide +kernel
theorem dX12_dueOf_11 : decode cX12_dueOf 11 = .ok (.iaload, 1) := by decide +kernel
theorem dX12_dueOf_12 : decode cX12_dueOf 12 = .ok (.iload_n 2, 1) := by decide +kernel
theorem dX12_dueOf_13 : decode cX12_dueOf 13 = .ok (.aload_n 0, 1) := by decide +kernel
theorem dX12_dueOf_14 : decode cX12_dueOf 14 = .ok (.getfield 53, 3) := by decide +kernel
theorem dX12_dueOf_17 : decode cX12_dueOf 17 = .ok (.iload_n 1, 1) := by decide +kernel
theorem dX12_dueOf_18 : decode cX12_dueOf 18 = .ok (.iaload, 1) := by decide +kernel
theorem dX12_dueOf_19 : decode cX12_dueOf 19 = .ok (.iconst 2, 1) := by decide +kernel
theorem dX12_dueOf_20 : decode cX12_dueOf 20 = .ok (.invokevirtual 335, 3) := by decide +kernel
theorem dX12_dueOf_23 : decode cX12_dueOf 23 = .ok (.ireturn, 1) := by decide +kernel
theorem dX12_text_0 : decode cX12_text 0 = .ok (.aload_n 0, 1) := by decide +kernel
theorem dX12_text_1 : decode cX12_text 1 = .ok (.getfield 126, 3) := by decide +kernel
theorem dX12_text_4 : decode cX12_text 4 = .ok (.bipush 6, 2) := by decide +kernel
theorem dX12_text_6 : decode cX12_text 6 = .ok (.if_icmp .ne 6, 3) := by decide +kernel
theorem dX12_text_9 : decode cX12_text 9 = .ok (.bipush (-4), 2) := by decide +kernel
theorem dX12_text_11 : decode cX12_text 11 = .ok (.ireturn, 1) := by decide +kernel
theorem dX12_text_12 : decode cX12_text 12 = .ok (.iconst 0, 1) := by decide +kernel
theorem dX12_text_13 : decode cX12_text 13 = .ok (.istore_n 1, 1) := by decide +kernel
theorem dX12_text_14 : decode cX12_text 14 = .ok (.iload_n 1, 1) := by decide +kernel
theorem dX12_text_15 : decode cX12_text 15 = .ok (.aload_n 0, 1) := by decide +kernel
theorem dX12_text_16 : decode cX12_text 16 = .ok (.getfield 200, 3) := by decide +kernel
theorem dX12_text_19 : decode cX12_text 19 = .ok (.if_icmp .ge 30, 3) := by decide +kernel
theorem dX12_text_22 : decode cX12_text 22 = .ok (.aload_n 0, 1) := by decide +kernel
theorem dX12_text_23 : decode cX12_text 23 = .ok (.getfield 13, 3) := by decide +kernel
theorem dX12_text_26 : decode cX12_text 26 = .ok (.sipush 160, 3) := by decide +kernel
theorem dX12_text_29 : decode cX12_text 29 = .ok (.aload_n 0, 1) := by decide +kernel
theorem dX12_text_30 : decode cX12_text 30 = .ok (.getfield 126, 3) := by decide +kernel
theorem dX12_text_33 : decode cX12_text 33 = .ok (.imul, 1) := by decide +kernel
theorem dX12_text_34 : decode cX12_text 34 = .ok (.iload_n 1, 1) := by decide +kernel
theorem dX12_text_35 : decode cX12_text 35 = .ok (.iadd, 1) := by decide +kernel
theorem dX12_text_36 : decode cX12_text 36 = .ok (.aload_n 0, 1) := by decide +kernel
theorem dX12_text_37 : decode cX12_text 37 = .ok (.getfield 20, 3) := by decide +kernel
theorem dX12_text_40 : decode cX12_text 40 = .ok (.iload_n 1, 1) := by decide +kernel
theorem dX12_text_41 : decode cX12_text 41 = .ok (.iaload, 1) := by decide +kernel
theorem dX12_text_42 : decode cX12_text 42 = .ok (.iastore, 1) := by decide +kernel
theorem dX12_text_43 : decode cX12_text 43 = .ok (.iinc 1 1, 3) := by decide +kernel
theorem dX12_text_46 : decode cX12_text 46 = .ok (.goto (-32), 3) := by decide +kernel
theorem dX12_text_49 : decode cX12_text 49 = .ok (.aload_n 0, 1) := by decide +kernel
theorem dX12_text_50 : decode cX12_text 50 = .ok (.getfield 17, 3) := by decide +kernel
theorem dX12_text_53 : decode cX12_text 53 = .ok (.aload_n 0, 1) := by decide +kernel
theorem dX12_text_54 : decode cX12_text 54 = .ok (.getfield 126, 3) := by decide +kernel
theorem dX12_text_57 : decode cX12_text 57 = .ok (.aload_n 0, 1) := by decide +kernel
theorem dX12_text_58 : decode cX12_text 58 = .ok (.getfield 200, 3) := by decide +kernel
theorem dX12_text_61 : decode cX12_text 61 = .ok (.iastore, 1) := by decide +kernel
theorem dX12_text_62 : decode cX12_text 62 = .ok (.aload_n 0, 1) := by decide +kernel
theorem dX12_text_63 : decode cX12_text 63 = .ok (.iconst 0, 1) := by decide +kernel
theorem dX12_text_64 : decode cX12_text 64 = .ok (.putfield 200, 3) := by decide +kernel
theorem dX12_text_67 : decode cX12_text 67 = .ok (.aload_n 0, 1) := by decide +kernel
theorem dX12_text_68 : decode cX12_text 68 = .ok (.aload_n 0, 1) := by decide +kernel
theorem dX12_text_69 : decode cX12_text 69 = .ok (.getfield 126, 3) := by decide +kernel
theorem dX12_text_72 : decode cX12_text 72 = .ok (.iconst 0, 1) := by decide +kernel
theorem dX12_text_73 : decode cX12_text 73 = .ok (.iconst 0, 1) := by decide +kernel
theorem dX12_text_74 : decode cX12_text 74 = .ok (.iconst 0, 1) := by decide +kernel
theorem dX12_text_75 : decode cX12_text 75 = .ok (.iconst 0, 1) := by decide +kernel
theorem dX12_text_76 : decode cX12_text 76 = .ok (.iconst 0, 1) := by decide +kernel
theorem dX12_text_77 : decode cX12_text 77 = .ok (.invokevirtual 335, 3) := by decide +kernel
theorem dX12_text_80 : decode cX12_text 80 = .ok (.istore_n 1, 1) := by decide +kernel
theorem dX12_text_81 : decode cX12_text 81 = .ok (.aload_n 0, 1) := by decide +kernel
theorem dX12_text_82 : decode cX12_text 82 = .ok (.getfield 241, 3) := by decide +kernel
theorem dX12_text_85 : decode cX12_text 85 = .ok (.ifCond .eq 11, 3) := by decide +kernel
theorem dX12_text_88 : decode cX12_text 88 = .ok (.bipush (-100), 2) := by decide +kernel
theorem dX12_text_90 : decode cX12_text 90 = .ok (.aload_n 0, 1) := by decide +kernel
theorem dX12_text_91 : decode cX12_text 91 = .ok (.getfield 245, 3) := by decide +kernel
theorem dX12_text_94 : decode cX12_text 94 = .ok (.isub, 1) := by decide +kernel
theorem dX12_text_95 : decode cX12_text 95 = .ok (.ireturn, 1) := by decide +kernel
theorem dX12_text_96 : decode cX12_text 96 = .ok (.aload_n 0, 1) := by decide +kernel
theorem dX12_text_97 : decode cX12_text 97 = .ok (.dup, 1) := by decide +kernel
theorem dX12_text_98 : decode cX12_text 98 = .ok (.getfield 126, 3) := by decide +kernel
theorem dX12_text_101 : decode cX12_text 101 = .ok (.iconst 1, 1) := by decide +kernel
theorem dX12_text_102 : decode cX12_text 102 = .ok (.iadd, 1) := by decide +kernel
theorem dX12_text_103 : decode cX12_text 103 = .ok (.putfield 126, 3) := by decide +kernel
theorem dX12_text_106 : decode cX12_text 106 = .ok (.aload_n 0, 1) := by decide +kernel
theorem dX12_text_107 : decode cX12_text 107 = .ok (.getfield 126, 3) := by decide +kernel
theorem dX12_text_110 : decode cX12_text 110 = .ok (.iconst 1, 1) := by decide +kernel
theorem dX12_text_111 : decode cX12_text 111 = .ok (.isub, 1) := by decide +kernel
theorem dX12_text_112 : decode cX12_text 112 = .ok (.ireturn, 1) := by decide +kernel
theorem dX12_force_0 : decode cX12_force 0 = .ok (.iload_n 1, 1) := by decide +kernel
theorem dX12_force_1 : decode cX12_force 1 = .ok (.i2l, 1) := by decide +kernel
theorem dX12_force_2 : decode cX12_force 2 = .ok (.lconst 0, 1) := by decide +kernel
theorem dX12_force_3 : decode cX12_force 3 = .ok (.aload_n 0, 1) := by decide +kernel
theorem dX12_force_4 : decode cX12_force 4 = .ok (.getfield 126, 3) := by decide +kernel
theorem dX12_force_7 : decode cX12_force 7 = .ok (.iconst 1, 1) := by decide +kernel
theorem dX12_force_8 : decode cX12_force 8 = .ok (.isub, 1) := by decide +kernel
theorem dX12_force_9 : decode cX12_force 9 = .ok (.i2l, 1) := by decide +kernel
theorem dX12_force_10 : decode cX12_force 10 = .ok (.invokestatic 134, 3) := by decide +kernel
theorem dX12_force_13 : decode cX12_force 13 = .ok (.ifCond .ne 6, 3) := by decide +kernel
theorem dX12_force_16 : decode cX12_force 16 = .ok (.bipush (-2), 2) := by decide +kernel
theorem dX12_force_18 : decode cX12_force 18 = .ok (.ireturn, 1) := by decide +kernel
theorem dX12_force_19 : decode cX12_force 19 = .ok (.aload_n 0, 1) := by decide +kernel
theorem dX12_force_20 : decode cX12_force 20 = .ok (.getfield 332, 3) := by decide +kernel
theorem dX12_force_23 : decode cX12_force 23 = .ok (.istore_n 2, 1) := by decide +kernel
theorem dX12_force_24 : decode cX12_force 24 = .ok (.aload_n 0, 1) := by decide +kernel
theorem dX12_force_25 : decode cX12_force 25 = .ok (.iload_n 1, 1) := by decide +kernel
theorem dX12_force_26 : decode cX12_force 26 = .ok (.putfield 332, 3) := by decide +kernel
theorem dX12_force_29 : decode cX12_force 29 = .ok (.iload_n 2, 1) := by decide +kernel
theorem dX12_force_30 : decode cX12_force 30 = .ok (.ireturn, 1) := by decide +kernel
theorem dX12_areTwo_0 : decode cX12_areTwo 0 = .ok (.iload_n 1, 1) := by decide +kernel
theorem dX12_areTwo_1 : decode cX12_areTwo 1 = .ok (.ifCond .lt 29, 3) := by decide +kernel
theorem dX12_areTwo_4 : decode cX12_areTwo 4 = .ok (.aload_n 0, 1) := by decide +kernel
theorem dX12_areTwo_5 : decode cX12_areTwo 5 = .ok (.iload_n 1, 1) := by decide +kernel
theorem dX12_areTwo_6 : decode cX12_areTwo 6 = .ok (.bipush 20, 2) := by decide +kernel
theorem dX12_areTwo_8 : decode cX12_areTwo 8 = .ok (.idiv, 1) := by decide +kernel
theorem dX12_areTwo_9 : decode cX12_areTwo 9 = .ok (.invokevirtual 170, 3) := by decide +kernel
theorem dX12_areTwo_12 : decode cX12_areTwo 12 = .ok (.ifCond .eq 18, 3) := by decide +kernel
theorem dX12_areTwo_15 : decode cX12_areTwo 15 = .ok (.aload_n 0, 1) := by decide +kernel
theorem dX12_areTwo_16 : decode cX12_areTwo 16 = .ok (.iload_n 1, 1) := by decide +kernel
theorem dX12_areTwo_17 : decode cX12_areTwo 17 = .ok (.bipush 20, 2) := by decide +kernel
theorem dX12_areTwo_19 : decode cX12_areTwo 19 = .ok (.irem, 1) := by decide +kernel
theorem dX12_areTwo_20 : decode cX12_areTwo 20 = .ok (.invokevirtual 170, 3) := by decide +kernel
theorem dX12_areTwo_23 : decode cX12_areTwo 23 = .ok (.ifCond .eq 7, 3) := by decide +kernel
theorem dX12_areTwo_26 : decode cX12_areTwo 26 = .ok (.iconst 1, 1) := by decide +kernel
theorem dX12_areTwo_27 : decode cX12_areTwo 27 = .ok (.goto 4, 3) := by decide +kernel
theorem dX12_areTwo_30 : decode cX12_areTwo 30 = .ok (.iconst 0, 1) := by decide +kernel
theorem dX12_areTwo_31 : decode cX12_areTwo 31 = .ok (.ireturn, 1) := by decide +kernel
theorem dX12_load_0 : decode cX12_load 0 = .ok (.iload_n 1, 1) := by decide +kernel
theorem dX12_load_1 : decode cX12_load 1 = .ok (.i2l, 1) := by decide +kernel
theorem dX12_load_2 : decode cX12_load 2 = .ok (.lconst 0, 1) := by decide +kernel
theorem dX12_load_3 : decode cX12_load 3 = .ok (.ldc2_w 162, 3) := by decide +kernel
theorem dX12_load_6 : decode cX12_load 6 = .ok (.invokestatic 134, 3) := by decide +kernel
theorem dX12_load_9 : decode cX12_load 9 = .ok (.ifCond .eq 23, 3) := by decide +kernel
theorem dX12_load_12 : decode cX12_load 12 = .ok (.iload_n 2, 1) := by decide +kernel
theorem dX12_load_13 : decode cX12_load 13 = .ok (.iconst (-1), 1) := by decide +kernel
theorem dX12_load_14 : decode cX12_load 14 = .ok (.if_icmp .eq 11, 3) := by decide +kernel
theorem dX12_load_17 : decode cX12_load 17 = .ok (.aload_n 0, 1) := by decide +kernel
theorem dX12_load_18 : decode cX12_load 18 = .ok (.iload_n 2, 1) := by decide +kernel
theorem dX12_load_19 : decode cX12_load 19 = .ok (.invokevirtual 339, 3) := by decide +kernel
theorem dX12_load_22 : decode cX12_load 22 = .ok (.ifCond .eq 10, 3) := by decide +kernel
theorem dX12_load_25 : decode cX12_load 25 = .ok (.iload_n 3, 1) := by decide +kernel
theorem dX12_load_26 : decode cX12_load 26 = .ok (.invokestatic 179, 3) := by decide +kernel
theorem dX12_load_29 : decode cX12_load 29 = .ok (.ifCond .ne 6, 3) := by decide +kernel
theorem dX12_load_32 : decode cX12_load 32 = .ok (.bipush (-2), 2) := by decide +kernel
theorem dX12_load_34 : decode cX12_load 34 = .ok (.ireturn, 1) := by decide +kernel
theorem dX12_load_35 : decode cX12_load 35 = .ok (.iconst 0, 1) := by decide +kernel
theorem dX12_load_36 : decode cX12_load 36 = .ok (.istore 4, 2) := by decide +kernel
theorem dX12_load_38 : decode cX12_load 38 = .ok (.iload_n 2, 1) := by decide +kernel
theorem dX12_load_39 : decode cX12_load 39 = .ok (.iconst (-1), 1) := by decide +kernel
theorem dX12_load_40 : decode cX12_load 40 = .ok (.if_icmp .eq 47, 3) := by decide +kernel
theorem dX12_load_43 : decode cX12_load 43 = .ok (.aload_n 0, 1) := by decide +kernel
theorem dX12_load_44 : decode cX12_load 44 = .ok (.getfield 38, 3) := by decide +kernel
theorem dX12_load_47 : decode cX12_load 47 = .ok (.iload_n 2, 1) := by decide +kernel
theorem dX12_load_48 : decode cX12_load 48 = .ok (.bipush 20, 2) := by decide +kernel
theorem dX12_load_50 : decode cX12_load 50 = .ok (.idiv, 1) := by decide +kernel
theorem dX12_load_51 : decode cX12_load 51 = .ok (.iaload, 1) := by decide +kernel
theorem dX12_load_52 : decode cX12_load 52 = .ok (.aload_n 0, 1) := by decide +kernel
theorem dX12_load_53 : decode cX12_load 53 = .ok (.getfield 38, 3) := by decide +kernel
theorem dX12_load_56 : decode cX12_load 56 = .ok (.iload_n 2, 1) := by decide +kernel
theorem dX12_load_57 : decode cX12_load 57 = .ok (.bipush 20, 2) := by decide +kernel
theorem dX12_load_59 : decode cX12_load 59 = .ok (.irem, 1) := by decide +kernel
theorem dX12_load_60 : decode cX12_load 60 = .ok (.iaload, 1) := by decide +kernel
theorem dX12_load_61 : decode cX12_load 61 = .ok (.if_icmp .le 15, 3) := by decide +kernel
theorem dX12_load_64 : decode cX12_load 64 = .ok (.aload_n 0, 1) := by decide +kernel
theorem dX12_load_65 : decode cX12_load 65 = .ok (.getfield 38, 3) := by decide +kernel
theorem dX12_load_68 : decode cX12_load 68 = .ok (.iload_n 2, 1) := by decide +kernel
theorem dX12_load_69 : decode cX12_load 69 = .ok (.bipush 20, 2) := by decide +kernel
theorem dX12_load_71 : decode cX12_load 71 = .ok (.idiv, 1) := by decide +kernel
theorem dX12_load_72 : decode cX12_load 72 = .ok (.iaload, 1) := by decide +kernel
theorem dX12_load_73 : decode cX12_load 73 = .ok (.goto 12, 3) := by decide +kernel
theorem dX12_load_76 : decode cX12_load 76 = .ok (.aload_n 0, 1) := by decide +kernel
theorem dX12_load_77 : decode cX12_load 77 = .ok (.getfield 38, 3) := by decide +kernel
theorem dX12_load_80 : decode cX12_load 80 = .ok (.iload_n 2, 1) := by decide +kernel
theorem dX12_load_81 : decode cX12_load 81 = .ok (.bipush 20, 2) := by decide +kernel
theorem dX12_load_83 : decode cX12_load 83 = .ok (.irem, 1) := by decide +kernel
theorem dX12_load_84 : decode cX12_load 84 = .ok (.iaload, 1) := by decide +kernel
theorem dX12_load_85 : decode cX12_load 85 = .ok (.istore 4, 2) := by decide +kernel
theorem dX12_load_87 : decode cX12_load 87 = .ok (.aload_n 0, 1) := by decide +kernel
theorem dX12_load_88 : decode cX12_load 88 = .ok (.aload_n 0, 1) := by decide +kernel
theorem dX12_load_89 : decode cX12_load 89 = .ok (.getfield 332, 3) := by decide +kernel
theorem dX12_load_92 : decode cX12_load 92 = .ok (.iload_n 1, 1) := by decide +kernel
theorem dX12_load_93 : decode cX12_load 93 = .ok (.iload 4, 2) := by decide +kernel
theorem dX12_load_95 : decode cX12_load 95 = .ok (.iload_n 3, 1) := by decide +kernel
theorem dX12_load_96 : decode cX12_load 96 = .ok (.iconst 0, 1) := by decide +kernel
theorem dX12_load_97 : decode cX12_load 97 = .ok (.iconst 0, 1) := by decide +kernel
theorem dX12_load_98 : decode cX12_load 98 = .ok (.invokevirtual 335, 3) := by decide +kernel
theorem dX12_load_101 : decode cX12_load 101 = .ok (.iconst 1, 1) := by decide +kernel
theorem dX12_load_102 : decode cX12_load 102 = .ok (.bipush 14, 2) := by decide +kernel
theorem dX12_load_104 : decode cX12_load 104 = .ok (.invokestatic 342, 3) := by decide +kernel
theorem dX12_load_107 : decode cX12_load 107 = .ok (.ireturn, 1) := by decide +kernel
theorem dX12_takes_0 : decode cX12_takes 0 = .ok (.aload_n 0, 1) := by decide +kernel
theorem dX12_takes_1 : decode cX12_takes 1 = .ok (.iload_n 1, 1) := by decide +kernel
theorem dX12_takes_2 : decode cX12_takes 2 = .ok (.invokevirtual 159, 3) := by decide +kernel
theorem dX12_takes_5 : decode cX12_takes 5 = .ok (.ifCond .eq 22, 3) := by decide +kernel
theorem dX12_takes_8 : decode cX12_takes 8 = .ok (.aload_n 0, 1) := by decide +kernel
theorem dX12_takes_9 : decode cX12_takes 9 = .ok (.iload_n 2, 1) := by decide +kernel
theorem dX12_takes_10 : decode cX12_takes 10 = .ok (.invokevirtual 339, 3) := by decide +kernel
theorem dX12_takes_13 : decode cX12_takes 13 = .ok (.ifCond .eq 14, 3) := by decide +kernel
theorem dX12_takes_16 : decode cX12_takes 16 = .ok (.iload_n 2, 1) := by decide +kernel
theorem dX12_takes_17 : decode cX12_takes 17 = .ok (.bipush 20, 2) := by decide +kernel
theorem dX12_takes_19 : decode cX12_takes 19 = .ok (.idiv, 1) := by decide +kernel
theorem dX12_takes_20 : decode cX12_takes 20 = .ok (.iload_n 2, 1) := by decide +kernel
theorem dX12_takes_21 : decode cX12_takes 21 = .ok (.bipush 20, 2) := by decide +kernel
theorem dX12_takes_23 : decode cX12_takes 23 = .ok (.irem, 1) := by decide +kernel
theorem dX12_takes_24 : decode cX12_takes 24 = .ok (.if_icmp .ne 6, 3) := by decide +kernel
theorem dX12_takes_27 : decode cX12_takes 27 = .ok (.bipush (-2), 2) := by decide +kernel
theorem dX12_takes_29 : decode cX12_takes 29 = .ok (.ireturn, 1) := by decide +kernel
theorem dX12_takes_30 : decode cX12_takes 30 = .ok (.aload_n 0, 1) := by decide +kernel
theorem dX12_takes_31 : decode cX12_takes 31 = .ok (.iload_n 2, 1) := by decide +kernel
theorem dX12_takes_32 : decode cX12_takes 32 = .ok (.bipush 20, 2) := by decide +kernel
theorem dX12_takes_34 : decode cX12_takes 34 = .ok (.idiv, 1) := by decide +kernel
theorem dX12_takes_35 : decode cX12_takes 35 = .ok (.invokevirtual 183, 3) := by decide +kernel
theorem dX12_takes_38 : decode cX12_takes 38 = .ok (.aload_n 0, 1) := by decide +kernel
theorem dX12_takes_39 : decode cX12_takes 39 = .ok (.iload_n 2, 1) := by decide +kernel
theorem dX12_takes_40 : decode cX12_takes 40 = .ok (.bipush 20, 2) := by decide +kernel
theorem dX12_takes_42 : decode cX12_takes 42 = .ok (.irem, 1) := by decide +kernel
theorem dX12_takes_43 : decode cX12_takes 43 = .ok (.invokevirtual 183, 3) := by decide +kernel
theorem dX12_takes_46 : decode cX12_takes 46 = .ok (.iadd, 1) := by decide +kernel
theorem dX12_takes_47 : decode cX12_takes 47 = .ok (.istore_n 3, 1) := by decide +kernel
theorem dX12_takes_48 : decode cX12_takes 48 = .ok (.aload_n 0, 1) := by decide +kernel
theorem dX12_takes_49 : decode cX12_takes 49 = .ok (.getfield 23, 3) := by decide +kernel
theorem dX12_takes_52 : decode cX12_takes 52 = .ok (.iload_n 1, 1) := by decide +kernel
theorem dX12_takes_53 : decode cX12_takes 53 = .ok (.iaload, 1) := by decide +kernel
theorem dX12_takes_54 : decode cX12_takes 54 = .ok (.iconst 2, 1) := by decide +kernel
theorem dX12_takes_55 : decode cX12_takes 55 = .ok (.aload_n 0, 1) := by decide +kernel
theorem dX12_takes_56 : decode cX12_takes 56 = .ok (.getfield 156, 3) := by decide +kernel
theorem dX12_takes_59 : decode cX12_takes 59 = .ok (.imul, 1) := by decide +kernel
theorem dX12_takes_60 : decode cX12_takes 60 = .ok (.iadd, 1) := by decide +kernel
theorem dX12_takes_61 : decode cX12_takes 61 = .ok (.iload_n 3, 1) := by decide +kernel
theorem dX12_takes_62 : decode cX12_takes 62 = .ok (.iadd, 1) := by decide +kernel
theorem dX12_takes_63 : decode cX12_takes 63 = .ok (.iconst 1, 1) := by decide +kernel
theorem dX12_takes_64 : decode cX12_takes 64 = .ok (.isub, 1) := by decide +kernel
theorem dX12_takes_65 : decode cX12_takes 65 = .ok (.iload_n 3, 1) := by decide +kernel
theorem dX12_takes_66 : decode cX12_takes 66 = .ok (.idiv, 1) := by decide +kernel
theorem dX12_takes_67 : decode cX12_takes 67 = .ok (.ireturn, 1) := by decide +kernel
theorem dX12_tail_0 : decode cX12_tail 0 = .ok (.iload_n 1, 1) := by decide +kernel
theorem dX12_tail_1 : decode cX12_tail 1 = .ok (.iload_n 0, 1) := by decide +kernel
theorem dX12_tail_2 : decode cX12_tail 2 = .ok (.imul, 1) := by decide +kernel
theorem dX12_tail_3 : decode cX12_tail 3 = .ok (.istore 4, 2) := by decide +kernel
theorem dX12_tail_5 : decode cX12_tail 5 = .ok (.iload_n 0, 1) := by decide +kernel
theorem dX12_tail_6 : decode cX12_tail 6 = .ok (.istore 5, 2) := by decide +kernel
theorem dX12_tail_8 : decode cX12_tail 8 = .ok (.iload 5, 2) := by decide +kernel
theorem dX12_tail_10 : decode cX12_tail 10 = .ok (.ifCond .le 33, 3) := by decide +kernel
theorem dX12_tail_13 : decode cX12_tail 13 = .ok (.iload 5, 2) := by decide +kernel
theorem dX12_tail_15 : decode cX12_tail 15 = .ok (.iload_n 3, 1) := by decide +kernel
theorem dX12_tail_16 : decode cX12_tail 16 = .ok (.if_icmp .le 10, 3) := by decide +kernel
theorem dX12_tail_19 : decode cX12_tail 19 = .ok (.iload 5, 2) := by decide +kernel
theorem dX12_tail_21 : decode cX12_tail 21 = .ok (.iload_n 3, 1) := by decide +kernel
theorem dX12_tail_22 : decode cX12_tail 22 = .ok (.isub, 1) := by decide +kernel
theorem dX12_tail_23 : decode cX12_tail 23 = .ok (.goto 4, 3) := by decide +kernel
theorem dX12_tail_26 : decode cX12_tail 26 = .ok (.iconst 0, 1) := by decide +kernel
theorem dX12_tail_27 : decode cX12_tail 27 = .ok (.istore 5, 2) := by decide +kernel
theorem dX12_tail_29 : decode cX12_tail 29 = .ok (.iload 4, 2) := by decide +kernel
theorem dX12_tail_31 : decode cX12_tail 31 = .ok (.iconst 2, 1) := by decide +kernel
theorem dX12_tail_32 : decode cX12_tail 32 = .ok (.iload_n 2, 1) := by decide +kernel
theorem dX12_tail_33 : decode cX12_tail 33 = .ok (.imul, 1) := by decide +kernel
theorem dX12_tail_34 : decode cX12_tail 34 = .ok (.iload 5, 2) := by decide +kernel
theorem dX12_tail_36 : decode cX12_tail 36 = .ok (.imul, 1) := by decide +kernel
theorem dX12_tail_37 : decode cX12_tail 37 = .ok (.iadd, 1) := by decide +kernel
theorem dX12_tail_38 : decode cX12_tail 38 = .ok (.istore 4, 2) := by decide +kernel
theorem dX12_tail_40 : decode cX12_tail 40 = .ok (.goto (-32), 3) := by decide +kernel
theorem dX12_tail_43 : decode cX12_tail 43 = .ok (.iload 4, 2) := by decide +kernel
theorem dX12_tail_45 : decode cX12_tail 45 = .ok (.ireturn, 1) := by decide +kernel
theorem dX12_waits_0 : decode cX12_waits 0 = .ok (.iload_n 1, 1) := by decide +kernel
theorem dX12_waits_1 : decode cX12_waits 1 = .ok (.invokestatic 346, 3) := by decide +kernel
theorem dX12_waits_4 : decode cX12_waits 4 = .ok (.ifCond .eq 38, 3) := by decide +kernel
theorem dX12_waits_7 : decode cX12_waits 7 = .ok (.iload_n 2, 1) := by decide +kernel
theorem dX12_waits_8 : decode cX12_waits 8 = .ok (.i2l, 1) := by decide +kernel
theorem dX12_waits_9 : decode cX12_waits 9 = .ok (.lconst 1, 1) := by decide +kernel
theorem dX12_waits_10 : decode cX12_waits 10 = .ok (.ldc2_w 151, 3) := by decide +kernel
theorem dX12_waits_13 : decode cX12_waits 13 = .ok (.invokestatic 134, 3) := by decide +kernel
theorem dX12_waits_16 : decode cX12_waits 16 = .ok (.ifCond .eq 26, 3) := by decide +kernel
theorem dX12_waits_19 : decode cX12_waits 19 = .ok (.iload_n 3, 1) := by decide +kernel
theorem dX12_waits_20 : decode cX12_waits 20 = .ok (.i2l, 1) := by decide +kernel
theorem dX12_waits_21 : decode cX12_waits 21 = .ok (.lconst 1, 1) := by decide +kernel
theorem dX12_waits_22 : decode cX12_waits 22 = .ok (.ldc2_w 349, 3) := by decide +kernel
theorem dX12_waits_25 : decode cX12_waits 25 = .ok (.invokestatic 134, 3) := by decide +kernel
theorem dX12_waits_28 : decode cX12_waits 28 = .ok (.ifCond .eq 14, 3) := by decide +kernel
theorem dX12_waits_31 : decode cX12_waits 31 = .ok (.iload 4, 2) := by decide +kernel
theorem dX12_waits_33 : decode cX12_waits 33 = .ok (.i2l, 1) := by decide +kernel
theorem dX12_waits_34 : decode cX12_waits 34 = .ok (.lconst 0, 1) := by decide +kernel
theorem dX12_waits_35 : decode cX12_waits 35 = .ok (.lconst 1, 1) := by decide +kernel
theorem dX12_waits_36 : decode cX12_waits 36 = .ok (.invokestatic 134, 3) := by decide +kernel
theorem dX12_waits_39 : decode cX12_waits 39 = .ok (.ifCond .ne 6, 3) := by decide +kernel
theorem dX12_waits_42 : decode cX12_waits 42 = .ok (.bipush (-2), 2) := by decide +kernel
theorem dX12_waits_44 : decode cX12_waits 44 = .ok (.ireturn, 1) := by decide +kernel
theorem dX12_waits_45 : decode cX12_waits 45 = .ok (.aload_n 0, 1) := by decide +kernel
theorem dX12_waits_46 : decode cX12_waits 46 = .ok (.getfield 95, 3) := by decide +kernel
theorem dX12_waits_49 : decode cX12_waits 49 = .ok (.iload_n 1, 1) := by decide +kernel
theorem dX12_waits_50 : decode cX12_waits 50 = .ok (.baload, 1) := by decide +kernel
theorem dX12_waits_51 : decode cX12_waits 51 = .ok (.ifCond .ne 6, 3) := by decide +kernel
theorem dX12_waits_54 : decode cX12_waits 54 = .ok (.bipush (-11), 2) := by decide +kernel
theorem dX12_waits_56 : decode cX12_waits 56 = .ok (.ireturn, 1) := by decide +kernel
theorem dX12_waits_57 : decode cX12_waits 57 = .ok (.aload_n 0, 1) := by decide +kernel
theorem dX12_waits_58 : decode cX12_waits 58 = .ok (.getfield 102, 3) := by decide +kernel
theorem dX12_waits_61 : decode cX12_waits 61 = .ok (.iload_n 1, 1) := by decide +kernel
theorem dX12_waits_62 : decode cX12_waits 62 = .ok (.iaload, 1) := by decide +kernel
theorem dX12_waits_63 : decode cX12_waits 63 = .ok (.istore 5, 2) := by decide +kernel
theorem dX12_waits_65 : decode cX12_waits 65 = .ok (.iload 5, 2) := by decide +kernel
theorem dX12_waits_67 : decode cX12_waits 67 = .ok (.i2l, 1) := by decide +kernel
theorem dX12_waits_68 : decode cX12_waits 68 = .ok (.lconst 1, 1) := by decide +kernel
theorem dX12_waits_69 : decode cX12_waits 69 = .ok (.ldc2_w 351, 3) := by decide +kernel
theorem dX12_waits_72 : decode cX12_waits 72 = .ok (.invokestatic 134, 3) := by decide +kernel
theorem dX12_waits_75 : decode cX12_waits 75 = .ok (.ifCond .ne 6, 3) := by decide +kernel
theorem dX12_waits_78 : decode cX12_waits 78 = .ok (.bipush (-2), 2) := by decide +kernel
theorem dX12_waits_80 : decode cX12_waits 80 = .ok (.ireturn, 1) := by decide +kernel
theorem dX12_waits_81 : decode cX12_waits 81 = .ok (.iconst 0, 1) := by decide +kernel
theorem dX12_waits_82 : decode cX12_waits 82 = .ok (.istore 6, 2) := by decide +kernel
theorem dX12_waits_84 : decode cX12_waits 84 = .ok (.iload 6, 2) := by decide +kernel
theorem dX12_waits_86 : decode cX12_waits 86 = .ok (.iload 5, 2) := by decide +kernel
theorem dX12_waits_88 : decode cX12_waits 88 = .ok (.if_icmp .ge 35, 3) := by decide +kernel
theorem dX12_waits_91 : decode cX12_waits 91 = .ok (.aload_n 0, 1) := by decide +kernel
theorem dX12_waits_92 : decode cX12_waits 92 = .ok (.getfield 105, 3) := by decide +kernel
theorem dX12_waits_95 : decode cX12_waits 95 = .ok (.bipush 40, 2) := by decide +kernel
theorem dX12_waits_97 : decode cX12_waits 97 = .ok (.iload_n 1, 1) := by decide +kernel
theorem dX12_waits_98 : decode cX12_waits 98 = .ok (.imul, 1) := by decide +kernel
theorem dX12_waits_99 : decode cX12_waits 99 = .ok (.iload 6, 2) := by decide +kernel
theorem dX12_waits_101 : decode cX12_waits 101 = .ok (.iadd, 1) := by decide +kernel
theorem dX12_waits_102 : decode cX12_waits 102 = .ok (.iaload, 1) := by decide +kernel
theorem dX12_waits_103 : decode cX12_waits 103 = .ok (.i2l, 1) := by decide +kernel
theorem dX12_waits_104 : decode cX12_waits 104 = .ok (.lconst 0, 1) := by decide +kernel
theorem dX12_waits_105 : decode cX12_waits 105 = .ok (.ldc2_w 353, 3) := by decide +kernel
theorem dX12_waits_108 : decode cX12_waits 108 = .ok (.invokestatic 134, 3) := by decide +kernel
theorem dX12_waits_111 : decode cX12_waits 111 = .ok (.ifCond .ne 6, 3) := by decide +kernel
theorem dX12_waits_114 : decode cX12_waits 114 = .ok (.bipush (-2), 2) := by decide +kernel
theorem dX12_waits_116 : decode cX12_waits 116 = .ok (.ireturn, 1) := by decide +kernel
theorem dX12_waits_117 : decode cX12_waits 117 = .ok (.iinc 6 1, 3) := by decide +kernel
theorem dX12_waits_120 : decode cX12_waits 120 = .ok (.goto (-36), 3) := by decide +kernel
theorem dX12_waits_123 : decode cX12_waits 123 = .ok (.iconst 2, 1) := by decide +kernel
theorem dX12_waits_124 : decode cX12_waits 124 = .ok (.iload_n 2, 1) := by decide +kernel
theorem dX12_waits_125 : decode cX12_waits 125 = .ok (.imul, 1) := by decide +kernel
theorem dX12_waits_126 : decode cX12_waits 126 = .ok (.istore 6, 2) := by decide +kernel
theorem dX12_waits_128 : decode cX12_waits 128 = .ok (.iconst 0, 1) := by decide +kernel
theorem dX12_waits_129 : decode cX12_waits 129 = .ok (.istore 7, 2) := by decide +kernel
theorem dX12_waits_131 : decode cX12_waits 131 = .ok (.iload 7, 2) := by decide +kernel
theorem dX12_waits_133 : decode cX12_waits 133 = .ok (.iload 6, 2) := by decide +kernel
theorem dX12_waits_135 : decode cX12_waits 135 = .ok (.if_icmp .ge 64, 3) := by decide +kernel
theorem dX12_waits_138 : decode cX12_waits 138 = .ok (.iconst 0, 1) := by decide +kernel
theorem dX12_waits_139 : decode cX12_waits 139 = .ok (.istore 8, 2) := by decide +kernel
theorem dX12_waits_141 : decode cX12_waits 141 = .ok (.iload 8, 2) := by decide +kernel
theorem dX12_waits_143 : decode cX12_waits 143 = .ok (.sipush 481, 3) := by decide +kernel
theorem dX12_waits_146 : decode cX12_waits 146 = .ok (.if_icmp .ge 47, 3) := by decide +kernel
theorem dX12_waits_149 : decode cX12_waits 149 = .ok (.aload_n 0, 1) := by decide +kernel
theorem dX12_waits_150 : decode cX12_waits 150 = .ok (.getfield 59, 3) := by decide +kernel
theorem dX12_waits_153 : decode cX12_waits 153 = .ok (.sipush 481, 3) := by decide +kernel
theorem dX12_waits_156 : decode cX12_waits 156 = .ok (.iload 7, 2) := by decide +kernel
theorem dX12_waits_158 : decode cX12_waits 158 = .ok (.imul, 1) := by decide +kernel
theorem dX12_waits_159 : decode cX12_waits 159 = .ok (.iload 8, 2) := by decide +kernel
theorem dX12_waits_161 : decode cX12_waits 161 = .ok (.iadd, 1) := by decide +kernel
theorem dX12_waits_162 : decode cX12_waits 162 = .ok (.iload 8, 2) := by decide +kernel
theorem dX12_waits_164 : decode cX12_waits 164 = .ok (.iload 7, 2) := by decide +kernel
theorem dX12_waits_166 : decode cX12_waits 166 = .ok (.iload_n 2, 1) := by decide +kernel
theorem dX12_waits_167 : decode cX12_waits 167 = .ok (.iload_n 3, 1) := by decide +kernel
theorem dX12_waits_168 : decode cX12_waits 168 = .ok (.invokestatic 355, 3) := by decide +kernel
theorem dX12_waits_171 : decode cX12_waits 171 = .ok (.iastore, 1) := by decide +kernel
theorem dX12_waits_172 : decode cX12_waits 172 = .ok (.aload_n 0, 1) := by decide +kernel
theorem dX12_waits_173 : decode cX12_waits 173 = .ok (.getfield 65, 3) := by decide +kernel
theorem dX12_waits_176 : decode cX12_waits 176 = .ok (.sipush 481, 3) := by decide +kernel
theorem dX12_waits_179 : decode cX12_waits 179 = .ok (.iload 7, 2) := by decide +kernel
theorem dX12_waits_181 : decode cX12_waits 181 = .ok (.imul, 1) := by decide +kernel
theorem dX12_waits_182 : decode cX12_waits 182 = .ok (.iload 8, 2) := by decide +kernel
theorem dX12_waits_184 : decode cX12_waits 184 = .ok (.iadd, 1) := by decide +kernel
theorem dX12_waits_185 : decode cX12_waits 185 = .ok (.iconst 0, 1) := by decide +kernel
theorem dX12_waits_186 : decode cX12_waits 186 = .ok (.iastore, 1) := by decide +kernel
theorem dX12_waits_187 : decode cX12_waits 187 = .ok (.iinc 8 1, 3) := by decide +kernel
theorem dX12_waits_190 : decode cX12_waits 190 = .ok (.goto (-49), 3) := by decide +kernel
theorem dX12_waits_193 : decode cX12_waits 193 = .ok (.iinc 7 1, 3) := by decide +kernel
theorem dX12_waits_196 : decode cX12_waits 196 = .ok (.goto (-65), 3) := by decide +kernel
theorem dX12_waits_199 : decode cX12_waits 199 = .ok (.iload 5, 2) := by decide +kernel
theorem dX12_waits_201 : decode cX12_waits 201 = .ok (.iconst 1, 1) := by decide +kernel
theorem dX12_waits_202 : decode cX12_waits 202 = .ok (.isub, 1) := by decide +kernel
theorem dX12_waits_203 : decode cX12_waits 203 = .ok (.istore 7, 2) := by decide +kernel
theorem dX12_waits_205 : decode cX12_waits 205 = .ok (.iload 7, 2) := by decide +kernel
theorem dX12_waits_207 : decode cX12_waits 207 = .ok (.ifCond .lt 138, 3) := by decide +kernel
theorem dX12_waits_210 : decode cX12_waits 210 = .ok (.aload_n 0, 1) := by decide +kernel
theorem dX12_waits_211 : decode cX12_waits 211 = .ok (.getfield 105, 3) := by decide +kernel
theorem dX12_waits_214 : decode cX12_waits 214 = .ok (.bipush 40, 2) := by decide +kernel
theorem dX12_waits_216 : decode cX12_waits 216 = .ok (.iload_n 1, 1) := by decide +kernel
theorem dX12_waits_217 : decode cX12_waits 217 = .ok (.imul, 1) := by decide +kernel
theorem dX12_waits_218 : decode cX12_waits 218 = .ok (.iload 7, 2) := by decide +kernel
theorem dX12_waits_220 : decode cX12_waits 220 = .ok (.iadd, 1) := by decide +kernel
theorem dX12_waits_221 : decode cX12_waits 221 = .ok (.iaload, 1) := by decide +kernel
theorem dX12_waits_222 : decode cX12_waits 222 = .ok (.istore 8, 2) := by decide +kernel
theorem dX12_waits_224 : decode cX12_waits 224 = .ok (.iconst 0, 1) := by decide +kernel
theorem dX12_waits_225 : decode cX12_waits 225 = .ok (.istore 9, 2) := by decide +kernel
theorem dX12_waits_227 : decode cX12_waits 227 = .ok (.iload 9, 2) := by decide +kernel
theorem dX12_waits_229 : decode cX12_waits 229 = .ok (.iload 6, 2) := by decide +kernel
theorem dX12_waits_231 : decode cX12_waits 231 = .ok (.if_icmp .ge 60, 3) := by decide +kernel
theorem dX12_waits_234 : decode cX12_waits 234 = .ok (.iconst 0, 1) := by decide +kernel
theorem dX12_waits_235 : decode cX12_waits 235 = .ok (.istore 10, 2) := by decide +kernel
theorem dX12_waits_237 : decode cX12_waits 237 = .ok (.iload 10, 2) := by decide +kernel
theorem dX12_waits_239 : decode cX12_waits 239 = .ok (.iload 8, 2) := by decide +kernel
theorem dX12_waits_241 : decode cX12_waits 241 = .ok (.iadd, 1) := by decide +kernel
theorem dX12_waits_242 : decode cX12_waits 242 = .ok (.sipush 481, 3) := by decide +kernel
theorem dX12_waits_245 : decode cX12_waits 245 = .ok (.if_icmp .ge 40, 3) := by decide +kernel
theorem dX12_waits_248 : decode cX12_waits 248 = .ok (.aload_n 0, 1) := by decide +kernel
theorem dX12_waits_249 : decode cX12_waits 249 = .ok (.iload 7, 2) := by decide +kernel
theorem dX12_waits_251 : decode cX12_waits 251 = .ok (.iload 9, 2) := by decide +kernel
theorem dX12_waits_253 : decode cX12_waits 253 = .ok (.iload 10, 2) := by decide +kernel
theorem dX12_waits_255 : decode cX12_waits 255 = .ok (.iload 10, 2) := by decide +kernel
theorem dX12_waits_257 : decode cX12_waits 257 = .ok (.iload 8, 2) := by decide +kernel
theorem dX12_waits_259 : decode cX12_waits 259 = .ok (.iadd, 1) := by decide +kernel
theorem dX12_waits_260 : decode cX12_waits 260 = .ok (.iload_n 2, 1) := by decide +kernel
theorem dX12_waits_261 : decode cX12_waits 261 = .ok (.iload_n 3, 1) := by decide +kernel
theorem dX12_waits_262 : decode cX12_waits 262 = .ok (.iload 7, 2) := by decide +kernel
theorem dX12_waits_264 : decode cX12_waits 264 = .ok (.iload 5, 2) := by decide +kernel
theorem dX12_waits_266 : decode cX12_waits 266 = .ok (.iconst 1, 1) := by decide +kernel
theorem dX12_waits_267 : decode cX12_waits 267 = .ok (.isub, 1) := by decide +kernel
theorem dX12_waits_268 : decode cX12_waits 268 = .ok (.if_icmp .ne 7, 3) := by decide +kernel
theorem dX12_waits_271 : decode cX12_waits 271 = .ok (.iconst 1, 1) := by decide +kernel
theorem dX12_waits_272 : decode cX12_waits 272 = .ok (.goto 4, 3) := by decide +kernel
theorem dX12_waits_275 : decode cX12_waits 275 = .ok (.iconst 0, 1) := by decide +kernel
theorem dX12_waits_276 : decode cX12_waits 276 = .ok (.invokevirtual 359, 3) := by decide +kernel
theorem dX12_waits_279 : decode cX12_waits 279 = .ok (.iinc 10 1, 3) := by decide +kernel
theorem dX12_waits_282 : decode cX12_waits 282 = .ok (.goto (-45), 3) := by decide +kernel
theorem dX12_waits_285 : decode cX12_waits 285 = .ok (.iinc 9 1, 3) := by decide +kernel
theorem dX12_waits_288 : decode cX12_waits 288 = .ok (.goto (-61), 3) := by decide +kernel
theorem dX12_waits_291 : decode cX12_waits 291 = .ok (.iconst 0, 1) := by decide +kernel
theorem dX12_waits_292 : decode cX12_waits 292 = .ok (.istore 9, 2) := by decide +kernel
theorem dX12_waits_294 : decode cX12_waits 294 = .ok (.iload 9, 2) := by decide +kernel
theorem dX12_waits_296 : decode cX12_waits 296 = .ok (.sipush 481, 3) := by decide +kernel
theorem dX12_waits_299 : decode cX12_waits 299 = .ok (.iload 6, 2) := by decide +kernel
theorem dX12_waits_301 : decode cX12_waits 301 = .ok (.imul, 1) := by decide +kernel
theorem dX12_waits_302 : decode cX12_waits 302 = .ok (.if_icmp .ge 37, 3) := by decide +kernel
theorem dX12_waits_305 : decode cX12_waits 305 = .ok (.aload_n 0, 1) := by decide +kernel
theorem dX12_waits_306 : decode cX12_waits 306 = .ok (.getfield 59, 3) := by decide +kernel
theorem dX12_waits_309 : decode cX12_waits 309 = .ok (.iload 9, 2) := by decide +kernel
theorem dX12_waits_311 : decode cX12_waits 311 = .ok (.aload_n 0, 1) := by decide +kernel
theorem dX12_waits_312 : decode cX12_waits 312 = .ok (.getfield 56, 3) := by decide +kernel
theorem dX12_waits_315 : decode cX12_waits 315 = .ok (.iload 9, 2) := by decide +kernel
theorem dX12_waits_317 : decode cX12_waits 317 = .ok (.iaload, 1) := by decide +kernel
theorem dX12_waits_318 : decode cX12_waits 318 = .ok (.iastore, 1) := by decide +kernel
theorem dX12_waits_319 : decode cX12_waits 319 = .ok (.aload_n 0, 1) := by decide +kernel
theorem dX12_waits_320 : decode cX12_waits 320 = .ok (.getfield 65, 3) := by decide +kernel
theorem dX12_waits_323 : decode cX12_waits 323 = .ok (.iload 9, 2) := by decide +kernel
theorem dX12_waits_325 : decode cX12_waits 325 = .ok (.aload_n 0, 1) := by decide +kernel
theorem dX12_waits_326 : decode cX12_waits 326 = .ok (.getfield 62, 3) := by decide +kernel
theorem dX12_waits_329 : decode cX12_waits 329 = .ok (.iload 9, 2) := by decide +kernel
theorem dX12_waits_331 : decode cX12_waits 331 = .ok (.iaload, 1) := by decide +kernel
theorem dX12_waits_332 : decode cX12_waits 332 = .ok (.iastore, 1) := by decide +kernel
theorem dX12_waits_333 : decode cX12_waits 333 = .ok (.iinc 9 1, 3) := by decide +kernel
theorem dX12_waits_336 : decode cX12_waits 336 = .ok (.goto (-42), 3) := by decide +kernel
theorem dX12_waits_339 : decode cX12_waits 339 = .ok (.iinc 7 (-1), 3) := by decide +kernel
theorem dX12_waits_342 : decode cX12_waits 342 = .ok (.goto (-137), 3) := by decide +kernel
theorem dX12_waits_345 : decode cX12_waits 345 = .ok (.iload 4, 2) := by decide +kernel
theorem dX12_waits_347 : decode cX12_waits 347 = .ok (.ifCond .ne 12, 3) := by decide +kernel
theorem dX12_waits_350 : decode cX12_waits 350 = .ok (.aload_n 0, 1) := by decide +kernel
theorem dX12_waits_351 : decode cX12_waits 351 = .ok (.getfield 59, 3) := by decide +kernel
theorem dX12_waits_354 : decode cX12_waits 354 = .ok (.iconst 0, 1) := by decide +kernel
theorem dX12_waits_355 : decode cX12_waits 355 = .ok (.iaload, 1) := by decide +kernel
theorem dX12_waits_356 : decode cX12_waits 356 = .ok (.goto 9, 3) := by decide +kernel
theorem dX12_waits_359 : decode cX12_waits 359 = .ok (.aload_n 0, 1) := by decide +kernel
theorem dX12_waits_360 : decode cX12_waits 360 = .ok (.getfield 65, 3) := by decide +kernel
theorem dX12_waits_363 : decode cX12_waits 363 = .ok (.iconst 0, 1) := by decide +kernel
theorem dX12_waits_364 : decode cX12_waits 364 = .ok (.iaload, 1) := by decide +kernel
theorem dX12_waits_365 : decode cX12_waits 365 = .ok (.ireturn, 1) := by decide +kernel
theorem dX12_minute_0 : decode cX12_minute 0 = .ok (.sipush 481, 3) := by decide +kernel
theorem dX12_minute_3 : decode cX12_minute 3 = .ok (.iload_n 2, 1) := by decide +kernel
theorem dX12_minute_4 : decode cX12_minute 4 = .ok (.imul, 1) := by decide +kernel
theorem dX12_minute_5 : decode cX12_minute 5 = .ok (.iload_n 3, 1) := by decide +kernel
theorem dX12_minute_6 : decode cX12_minute 6 = .ok (.iadd, 1) := by decide +kernel
theorem dX12_minute_7 : decode cX12_minute 7 = .ok (.istore 8, 2) := by decide +kernel
theorem dX12_minute_9 : decode cX12_minute 9 = .ok (.sipush 481, 3) := by decide +kernel
theorem dX12_minute_12 : decode cX12_minute 12 = .ok (.iload_n 2, 1) := by decide +kernel
theorem dX12_minute_13 : decode cX12_minute 13 = .ok (.ifCond .le 9, 3) := by decide +kernel
theorem dX12_minute_16 : decode cX12_minute 16 = .ok (.iload_n 2, 1) := by decide +kernel
theorem dX12_minute_17 : decode cX12_minute 17 = .ok (.iconst 1, 1) := by decide +kernel
theorem dX12_minute_18 : decode cX12_minute 18 = .ok (.isub, 1) := by decide +kernel
theorem dX12_minute_19 : decode cX12_minute 19 = .ok (.goto 4, 3) := by decide +kernel
theorem dX12_minute_22 : decode cX12_minute 22 = .ok (.iconst 0, 1) := by decide +kernel
theorem dX12_minute_23 : decode cX12_minute 23 = .ok (.imul, 1) := by decide +kernel
theorem dX12_minute_24 : decode cX12_minute 24 = .ok (.iload 4, 2) := by decide +kernel
theorem dX12_minute_26 : decode cX12_minute 26 = .ok (.iadd, 1) := by decide +kernel
theorem dX12_minute_27 : decode cX12_minute 27 = .ok (.istore 9, 2) := by decide +kernel
theorem dX12_minute_29 : decode cX12_minute 29 = .ok (.aload_n 0, 1) := by decide +kernel
theorem dX12_minute_30 : decode cX12_minute 30 = .ok (.getfield 56, 3) := by decide +kernel
theorem dX12_minute_33 : decode cX12_minute 33 = .ok (.iload 8, 2) := by decide +kernel
theorem dX12_minute_35 : decode cX12_minute 35 = .ok (.iload 4, 2) := by decide +kernel
theorem dX12_minute_37 : decode cX12_minute 37 = .ok (.aload_n 0, 1) := by decide +kernel
theorem dX12_minute_38 : decode cX12_minute 38 = .ok (.getfield 59, 3) := by decide +kernel
theorem dX12_minute_41 : decode cX12_minute 41 = .ok (.iload 9, 2) := by decide +kernel
theorem dX12_minute_43 : decode cX12_minute 43 = .ok (.iaload, 1) := by decide +kernel
theorem dX12_minute_44 : decode cX12_minute 44 = .ok (.iadd, 1) := by decide +kernel
theorem dX12_minute_45 : decode cX12_minute 45 = .ok (.iastore, 1) := by decide +kernel
theorem dX12_minute_46 : decode cX12_minute 46 = .ok (.aload_n 0, 1) := by decide +kernel
theorem dX12_minute_47 : decode cX12_minute 47 = .ok (.getfield 62, 3) := by decide +kernel
theorem dX12_minute_50 : decode cX12_minute 50 = .ok (.iload 8, 2) := by decide +kernel
theorem dX12_minute_52 : decode cX12_minute 52 = .ok (.aload_n 0, 1) := by decide +kernel
theorem dX12_minute_53 : decode cX12_minute 53 = .ok (.getfield 65, 3) := by decide +kernel
theorem dX12_minute_56 : decode cX12_minute 56 = .ok (.iload 9, 2) := by decide +kernel
theorem dX12_minute_58 : decode cX12_minute 58 = .ok (.iaload, 1) := by decide +kernel
theorem dX12_minute_59 : decode cX12_minute 59 = .ok (.iastore, 1) := by decide +kernel
theorem dX12_minute_60 : decode cX12_minute 60 = .ok (.iload_n 2, 1) := by decide +kernel
theorem dX12_minute_61 : decode cX12_minute 61 = .ok (.ifCond .gt 8, 3) := by decide +kernel
theorem dX12_minute_64 : decode cX12_minute 64 = .ok (.iload 4, 2) := by decide +kernel
theorem dX12_minute_66 : decode cX12_minute 66 = .ok (.ifCond .ne 4, 3) := by decide +kernel
theorem dX12_minute_69 : decode cX12_minute 69 = .ok (.return_, 1) := by decide +kernel
theorem dX12_minute_70 : decode cX12_minute 70 = .ok (.iload 4, 2) := by decide +kernel
theorem dX12_minute_72 : decode cX12_minute 72 = .ok (.iload 6, 2) := by decide +kernel
theorem dX12_minute_74 : decode cX12_minute 74 = .ok (.if_icmp .le 11, 3) := by decide +kernel
theorem dX12_minute_77 : decode cX12_minute 77 = .ok (.iload 4, 2) := by decide +kernel
theorem dX12_minute_79 : decode cX12_minute 79 = .ok (.iload 6, 2) := by decide +kernel
theorem dX12_minute_81 : decode cX12_minute 81 = .ok (.isub, 1) := by decide +kernel
theorem dX12_minute_82 : decode cX12_minute 82 = .ok (.goto 4, 3) := by decide +kernel
theorem dX12_minute_85 : decode cX12_minute 85 = .ok (.iconst 0, 1) := by decide +kernel
theorem dX12_minute_86 : decode cX12_minute 86 = .ok (.istore 10, 2) := by decide +kernel
theorem dX12_minute_88 : decode cX12_minute 88 = .ok (.sipush 481, 3) := by decide +kernel
theorem dX12_minute_91 : decode cX12_minute 91 = .ok (.iconst 2, 1) := by decide +kernel
theorem dX12_minute_92 : decode cX12_minute 92 = .ok (.iload 5, 2) := by decide +kernel
theorem dX12_minute_94 : decode cX12_minute 94 = .ok (.imul, 1) := by decide +kernel
theorem dX12_minute_95 : decode cX12_minute 95 = .ok (.iconst 1, 1) := by decide +kernel
theorem dX12_minute_96 : decode cX12_minute 96 = .ok (.isub, 1) := by decide +kernel
theorem dX12_minute_97 : decode cX12_minute 97 = .ok (.imul, 1) := by decide +kernel
theorem dX12_minute_98 : decode cX12_minute 98 = .ok (.iload 10, 2) := by decide +kernel
theorem dX12_minute_100 : decode cX12_minute 100 = .ok (.iadd, 1) := by decide +kernel
theorem dX12_minute_101 : decode cX12_minute 101 = .ok (.istore 11, 2) := by decide +kernel
theorem dX12_minute_103 : decode cX12_minute 103 = .ok (.iload 10, 2) := by decide +kernel
theorem dX12_minute_105 : decode cX12_minute 105 = .ok (.aload_n 0, 1) := by decide +kernel
theorem dX12_minute_106 : decode cX12_minute 106 = .ok (.getfield 59, 3) := by decide +kernel
theorem dX12_minute_109 : decode cX12_minute 109 = .ok (.iload 11, 2) := by decide +kernel
theorem dX12_minute_111 : decode cX12_minute 111 = .ok (.iaload, 1) := by decide +kernel
theorem dX12_minute_112 : decode cX12_minute 112 = .ok (.iadd, 1) := by decide +kernel
theorem dX12_minute_113 : decode cX12_minute 113 = .ok (.istore 12, 2) := by decide +kernel
theorem dX12_minute_115 : decode cX12_minute 115 = .ok (.aload_n 0, 1) := by decide +kernel
theorem dX12_minute_116 : decode cX12_minute 116 = .ok (.getfield 65, 3) := by decide +kernel
theorem dX12_minute_119 : decode cX12_minute 119 = .ok (.iload 11, 2) := by decide +kernel
theorem dX12_minute_121 : decode cX12_minute 121 = .ok (.iaload, 1) := by decide +kernel
theorem dX12_minute_122 : decode cX12_minute 122 = .ok (.iconst 1, 1) := by decide +kernel
theorem dX12_minute_123 : decode cX12_minute 123 = .ok (.iload_n 1, 1) := by decide +kernel
theorem dX12_minute_124 : decode cX12_minute 124 = .ok (.ishl, 1) := by decide +kernel
theorem dX12_minute_125 : decode cX12_minute 125 = .ok (.ior, 1) := by decide +kernel
theorem dX12_minute_126 : decode cX12_minute 126 = .ok (.istore 13, 2) := by decide +kernel
theorem dX12_minute_128 : decode cX12_minute 128 = .ok (.iload 7, 2) := by decide +kernel
theorem dX12_minute_130 : decode cX12_minute 130 = .ok (.ifCond .ne 39, 3) := by decide +kernel
theorem dX12_minute_133 : decode cX12_minute 133 = .ok (.iload 12, 2) := by decide +kernel
theorem dX12_minute_135 : decode cX12_minute 135 = .ok (.aload_n 0, 1) := by decide +kernel
theorem dX12_minute_136 : decode cX12_minute 136 = .ok (.getfield 56, 3) := by decide +kernel
theorem dX12_minute_139 : decode cX12_minute 139 = .ok (.iload 8, 2) := by decide +kernel
theorem dX12_minute_141 : decode cX12_minute 141 = .ok (.iaload, 1) := by decide +kernel
theorem dX12_minute_142 : decode cX12_minute 142 = .ok (.if_icmp .lt 27, 3) := by decide +kernel
theorem dX12_minute_145 : decode cX12_minute 145 = .ok (.iload 12, 2) := by decide +kernel
theorem dX12_minute_147 : decode cX12_minute 147 = .ok (.aload_n 0, 1) := by decide +kernel
theorem dX12_minute_148 : decode cX12_minute 148 = .ok (.getfield 56, 3) := by decide +kernel
theorem dX12_minute_151 : decode cX12_minute 151 = .ok (.iload 8, 2) := by decide +kernel
theorem dX12_minute_153 : decode cX12_minute 153 = .ok (.iaload, 1) := by decide +kernel
theorem dX12_minute_154 : decode cX12_minute 154 = .ok (.if_icmp .ne 33, 3) := by decide +kernel
theorem dX12_minute_157 : decode cX12_minute 157 = .ok (.iload 13, 2) := by decide +kernel
theorem dX12_minute_159 : decode cX12_minute 159 = .ok (.aload_n 0, 1) := by decide +kernel
theorem dX12_minute_160 : decode cX12_minute 160 = .ok (.getfield 62, 3) := by decide +kernel
theorem dX12_minute_163 : decode cX12_minute 163 = .ok (.iload 8, 2) := by decide +kernel
theorem dX12_minute_165 : decode cX12_minute 165 = .ok (.iaload, 1) := by decide +kernel
theorem dX12_minute_166 : decode cX12_minute 166 = .ok (.if_icmp .ge 21, 3) := by decide +kernel
theorem dX12_minute_169 : decode cX12_minute 169 = .ok (.aload_n 0, 1) := by decide +kernel
theorem dX12_minute_170 : decode cX12_minute 170 = .ok (.getfield 56, 3) := by decide +kernel
theorem dX12_minute_173 : decode cX12_minute 173 = .ok (.iload 8, 2) := by decide +kernel
theorem dX12_minute_175 : decode cX12_minute 175 = .ok (.iload 12, 2) := by decide +kernel
theorem dX12_minute_177 : decode cX12_minute 177 = .ok (.iastore, 1) := by decide +kernel
theorem dX12_minute_178 : decode cX12_minute 178 = .ok (.aload_n 0, 1) := by decide +kernel
theorem dX12_minute_179 : decode cX12_minute 179 = .ok (.getfield 62, 3) := by decide +kernel
theorem dX12_minute_182 : decode cX12_minute 182 = .ok (.iload 8, 2) := by decide +kernel
theorem dX12_minute_184 : decode cX12_minute 184 = .ok (.iload 13, 2) := by decide +kernel
theorem dX12_minute_186 : decode cX12_minute 186 = .ok (.iastore, 1) := by decide +kernel
theorem dX12_minute_187 : decode cX12_minute 187 = .ok (.return_, 1) := by decide +kernel
theorem dX12_foremost_0 : decode cX12_foremost 0 = .ok (.iconst (-1), 1) := by decide +kernel
theorem dX12_foremost_1 : decode cX12_foremost 1 = .ok (.istore 4, 2) := by decide +kernel
theorem dX12_foremost_3 : decode cX12_foremost 3 = .ok (.iconst 0, 1) := by decide +kernel
theorem dX12_foremost_4 : decode cX12_foremost 4 = .ok (.istore 5, 2) := by decide +kernel
theorem dX12_foremost_6 : decode cX12_foremost 6 = .ok (.iload 5, 2) := by decide +kernel
theorem dX12_foremost_8 : decode cX12_foremost 8 = .ok (.aload_n 0, 1) := by decide +kernel
theorem dX12_foremost_9 : decode cX12_foremost 9 = .ok (.getfield 138, 3) := by decide +kernel
theorem dX12_foremost_12 : decode cX12_foremost 12 = .ok (.if_icmp .ge 82, 3) := by decide +kernel
theorem dX12_foremost_15 : decode cX12_foremost 15 = .ok (.iload 5, 2) := by decide +kernel
theorem dX12_foremost_17 : decode cX12_foremost 17 = .ok (.iload_n 3, 1) := by decide +kernel
theorem dX12_foremost_18 : decode cX12_foremost 18 = .ok (.if_icmp .eq 70, 3) := by decide +kernel
theorem dX12_foremost_21 : decode cX12_foremost 21 = .ok (.aload_n 0, 1) := by decide +kernel
theorem dX12_foremost_22 : decode cX12_foremost 22 = .ok (.iload 5, 2) := by decide +kernel
theorem dX12_foremost_24 : decode cX12_foremost 24 = .ok (.iload_n 2, 1) := by decide +kernel
theorem dX12_foremost_25 : decode cX12_foremost 25 = .ok (.invokevirtual 187, 3) := by decide +kernel
theorem dX12_foremost_28 : decode cX12_foremost 28 = .ok (.ifCond .eq 60, 3) := by decide +kernel
theorem dX12_foremost_31 : decode cX12_foremost 31 = .ok (.aload_n 0, 1) := by decide +kernel
theorem dX12_foremost_32 : decode cX12_foremost 32 = .ok (.getfield 44, 3) := by decide +kernel
theorem dX12_foremost_35 : decode cX12_foremost 35 = .ok (.iload 5, 2) := by decide +kernel
theorem dX12_foremost_37 : decode cX12_foremost 37 = .ok (.iaload, 1) := by decide +kernel
theorem dX12_foremost_38 : decode cX12_foremost 38 = .ok (.iload_n 1, 1) := by decide +kernel
theorem dX12_foremost_39 : decode cX12_foremost 39 = .ok (.if_icmp .eq 17, 3) := by decide +kernel
theorem dX12_foremost_42 : decode cX12_foremost 42 = .ok (.aload_n 0, 1) := by decide +kernel
theorem dX12_foremost_43 : decode cX12_foremost 43 = .ok (.getfield 35, 3) := by decide +kernel
theorem dX12_foremost_46 : decode cX12_foremost 46 = .ok (.iload 5, 2) := by decide +kernel
theorem dX12_foremost_48 : decode cX12_foremost 48 = .ok (.iaload, 1) := by decide +kernel
theorem dX12_foremost_49 : decode cX12_foremost 49 = .ok (.iconst 4, 1) := by decide +kernel
theorem dX12_foremost_50 : decode cX12_foremost 50 = .ok (.if_icmp .eq 6, 3) := by decide +kernel
theorem dX12_foremost_53 : decode cX12_foremost 53 = .ok (.goto 35, 3) := by decide +kernel
theorem dX12_foremost_56 : decode cX12_foremost 56 = .ok (.iload 4, 2) := by decide +kernel
theorem dX12_foremost_58 : decode cX12_foremost 58 = .ok (.iconst (-1), 1) := by decide +kernel
theorem dX12_foremost_59 : decode cX12_foremost 59 = .ok (.if_icmp .eq 20, 3) := by decide +kernel
theorem dX12_foremost_62 : decode cX12_foremost 62 = .ok (.aload_n 0, 1) := by decide +kernel
theorem dX12_foremost_63 : decode cX12_foremost 63 = .ok (.iload 5, 2) := by decide +kernel
theorem dX12_foremost_65 : decode cX12_foremost 65 = .ok (.iload_n 2, 1) := by decide +kernel
theorem dX12_foremost_66 : decode cX12_foremost 66 = .ok (.invokevirtual 194, 3) := by decide +kernel
theorem dX12_foremost_69 : decode cX12_foremost 69 = .ok (.aload_n 0, 1) := by decide +kernel
theorem dX12_foremost_70 : decode cX12_foremost 70 = .ok (.iload 4, 2) := by decide +kernel
theorem dX12_foremost_72 : decode cX12_foremost 72 = .ok (.iload_n 2, 1) := by decide +kernel
theorem dX12_foremost_73 : decode cX12_foremost 73 = .ok (.invokevirtual 194, 3) := by decide +kernel
theorem dX12_foremost_76 : decode cX12_foremost 76 = .ok (.if_icmp .le 8, 3) := by decide +kernel
theorem dX12_foremost_79 : decode cX12_foremost 79 = .ok (.iload 5, 2) := by decide +kernel
theorem dX12_foremost_81 : decode cX12_foremost 81 = .ok (.goto 5, 3) := by decide +kernel
theorem dX12_foremost_84 : decode cX12_foremost 84 = .ok (.iload 4, 2) := by decide +kernel
theorem dX12_foremost_86 : decode cX12_foremost 86 = .ok (.istore 4, 2) := by decide +kernel
theorem dX12_foremost_88 : decode cX12_foremost 88 = .ok (.iinc 5 1, 3) := by decide +kernel
theorem dX12_foremost_91 : decode cX12_foremost 91 = .ok (.goto (-85), 3) := by decide +kernel
theorem dX12_foremost_94 : decode cX12_foremost 94 = .ok (.iload 4, 2) := by decide +kernel
theorem dX12_foremost_96 : decode cX12_foremost 96 = .ok (.ireturn, 1) := by decide +kernel
theorem dX12_turnOf_0 : decode cX12_turnOf 0 = .ok (.aload_n 0, 1) := by decide +kernel
theorem dX12_turnOf_1 : decode cX12_turnOf 1 = .ok (.iload_n 1, 1) := by decide +kernel
theorem dX12_turnOf_2 : decode cX12_turnOf 2 = .ok (.iload_n 2, 1) := by decide +kernel
theorem dX12_turnOf_3 : decode cX12_turnOf 3 = .ok (.iconst (-1), 1) := by decide +kernel
theorem dX12_turnOf_4 : decode cX12_turnOf 4 = .ok (.invokevirtual 363, 3) := by decide +kernel
theorem dX12_turnOf_7 : decode cX12_turnOf 7 = .ok (.istore_n 3, 1) := by decide +kernel
theorem dX12_turnOf_8 : decode cX12_turnOf 8 = .ok (.iload_n 3, 1) := by decide +kernel
theorem dX12_turnOf_9 : decode cX12_turnOf 9 = .ok (.iconst (-1), 1) := by decide +kernel
theorem dX12_turnOf_10 : decode cX12_turnOf 10 = .ok (.if_icmp .ne 7, 3) := by decide +kernel
theorem dX12_turnOf_13 : decode cX12_turnOf 13 = .ok (.iconst (-1), 1) := by decide +kernel
theorem dX12_turnOf_14 : decode cX12_turnOf 14 = .ok (.goto 10, 3) := by decide +kernel
theorem dX12_turnOf_17 : decode cX12_turnOf 17 = .ok (.aload_n 0, 1) := by decide +kernel
theorem dX12_turnOf_18 : decode cX12_turnOf 18 = .ok (.iload_n 1, 1) := by decide +kernel
theorem dX12_turnOf_19 : decode cX12_turnOf 19 = .ok (.iload_n 2, 1) := by decide +kernel
theorem dX12_turnOf_20 : decode cX12_turnOf 20 = .ok (.iload_n 3, 1) := by decide +kernel
theorem dX12_turnOf_21 : decode cX12_turnOf 21 = .ok (.invokevirtual 363, 3) := by decide +kernel
theorem dX12_turnOf_24 : decode cX12_turnOf 24 = .ok (.istore 4, 2) := by decide +kernel
theorem dX12_turnOf_26 : decode cX12_turnOf 26 = .ok (.iload 4, 2) := by decide +kernel
theorem dX12_turnOf_28 : decode cX12_turnOf 28 = .ok (.iconst (-1), 1) := by decide +kernel
theorem dX12_turnOf_29 : decode cX12_turnOf 29 = .ok (.if_icmp .ne 7, 3) := by decide +kernel
theorem dX12_turnOf_32 : decode cX12_turnOf 32 = .ok (.iconst (-1), 1) := by decide +kernel
theorem dX12_turnOf_33 : decode cX12_turnOf 33 = .ok (.goto 26, 3) := by decide +kernel
theorem dX12_turnOf_36 : decode cX12_turnOf 36 = .ok (.iload_n 3, 1) := by decide +kernel
theorem dX12_turnOf_37 : decode cX12_turnOf 37 = .ok (.iload 4, 2) := by decide +kernel
theorem dX12_turnOf_39 : decode cX12_turnOf 39 = .ok (.if_icmp .ge 13, 3) := by decide +kernel
theorem dX12_turnOf_42 : decode cX12_turnOf 42 = .ok (.bipush 20, 2) := by decide +kernel
theorem dX12_turnOf_44 : decode cX12_turnOf 44 = .ok (.iload_n 3, 1) := by decide +kernel
theorem dX12_turnOf_45 : decode cX12_turnOf 45 = .ok (.imul, 1) := by decide +kernel
theorem dX12_turnOf_46 : decode cX12_turnOf 46 = .ok (.iload 4, 2) := by decide +kernel
theorem dX12_turnOf_48 : decode cX12_turnOf 48 = .ok (.iadd, 1) := by decide +kernel
theorem dX12_turnOf_49 : decode cX12_turnOf 49 = .ok (.goto 10, 3) := by decide +kernel
theorem dX12_turnOf_52 : decode cX12_turnOf 52 = .ok (.bipush 20, 2) := by decide +kernel
theorem dX12_turnOf_54 : decode cX12_turnOf 54 = .ok (.iload 4, 2) := by decide +kernel
theorem dX12_turnOf_56 : decode cX12_turnOf 56 = .ok (.imul, 1) := by decide +kernel
theorem dX12_turnOf_57 : decode cX12_turnOf 57 = .ok (.iload_n 3, 1) := by decide +kernel
theorem dX12_turnOf_58 : decode cX12_turnOf 58 = .ok (.iadd, 1) := by decide +kernel
theorem dX12_turnOf_59 : decode cX12_turnOf 59 = .ok (.ireturn, 1) := by decide +kernel
theorem dX12_turn_0 : decode cX12_turn 0 = .ok (.aload_n 0, 1) := by decide +kernel
theorem dX12_turn_1 : decode cX12_turn 1 = .ok (.iload_n 1, 1) := by decide +kernel
theorem dX12_turn_2 : decode cX12_turn 2 = .ok (.invokevirtual 159, 3) := by decide +kernel
theorem dX12_turn_5 : decode cX12_turn 5 = .ok (.ifCond .eq 19, 3) := by decide +kernel
theorem dX12_turn_8 : decode cX12_turn 8 = .ok (.iload_n 2, 1) := by decide +kernel
theorem dX12_turn_9 : decode cX12_turn 9 = .ok (.invokestatic 179, 3) := by decide +kernel
theorem dX12_turn_12 : decode cX12_turn 12 = .ok (.ifCond .eq 12, 3) := by decide +kernel
theorem dX12_turn_15 : decode cX12_turn 15 = .ok (.aload_n 0, 1) := by decide +kernel
theorem dX12_turn_16 : decode cX12_turn 16 = .ok (.iload_n 1, 1) := by decide +kernel
theorem dX12_turn_17 : decode cX12_turn 17 = .ok (.iload_n 2, 1) := by decide +kernel
theorem dX12_turn_18 : decode cX12_turn 18 = .ok (.invokevirtual 366, 3) := by decide +kernel
theorem dX12_turn_21 : decode cX12_turn 21 = .ok (.goto 5, 3) := by decide +kernel
theorem dX12_turn_24 : decode cX12_turn 24 = .ok (.bipush (-2), 2) := by decide +kernel
theorem dX12_turn_26 : decode cX12_turn 26 = .ok (.ireturn, 1) := by decide +kernel
theorem dX12_rowed_0 : decode cX12_rowed 0 = .ok (.aload_n 0, 1) := by decide +kernel
theorem dX12_rowed_1 : decode cX12_rowed 1 = .ok (.iload_n 1, 1) := by decide +kernel
theorem dX12_rowed_2 : decode cX12_rowed 2 = .ok (.invokevirtual 159, 3) := by decide +kernel
theorem dX12_rowed_5 : decode cX12_rowed 5 = .ok (.ifCond .eq 10, 3) := by decide +kernel
theorem dX12_rowed_8 : decode cX12_rowed 8 = .ok (.iload_n 2, 1) := by decide +kernel
theorem dX12_rowed_9 : decode cX12_rowed 9 = .ok (.invokestatic 179, 3) := by decide +kernel
theorem dX12_rowed_12 : decode cX12_rowed 12 = .ok (.ifCond .ne 6, 3) := by decide +kernel
theorem dX12_rowed_15 : decode cX12_rowed 15 = .ok (.bipush (-2), 2) := by decide +kernel
theorem dX12_rowed_17 : decode cX12_rowed 17 = .ok (.ireturn, 1) := by decide +kernel
theorem dX12_rowed_18 : decode cX12_rowed 18 = .ok (.aload_n 0, 1) := by decide +kernel
theorem dX12_rowed_19 : decode cX12_rowed 19 = .ok (.iload_n 1, 1) := by decide +kernel
theorem dX12_rowed_20 : decode cX12_rowed 20 = .ok (.iload_n 2, 1) := by decide +kernel
theorem dX12_rowed_21 : decode cX12_rowed 21 = .ok (.invokevirtual 366, 3) := by decide +kernel
theorem dX12_rowed_24 : decode cX12_rowed 24 = .ok (.istore_n 3, 1) := by decide +kernel
theorem dX12_rowed_25 : decode cX12_rowed 25 = .ok (.iload_n 3, 1) := by decide +kernel
theorem dX12_rowed_26 : decode cX12_rowed 26 = .ok (.iconst (-1), 1) := by decide +kernel
theorem dX12_rowed_27 : decode cX12_rowed 27 = .ok (.if_icmp .eq 29, 3) := by decide +kernel
theorem dX12_rowed_30 : decode cX12_rowed 30 = .ok (.aload_n 0, 1) := by decide +kernel
theorem dX12_rowed_31 : decode cX12_rowed 31 = .ok (.getfield 53, 3) := by decide +kernel
theorem dX12_rowed_34 : decode cX12_rowed 34 = .ok (.iload_n 3, 1) := by decide +kernel
theorem dX12_rowed_35 : decode cX12_rowed 35 = .ok (.bipush 20, 2) := by decide +kernel
theorem dX12_rowed_37 : decode cX12_rowed 37 = .ok (.idiv, 1) := by decide +kernel
theorem dX12_rowed_38 : decode cX12_rowed 38 = .ok (.dup2, 1) := by decide +kernel
theorem dX12_rowed_39 : decode cX12_rowed 39 = .ok (.iaload, 1) := by decide +kernel
theorem dX12_rowed_40 : decode cX12_rowed 40 = .ok (.iconst 1, 1) := by decide +kernel
theorem dX12_rowed_41 : decode cX12_rowed 41 = .ok (.iadd, 1) := by decide +kernel
theorem dX12_rowed_42 : decode cX12_rowed 42 = .ok (.iastore, 1) := by decide +kernel
theorem dX12_rowed_43 : decode cX12_rowed 43 = .ok (.aload_n 0, 1) := by decide +kernel
theorem dX12_rowed_44 : decode cX12_rowed 44 = .ok (.getfield 53, 3) := by decide +kernel
theorem dX12_rowed_47 : decode cX12_rowed 47 = .ok (.iload_n 3, 1) := by decide +kernel
theorem dX12_rowed_48 : decode cX12_rowed 48 = .ok (.bipush 20, 2) := by decide +kernel
theorem dX12_rowed_50 : decode cX12_rowed 50 = .ok (.irem, 1) := by decide +kernel
theorem dX12_rowed_51 : decode cX12_rowed 51 = .ok (.dup2, 1) := by decide +kernel
theorem dX12_rowed_52 : decode cX12_rowed 52 = .ok (.iaload, 1) := by decide +kernel
theorem dX12_rowed_53 : decode cX12_rowed 53 = .ok (.iconst 1, 1) := by decide +kernel
theorem dX12_rowed_54 : decode cX12_rowed 54 = .ok (.iadd, 1) := by decide +kernel
theorem dX12_rowed_55 : decode cX12_rowed 55 = .ok (.iastore, 1) := by decide +kernel
theorem dX12_rowed_56 : decode cX12_rowed 56 = .ok (.iload_n 3, 1) := by decide +kernel
theorem dX12_rowed_57 : decode cX12_rowed 57 = .ok (.ireturn, 1) := by decide +kernel
theorem dX12_judge_0 : decode cX12_judge 0 = .ok (.aload_n 0, 1) := by decide +kernel
theorem dX12_judge_1 : decode cX12_judge 1 = .ok (.iload_n 1, 1) := by decide +kernel
theorem dX12_judge_2 : decode cX12_judge 2 = .ok (.invokevirtual 159, 3) := by decide +kernel
theorem dX12_judge_5 : decode cX12_judge 5 = .ok (.ifCond .eq 10, 3) := by decide +kernel
theorem dX12_judge_8 : decode cX12_judge 8 = .ok (.iload_n 2, 1) := by decide +kernel
theorem dX12_judge_9 : decode cX12_judge 9 = .ok (.invokestatic 346, 3) := by decide +kernel
theorem dX12_judge_12 : decode cX12_judge 12 = .ok (.ifCond .ne 6, 3) := by decide +kernel
theorem dX12_judge_15 : decode cX12_judge 15 = .ok (.bipush (-2), 2) := by decide +kernel
theorem dX12_judge_17 : decode cX12_judge 17 = .ok (.ireturn, 1) := by decide +kernel
theorem dX12_judge_18 : decode cX12_judge 18 = .ok (.aload_n 0, 1) := by decide +kernel
theorem dX12_judge_19 : decode cX12_judge 19 = .ok (.getfield 95, 3) := by decide +kernel
theorem dX12_judge_22 : decode cX12_judge 22 = .ok (.iload_n 2, 1) := by decide +kernel
theorem dX12_judge_23 : decode cX12_judge 23 = .ok (.baload, 1) := by decide +kernel
theorem dX12_judge_24 : decode cX12_judge 24 = .ok (.ifCond .ne 6, 3) := by decide +kernel
theorem dX12_judge_27 : decode cX12_judge 27 = .ok (.bipush (-11), 2) := by decide +kernel
theorem dX12_judge_29 : decode cX12_judge 29 = .ok (.ireturn, 1) := by decide +kernel
theorem dX12_judge_30 : decode cX12_judge 30 = .ok (.aload_n 0, 1) := by decide +kernel
theorem dX12_judge_31 : decode cX12_judge 31 = .ok (.getfield 102, 3) := by decide +kernel
theorem dX12_judge_34 : decode cX12_judge 34 = .ok (.iload_n 2, 1) := by decide +kernel
theorem dX12_judge_35 : decode cX12_judge 35 = .ok (.iaload, 1) := by decide +kernel
theorem dX12_judge_36 : decode cX12_judge 36 = .ok (.i2l, 1) := by decide +kernel
theorem dX12_judge_37 : decode cX12_judge 37 = .ok (.lconst 1, 1) := by decide +kernel
theorem dX12_judge_38 : decode cX12_judge 38 = .ok (.ldc2_w 369, 3) := by decide +kernel
theorem dX12_judge_41 : decode cX12_judge 41 = .ok (.invokestatic 134, 3) := by decide +kernel
theorem dX12_judge_44 : decode cX12_judge 44 = .ok (.ifCond .ne 6, 3) := by decide +kernel
theorem dX12_judge_47 : decode cX12_judge 47 = .ok (.bipush (-2), 2) := by decide +kernel
theorem dX12_judge_49 : decode cX12_judge 49 = .ok (.ireturn, 1) := by decide +kernel
theorem dX12_judge_50 : decode cX12_judge 50 = .ok (.iconst 0, 1) := by decide +kernel
theorem dX12_judge_51 : decode cX12_judge 51 = .ok (.istore_n 3, 1) := by decide +kernel
theorem dX12_judge_52 : decode cX12_judge 52 = .ok (.iload_n 3, 1) := by decide +kernel
theorem dX12_judge_53 : decode cX12_judge 53 = .ok (.aload_n 0, 1) := by decide +kernel
theorem dX12_judge_54 : decode cX12_judge 54 = .ok (.getfield 138, 3) := by decide +kernel
theorem dX12_judge_57 : decode cX12_judge 57 = .ok (.if_icmp .ge 21, 3) := by decide +kernel
theorem dX12_judge_60 : decode cX12_judge 60 = .ok (.aload_n 0, 1) := by decide +kernel
theorem dX12_judge_61 : decode cX12_judge 61 = .ok (.getfield 68, 3) := by decide +kernel
theorem dX12_judge_64 : decode cX12_judge 64 = .ok (.iload_n 3, 1) := by decide +kernel
theorem dX12_judge_65 : decode cX12_judge 65 = .ok (.aload_n 0, 1) := by decide +kernel
theorem dX12_judge_66 : decode cX12_judge 66 = .ok (.getfield 53, 3) := by decide +kernel
theorem dX12_judge_69 : decode cX12_judge 69 = .ok (.iload_n 3, 1) := by decide +kernel
theorem dX12_judge_70 : decode cX12_judge 70 = .ok (.iaload, 1) := by decide +kernel
theorem dX12_judge_71 : decode cX12_judge 71 = .ok (.iastore, 1) := by decide +kernel
theorem dX12_judge_72 : decode cX12_judge 72 = .ok (.iinc 3 1, 3) := by decide +kernel
theorem dX12_judge_75 : decode cX12_judge 75 = .ok (.goto (-23), 3) := by decide +kernel
theorem dX12_judge_78 : decode cX12_judge 78 = .ok (.iconst (-1), 1) := by decide +kernel
theorem dX12_judge_79 : decode cX12_judge 79 = .ok (.istore_n 3, 1) := by decide +kernel
theorem dX12_judge_80 : decode cX12_judge 80 = .ok (.iconst 0, 1) := by decide +kernel
theorem dX12_judge_81 : decode cX12_judge 81 = .ok (.istore 4, 2) := by decide +kernel
theorem dX12_judge_83 : decode cX12_judge 83 = .ok (.iload 4, 2) := by decide +kernel
theorem dX12_judge_85 : decode cX12_judge 85 = .ok (.aload_n 0, 1) := by decide +kernel
theorem dX12_judge_86 : decode cX12_judge 86 = .ok (.getfield 102, 3) := by decide +kernel
theorem dX12_judge_89 : decode cX12_judge 89 = .ok (.iload_n 2, 1) := by decide +kernel
theorem dX12_judge_90 : decode cX12_judge 90 = .ok (.iaload, 1) := by decide +kernel
theorem dX12_judge_91 : decode cX12_judge 91 = .ok (.if_icmp .ge 49, 3) := by decide +kernel
theorem dX12_judge_94 : decode cX12_judge 94 = .ok (.iload_n 3, 1) := by decide +kernel
theorem dX12_judge_95 : decode cX12_judge 95 = .ok (.iconst (-1), 1) := by decide +kernel
theorem dX12_judge_96 : decode cX12_judge 96 = .ok (.if_icmp .ne 44, 3) := by decide +kernel
theorem dX12_judge_99 : decode cX12_judge 99 = .ok (.aload_n 0, 1) := by decide +kernel
theorem dX12_judge_100 : decode cX12_judge 100 = .ok (.iload_n 1, 1) := by decide +kernel
theorem dX12_judge_101 : decode cX12_judge 101 = .ok (.bipush 6, 2) := by decide +kernel
theorem dX12_judge_103 : decode cX12_judge 103 = .ok (.iload 4, 2) := by decide +kernel
theorem dX12_judge_105 : decode cX12_judge 105 = .ok (.iadd, 1) := by decide +kernel
theorem dX12_judge_106 : decode cX12_judge 106 = .ok (.invokevirtual 371, 3) := by decide +kernel
theorem dX12_judge_109 : decode cX12_judge 109 = .ok (.aload_n 0, 1) := by decide +kernel
theorem dX12_judge_110 : decode cX12_judge 110 = .ok (.getfield 105, 3) := by decide +kernel
theorem dX12_judge_113 : decode cX12_judge 113 = .ok (.bipush 40, 2) := by decide +kernel
theorem dX12_judge_115 : decode cX12_judge 115 = .ok (.iload_n 2, 1) := by decide +kernel
theorem dX12_judge_116 : decode cX12_judge 116 = .ok (.imul, 1) := by decide +kernel
theorem dX12_judge_117 : decode cX12_judge 117 = .ok (.iload 4, 2) := by decide +kernel
theorem dX12_judge_119 : decode cX12_judge 119 = .ok (.iadd, 1) := by decide +kernel
theorem dX12_judge_120 : decode cX12_judge 120 = .ok (.iaload, 1) := by decide +kernel
theorem dX12_judge_121 : decode cX12_judge 121 = .ok (.if_icmp .ne 7, 3) := by decide +kernel
theorem dX12_judge_124 : decode cX12_judge 124 = .ok (.iconst (-1), 1) := by decide +kernel
theorem dX12_judge_125 : decode cX12_judge 125 = .ok (.goto 8, 3) := by decide +kernel
theorem dX12_judge_128 : decode cX12_judge 128 = .ok (.bipush 6, 2) := by decide +kernel
theorem dX12_judge_130 : decode cX12_judge 130 = .ok (.iload 4, 2) := by decide +kernel
theorem dX12_judge_132 : decode cX12_judge 132 = .ok (.iadd, 1) := by decide +kernel
theorem dX12_judge_133 : decode cX12_judge 133 = .ok (.istore_n 3, 1) := by decide +kernel
theorem dX12_judge_134 : decode cX12_judge 134 = .ok (.iinc 4 1, 3) := by decide +kernel
theorem dX12_judge_137 : decode cX12_judge 137 = .ok (.goto (-54), 3) := by decide +kernel
theorem dX12_judge_140 : decode cX12_judge 140 = .ok (.iconst 0, 1) := by decide +kernel
theorem dX12_judge_141 : decode cX12_judge 141 = .ok (.istore 4, 2) := by decide +kernel
theorem dX12_judge_143 : decode cX12_judge 143 = .ok (.iload 4, 2) := by decide +kernel
theorem dX12_judge_145 : decode cX12_judge 145 = .ok (.aload_n 0, 1) := by decide +kernel
theorem dX12_judge_146 : decode cX12_judge 146 = .ok (.getfield 138, 3) := by decide +kernel
theorem dX12_judge_149 : decode cX12_judge 149 = .ok (.if_icmp .ge 23, 3) := by decide +kernel
theorem dX12_judge_152 : decode cX12_judge 152 = .ok (.aload_n 0, 1) := by decide +kernel
theorem dX12_judge_153 : decode cX12_judge 153 = .ok (.getfield 53, 3) := by decide +kernel
theorem dX12_judge_156 : decode cX12_judge 156 = .ok (.iload 4, 2) := by decide +kernel
theorem dX12_judge_158 : decode cX12_judge 158 = .ok (.aload_n 0, 1) := by decide +kernel
theorem dX12_judge_159 : decode cX12_judge 159 = .ok (.getfield 68, 3) := by decide +kernel
theorem dX12_judge_162 : decode cX12_judge 162 = .ok (.iload 4, 2) := by decide +kernel
theorem dX12_judge_164 : decode cX12_judge 164 = .ok (.iaload, 1) := by decide +kernel
theorem dX12_judge_165 : decode cX12_judge 165 = .ok (.iastore, 1) := by decide +kernel
theorem dX12_judge_166 : decode cX12_judge 166 = .ok (.iinc 4 1, 3) := by decide +kernel
theorem dX12_judge_169 : decode cX12_judge 169 = .ok (.goto (-26), 3) := by decide +kernel
theorem dX12_judge_172 : decode cX12_judge 172 = .ok (.iload_n 3, 1) := by decide +kernel
theorem dX12_judge_173 : decode cX12_judge 173 = .ok (.ireturn, 1) := by decide +kernel
theorem dX12_isAhead_0 : decode cX12_isAhead 0 = .ok (.iload_n 2, 1) := by decide +kernel
theorem dX12_isAhead_1 : decode cX12_isAhead 1 = .ok (.iconst (-1), 1) := by decide +kernel
theorem dX12_isAhead_2 : decode cX12_isAhead 2 = .ok (.if_icmp .eq 48, 3) := by decide +kernel
theorem dX12_isAhead_5 : decode cX12_isAhead 5 = .ok (.aload_n 0, 1) := by decide +kernel
theorem dX12_isAhead_6 : decode cX12_isAhead 6 = .ok (.getfield 53, 3) := by decide +kernel
theorem dX12_isAhead_9 : decode cX12_isAhead 9 = .ok (.iload_n 1, 1) := by decide +kernel
theorem dX12_isAhead_10 : decode cX12_isAhead 10 = .ok (.iaload, 1) := by decide +kernel
theorem dX12_isAhead_11 : decode cX12_isAhead 11 = .ok (.aload_n 0, 1) := by decide +kernel
theorem dX12_isAhead_12 : decode cX12_isAhead 12 = .ok (.getfield 53, 3) := by decide +kernel
theorem dX12_isAhead_15 : decode cX12_isAhead 15 = .ok (.iload_n 2, 1) := by decide +kernel
theorem dX12_isAhead_16 : decode cX12_isAhead 16 = .ok (.iaload, 1) := by decide +kernel
theorem dX12_isAhead_17 : decode cX12_isAhead 17 = .ok (.if_icmp .gt 33, 3) := by decide +kernel
theorem dX12_isAhead_20 : decode cX12_isAhead 20 = .ok (.aload_n 0, 1) := by decide +kernel
theorem dX12_isAhead_21 : decode cX12_isAhead 21 = .ok (.getfield 53, 3) := by decide +kernel
theorem dX12_isAhead_24 : decode cX12_isAhead 24 = .ok (.iload_n 1, 1) := by decide +kernel
theorem dX12_isAhead_25 : decode cX12_isAhead 25 = .ok (.iaload, 1) := by decide +kernel
theorem dX12_isAhead_26 : decode cX12_isAhead 26 = .ok (.aload_n 0, 1) := by decide +kernel
theorem dX12_isAhead_27 : decode cX12_isAhead 27 = .ok (.getfield 53, 3) := by decide +kernel
theorem dX12_isAhead_30 : decode cX12_isAhead 30 = .ok (.iload_n 2, 1) := by decide +kernel
theorem dX12_isAhead_31 : decode cX12_isAhead 31 = .ok (.iaload, 1) := by decide +kernel
theorem dX12_isAhead_32 : decode cX12_isAhead 32 = .ok (.if_icmp .ne 22, 3) := by decide +kernel
theorem dX12_isAhead_35 : decode cX12_isAhead 35 = .ok (.aload_n 0, 1) := by decide +kernel
theorem dX12_isAhead_36 : decode cX12_isAhead 36 = .ok (.getfield 38, 3) := by decide +kernel
theorem dX12_isAhead_39 : decode cX12_isAhead 39 = .ok (.iload_n 1, 1) := by decide +kernel
theorem dX12_isAhead_40 : decode cX12_isAhead 40 = .ok (.iaload, 1) := by decide +kernel
theorem dX12_isAhead_41 : decode cX12_isAhead 41 = .ok (.aload_n 0, 1) := by decide +kernel
theorem dX12_isAhead_42 : decode cX12_isAhead 42 = .ok (.getfield 38, 3) := by decide +kernel
theorem dX12_isAhead_45 : decode cX12_isAhead 45 = .ok (.iload_n 2, 1) := by decide +kernel
theorem dX12_isAhead_46 : decode cX12_isAhead 46 = .ok (.iaload, 1) := by decide +kernel
theorem dX12_isAhead_47 : decode cX12_isAhead 47 = .ok (.if_icmp .le 7, 3) := by decide +kernel
theorem dX12_isAhead_50 : decode cX12_isAhead 50 = .ok (.iconst 1, 1) := by decide +kernel
theorem dX12_isAhead_51 : decode cX12_isAhead 51 = .ok (.goto 4, 3) := by decide +kernel
theorem dX12_isAhead_54 : decode cX12_isAhead 54 = .ok (.iconst 0, 1) := by decide +kernel
theorem dX12_isAhead_55 : decode cX12_isAhead 55 = .ok (.ireturn, 1) := by decide +kernel
theorem dX12_heir_0 : decode cX12_heir 0 = .ok (.aload_n 0, 1) := by decide +kernel
theorem dX12_heir_1 : decode cX12_heir 1 = .ok (.iload_n 1, 1) := by decide +kernel
theorem dX12_heir_2 : decode cX12_heir 2 = .ok (.invokevirtual 170, 3) := by decide +kernel
theorem dX12_heir_5 : decode cX12_heir 5 = .ok (.ifCond .eq 15, 3) := by decide +kernel
theorem dX12_heir_8 : decode cX12_heir 8 = .ok (.iload_n 2, 1) := by decide +kernel
theorem dX12_heir_9 : decode cX12_heir 9 = .ok (.i2l, 1) := by decide +kernel
theorem dX12_heir_10 : decode cX12_heir 10 = .ok (.lconst 1, 1) := by decide +kernel
theorem dX12_heir_11 : decode cX12_heir 11 = .ok (.ldc2_w 374, 3) := by decide +kernel
theorem dX12_heir_14 : decode cX12_heir 14 = .ok (.invokestatic 134, 3) := by decide +kernel
theorem dX12_heir_17 : decode cX12_heir 17 = .ok (.ifCond .ne 6, 3) := by decide +kernel
theorem dX12_heir_20 : decode cX12_heir 20 = .ok (.bipush (-2), 2) := by decide +kernel
theorem dX12_heir_22 : decode cX12_heir 22 = .ok (.ireturn, 1) := by decide +kernel
theorem dX12_heir_23 : decode cX12_heir 23 = .ok (.iconst (-1), 1) := by decide +kernel
theorem dX12_heir_24 : decode cX12_heir 24 = .ok (.istore_n 3, 1) := by decide +kernel
theorem dX12_heir_25 : decode cX12_heir 25 = .ok (.iconst 0, 1) := by decide +kernel
theorem dX12_heir_26 : decode cX12_heir 26 = .ok (.istore 4, 2) := by decide +kernel
theorem dX12_heir_28 : decode cX12_heir 28 = .ok (.iload 4, 2) := by decide +kernel
theorem dX12_heir_30 : decode cX12_heir 30 = .ok (.aload_n 0, 1) := by decide +kernel
theorem dX12_heir_31 : decode cX12_heir 31 = .ok (.getfield 138, 3) := by decide +kernel
theorem dX12_heir_34 : decode cX12_heir 34 = .ok (.if_icmp .ge 172, 3) := by decide +kernel
theorem dX12_heir_37 : decode cX12_heir 37 = .ok (.aload_n 0, 1) := by decide +kernel
theorem dX12_heir_38 : decode cX12_heir 38 = .ok (.getfield 47, 3) := by decide +kernel
theorem dX12_heir_41 : decode cX12_heir 41 = .ok (.iload 4, 2) := by decide +kernel
theorem dX12_heir_43 : decode cX12_heir 43 = .ok (.iaload, 1) := by decide +kernel
theorem dX12_heir_44 : decode cX12_heir 44 = .ok (.istore 5, 2) := by decide +kernel
theorem dX12_heir_46 : decode cX12_heir 46 = .ok (.iload 5, 2) := by decide +kernel
theorem dX12_heir_48 : decode cX12_heir 48 = .ok (.iload_n 1, 1) := by decide +kernel
theorem dX12_heir_49 : decode cX12_heir 49 = .ok (.if_icmp .ne 7, 3) := by decide +kernel
theorem dX12_heir_52 : decode cX12_heir 52 = .ok (.iconst 1, 1) := by decide +kernel
theorem dX12_heir_53 : decode cX12_heir 53 = .ok (.goto 4, 3) := by decide +kernel
theorem dX12_heir_56 : decode cX12_heir 56 = .ok (.iconst 0, 1) := by decide +kernel
theorem dX12_heir_57 : decode cX12_heir 57 = .ok (.istore 6, 2) := by decide +kernel
theorem dX12_heir_59 : decode cX12_heir 59 = .ok (.iload_n 2, 1) := by decide +kernel
theorem dX12_heir_60 : decode cX12_heir 60 = .ok (.iconst 1, 1) := by decide +kernel
theorem dX12_heir_61 : decode cX12_heir 61 = .ok (.if_icmp .ne 54, 3) := by decide +kernel
theorem dX12_heir_64 : decode cX12_heir 64 = .ok (.iload 6, 2) := by decide +kernel
theorem dX12_heir_66 : decode cX12_heir 66 = .ok (.ifCond .eq 49, 3) := by decide +kernel
theorem dX12_heir_69 : decode cX12_heir 69 = .ok (.aload_n 0, 1) := by decide +kernel
theorem dX12_heir_70 : decode cX12_heir 70 = .ok (.getfield 35, 3) := by decide +kernel
theorem dX12_heir_73 : decode cX12_heir 73 = .ok (.iload 4, 2) := by decide +kernel
theorem dX12_heir_75 : decode cX12_heir 75 = .ok (.iaload, 1) := by decide +kernel
theorem dX12_heir_76 : decode cX12_heir 76 = .ok (.iconst 1, 1) := by decide +kernel
theorem dX12_heir_77 : decode cX12_heir 77 = .ok (.if_icmp .eq 14, 3) := by decide +kernel
theorem dX12_heir_80 : decode cX12_heir 80 = .ok (.aload_n 0, 1) := by decide +kernel
theorem dX12_heir_81 : decode cX12_heir 81 = .ok (.getfield 35, 3) := by decide +kernel
theorem dX12_heir_84 : decode cX12_heir 84 = .ok (.iload 4, 2) := by decide +kernel
theorem dX12_heir_86 : decode cX12_heir 86 = .ok (.iaload, 1) := by decide +kernel
theorem dX12_heir_87 : decode cX12_heir 87 = .ok (.iconst 3, 1) := by decide +kernel
theorem dX12_heir_88 : decode cX12_heir 88 = .ok (.if_icmp .ne 27, 3) := by decide +kernel
theorem dX12_heir_91 : decode cX12_heir 91 = .ok (.iload_n 3, 1) := by decide +kernel
theorem dX12_heir_92 : decode cX12_heir 92 = .ok (.iconst (-1), 1) := by decide +kernel
theorem dX12_heir_93 : decode cX12_heir 93 = .ok (.if_icmp .eq 19, 3) := by decide +kernel
theorem dX12_heir_96 : decode cX12_heir 96 = .ok (.aload_n 0, 1) := by decide +kernel
theorem dX12_heir_97 : decode cX12_heir 97 = .ok (.getfield 38, 3) := by decide +kernel
theorem dX12_heir_100 : decode cX12_heir 100 = .ok (.iload 4, 2) := by decide +kernel
theorem dX12_heir_102 : decode cX12_heir 102 = .ok (.iaload, 1) := by decide +kernel
theorem dX12_heir_103 : decode cX12_heir 103 = .ok (.aload_n 0, 1) := by decide +kernel
theorem dX12_heir_104 : decode cX12_heir 104 = .ok (.getfield 38, 3) := by decide +kernel
theorem dX12_heir_107 : decode cX12_heir 107 = .ok (.iload_n 3, 1) := by decide +kernel
theorem dX12_heir_108 : decode cX12_heir 108 = .ok (.iaload, 1) := by decide +kernel
theorem dX12_heir_109 : decode cX12_heir 109 = .ok (.if_icmp .le 6, 3) := by decide +kernel
theorem dX12_heir_112 : decode cX12_heir 112 = .ok (.iload 4, 2) := by decide +kernel
theorem dX12_heir_114 : decode cX12_heir 114 = .ok (.istore_n 3, 1) := by decide +kernel
theorem dX12_heir_115 : decode cX12_heir 115 = .ok (.iload_n 2, 1) := by decide +kernel
theorem dX12_heir_116 : decode cX12_heir 116 = .ok (.iconst 2, 1) := by decide +kernel
theorem dX12_heir_117 : decode cX12_heir 117 = .ok (.if_icmp .ne 43, 3) := by decide +kernel
theorem dX12_heir_120 : decode cX12_heir 120 = .ok (.iload_n 3, 1) := by decide +kernel
theorem dX12_heir_121 : decode cX12_heir 121 = .ok (.iconst (-1), 1) := by decide +kernel
theorem dX12_heir_122 : decode cX12_heir 122 = .ok (.if_icmp .ne 38, 3) := by decide +kernel
theorem dX12_heir_125 : decode cX12_heir 125 = .ok (.aload_n 0, 1) := by decide +kernel
theorem dX12_heir_126 : decode cX12_heir 126 = .ok (.getfield 50, 3) := by decide +kernel
theorem dX12_heir_129 : decode cX12_heir 129 = .ok (.iload 4, 2) := by decide +kernel
theorem dX12_heir_131 : decode cX12_heir 131 = .ok (.iaload, 1) := by decide +kernel
theorem dX12_heir_132 : decode cX12_heir 132 = .ok (.ifCond .ne 28, 3) := by decide +kernel
theorem dX12_heir_135 : decode cX12_heir 135 = .ok (.iload 6, 2) := by decide +kernel
theorem dX12_heir_137 : decode cX12_heir 137 = .ok (.ifCond .ne 20, 3) := by decide +kernel
theorem dX12_heir_140 : decode cX12_heir 140 = .ok (.iload 5, 2) := by decide +kernel
theorem dX12_heir_142 : decode cX12_heir 142 = .ok (.iconst (-1), 1) := by decide +kernel
theorem dX12_heir_143 : decode cX12_heir 143 = .ok (.if_icmp .eq 17, 3) := by decide +kernel
theorem dX12_heir_146 : decode cX12_heir 146 = .ok (.aload_n 0, 1) := by decide +kernel
theorem dX12_heir_147 : decode cX12_heir 147 = .ok (.getfield 47, 3) := by decide +kernel
theorem dX12_heir_150 : decode cX12_heir 150 = .ok (.iload 5, 2) := by decide +kernel
theorem dX12_heir_152 : decode cX12_heir 152 = .ok (.iaload, 1) := by decide +kernel
theorem dX12_heir_153 : decode cX12_heir 153 = .ok (.iload_n 1, 1) := by decide +kernel
theorem dX12_heir_154 : decode cX12_heir 154 = .ok (.if_icmp .ne 6, 3) := by decide +kernel
theorem dX12_heir_157 : decode cX12_heir 157 = .ok (.iload 4, 2) := by decide +kernel
theorem dX12_heir_159 : decode cX12_heir 159 = .ok (.istore_n 3, 1) := by decide +kernel
theorem dX12_heir_160 : decode cX12_heir 160 = .ok (.iload_n 2, 1) := by decide +kernel
theorem dX12_heir_161 : decode cX12_heir 161 = .ok (.iconst 3, 1) := by decide +kernel
theorem dX12_heir_162 : decode cX12_heir 162 = .ok (.if_icmp .ne 38, 3) := by decide +kernel
theorem dX12_heir_165 : decode cX12_heir 165 = .ok (.iload 4, 2) := by decide +kernel
theorem dX12_heir_167 : decode cX12_heir 167 = .ok (.iload_n 1, 1) := by decide +kernel
theorem dX12_heir_168 : decode cX12_heir 168 = .ok (.if_icmp .eq 32, 3) := by decide +kernel
theorem dX12_heir_171 : decode cX12_heir 171 = .ok (.aload_n 0, 1) := by decide +kernel
theorem dX12_heir_172 : decode cX12_heir 172 = .ok (.getfield 44, 3) := by decide +kernel
theorem dX12_heir_175 : decode cX12_heir 175 = .ok (.iload 4, 2) := by decide +kernel
theorem dX12_heir_177 : decode cX12_heir 177 = .ok (.iaload, 1) := by decide +kernel
theorem dX12_heir_178 : decode cX12_heir 178 = .ok (.aload_n 0, 1) := by decide +kernel
theorem dX12_heir_179 : decode cX12_heir 179 = .ok (.getfield 44, 3) := by decide +kernel
theorem dX12_heir_182 : decode cX12_heir 182 = .ok (.iload_n 1, 1) := by decide +kernel
theorem dX12_heir_183 : decode cX12_heir 183 = .ok (.iaload, 1) := by decide +kernel
theorem dX12_heir_184 : decode cX12_heir 184 = .ok (.if_icmp .ne 16, 3) := by decide +kernel
theorem dX12_heir_187 : decode cX12_heir 187 = .ok (.aload_n 0, 1) := by decide +kernel
theorem dX12_heir_188 : decode cX12_heir 188 = .ok (.iload 4, 2) := by decide +kernel
theorem dX12_heir_190 : decode cX12_heir 190 = .ok (.iload_n 3, 1) := by decide +kernel
theorem dX12_heir_191 : decode cX12_heir 191 = .ok (.invokevirtual 376, 3) := by decide +kernel
theorem dX12_heir_194 : decode cX12_heir 194 = .ok (.ifCond .eq 6, 3) := by decide +kernel
theorem dX12_heir_197 : decode cX12_heir 197 = .ok (.iload 4, 2) := by decide +kernel
theorem dX12_heir_199 : decode cX12_heir 199 = .ok (.istore_n 3, 1) := by decide +kernel
theorem dX12_heir_200 : decode cX12_heir 200 = .ok (.iinc 4 1, 3) := by decide +kernel
theorem dX12_heir_203 : decode cX12_heir 203 = .ok (.goto (-175), 3) := by decide +kernel
theorem dX12_heir_206 : decode cX12_heir 206 = .ok (.iload_n 3, 1) := by decide +kernel
theorem dX12_heir_207 : decode cX12_heir 207 = .ok (.ireturn, 1) := by decide +kernel
theorem dX12_open_0 : decode cX12_open 0 = .ok (.iload_n 1, 1) := by decide +kernel
theorem dX12_open_1 : decode cX12_open 1 = .ok (.i2l, 1) := by decide +kernel
theorem dX12_open_2 : decode cX12_open 2 = .ok (.lconst 0, 1) := by decide +kernel
theorem dX12_open_3 : decode cX12_open 3 = .ok (.ldc2_w 379, 3) := by decide +kernel
theorem dX12_open_6 : decode cX12_open 6 = .ok (.invokestatic 134, 3) := by decide +kernel
theorem dX12_open_9 : decode cX12_open 9 = .ok (.ifCond .eq 15, 3) := by decide +kernel
theorem dX12_open_12 : decode cX12_open 12 = .ok (.iload_n 2, 1) := by decide +kernel
theorem dX12_open_13 : decode cX12_open 13 = .ok (.i2l, 1) := by decide +kernel
theorem dX12_open_14 : decode cX12_open 14 = .ok (.lconst 0, 1) := by decide +kernel
theorem dX12_open_15 : decode cX12_open 15 = .ok (.ldc2_w 381, 3) := by decide +kernel
theorem dX12_open_18 : decode cX12_open 18 = .ok (.invokestatic 134, 3) := by decide +kernel
theorem dX12_open_21 : decode cX12_open 21 = .ok (.ifCond .ne 6, 3) := by decide +kernel
theorem dX12_open_24 : decode cX12_open 24 = .ok (.bipush (-2), 2) := by decide +kernel
theorem dX12_open_26 : decode cX12_open 26 = .ok (.ireturn, 1) := by decide +kernel
theorem dX12_open_27 : decode cX12_open 27 = .ok (.iconst 0, 1) := by decide +kernel
theorem dX12_open_28 : decode cX12_open 28 = .ok (.istore_n 3, 1) := by decide +kernel
theorem dX12_open_29 : decode cX12_open 29 = .ok (.iconst (-1), 1) := by decide +kernel
theorem dX12_open_30 : decode cX12_open 30 = .ok (.istore 4, 2) := by decide +kernel
theorem dX12_open_32 : decode cX12_open 32 = .ok (.iconst 0, 1) := by decide +kernel
theorem dX12_open_33 : decode cX12_open 33 = .ok (.istore 5, 2) := by decide +kernel
theorem dX12_open_35 : decode cX12_open 35 = .ok (.iconst 0, 1) := by decide +kernel
theorem dX12_open_36 : decode cX12_open 36 = .ok (.istore 6, 2) := by decide +kernel
theorem dX12_open_38 : decode cX12_open 38 = .ok (.iload 6, 2) := by decide +kernel
theorem dX12_open_40 : decode cX12_open 40 = .ok (.iconst 1, 1) := by decide +kernel
theorem dX12_open_41 : decode cX12_open 41 = .ok (.aload_n 0, 1) := by decide +kernel
theorem dX12_open_42 : decode cX12_open 42 = .ok (.getfield 131, 3) := by decide +kernel
theorem dX12_open_45 : decode cX12_open 45 = .ok (.ishl, 1) := by decide +kernel
theorem dX12_open_46 : decode cX12_open 46 = .ok (.if_icmp .ge 138, 3) := by decide +kernel
theorem dX12_open_49 : decode cX12_open 49 = .ok (.iconst 0, 1) := by decide +kernel
theorem dX12_open_50 : decode cX12_open 50 = .ok (.istore 7, 2) := by decide +kernel
theorem dX12_open_52 : decode cX12_open 52 = .ok (.iconst 0, 1) := by decide +kernel
theorem dX12_open_53 : decode cX12_open 53 = .ok (.istore 8, 2) := by decide +kernel
theorem dX12_open_55 : decode cX12_open 55 = .ok (.iconst 0, 1) := by decide +kernel
theorem dX12_open_56 : decode cX12_open 56 = .ok (.istore 9, 2) := by decide +kernel
theorem dX12_open_58 : decode cX12_open 58 = .ok (.iload 9, 2) := by decide +kernel
theorem dX12_open_60 : decode cX12_open 60 = .ok (.aload_n 0, 1) := by decide +kernel
theorem dX12_open_61 : decode cX12_open 61 = .ok (.getfield 131, 3) := by decide +kernel
theorem dX12_open_64 : decode cX12_open 64 = .ok (.if_icmp .ge 73, 3) := by decide +kernel
theorem dX12_open_67 : decode cX12_open 67 = .ok (.iload 7, 2) := by decide +kernel
theorem dX12_open_69 : decode cX12_open 69 = .ok (.iload 6, 2) := by decide +kernel
theorem dX12_open_71 : decode cX12_open 71 = .ok (.iload 9, 2) := by decide +kernel
theorem dX12_open_73 : decode cX12_open 73 = .ok (.ishr, 1) := by decide +kernel
theorem dX12_open_74 : decode cX12_open 74 = .ok (.iconst 1, 1) := by decide +kernel
theorem dX12_open_75 : decode cX12_open 75 = .ok (.iand, 1) := by decide +kernel
theorem dX12_open_76 : decode cX12_open 76 = .ok (.iconst 1, 1) := by decide +kernel
theorem dX12_open_77 : decode cX12_open 77 = .ok (.if_icmp .ne 13, 3) := by decide +kernel
theorem dX12_open_80 : decode cX12_open 80 = .ok (.aload_n 0, 1) := by decide +kernel
theorem dX12_open_81 : decode cX12_open 81 = .ok (.getfield 32, 3) := by decide +kernel
theorem dX12_open_84 : decode cX12_open 84 = .ok (.iload 9, 2) := by decide +kernel
theorem dX12_open_86 : decode cX12_open 86 = .ok (.iaload, 1) := by decide +kernel
theorem dX12_open_87 : decode cX12_open 87 = .ok (.goto 4, 3) := by decide +kernel
theorem dX12_open_90 : decode cX12_open 90 = .ok (.iconst 0, 1) := by decide +kernel
theorem dX12_open_91 : decode cX12_open 91 = .ok (.iadd, 1) := by decide +kernel
theorem dX12_open_92 : decode cX12_open 92 = .ok (.istore 7, 2) := by decide +kernel
theorem dX12_open_94 : decode cX12_open 94 = .ok (.iload 8, 2) := by decide +kernel
theorem dX12_open_96 : decode cX12_open 96 = .ok (.iload 6, 2) := by decide +kernel
theorem dX12_open_98 : decode cX12_open 98 = .ok (.iload 9, 2) := by decide +kernel
theorem dX12_open_100 : decode cX12_open 100 = .ok (.ishr, 1) := by decide +kernel
theorem dX12_open_101 : decode cX12_open 101 = .ok (.iconst 1, 1) := by decide +kernel
theorem dX12_open_102 : decode cX12_open 102 = .ok (.iand, 1) := by decide +kernel
theorem dX12_open_103 : decode cX12_open 103 = .ok (.iconst 1, 1) := by decide +kernel
theorem dX12_open_104 : decode cX12_open 104 = .ok (.if_icmp .ne 23, 3) := by decide +kernel
theorem dX12_open_107 : decode cX12_open 107 = .ok (.aload_n 0, 1) := by decide +kernel
theorem dX12_open_108 : decode cX12_open 108 = .ok (.getfield 23, 3) := by decide +kernel
theorem dX12_open_111 : decode cX12_open 111 = .ok (.iload 9, 2) := by decide +kernel
theorem dX12_open_113 : decode cX12_open 113 = .ok (.iaload, 1) := by decide +kernel
theorem dX12_open_114 : decode cX12_open 114 = .ok (.bipush 30, 2) := by decide +kernel
theorem dX12_open_116 : decode cX12_open 116 = .ok (.if_icmp .le 7, 3) := by decide +kernel
theorem dX12_open_119 : decode cX12_open 119 = .ok (.iconst 3, 1) := by decide +kernel
theorem dX12_open_120 : decode cX12_open 120 = .ok (.goto 8, 3) := by decide +kernel
theorem dX12_open_123 : decode cX12_open 123 = .ok (.iconst 2, 1) := by decide +kernel
theorem dX12_open_124 : decode cX12_open 124 = .ok (.goto 4, 3) := by decide +kernel
theorem dX12_open_127 : decode cX12_open 127 = .ok (.iconst 0, 1) := by decide +kernel
theorem dX12_open_128 : decode cX12_open 128 = .ok (.iadd, 1) := by decide +kernel
theorem dX12_open_129 : decode cX12_open 129 = .ok (.istore 8, 2) := by decide +kernel
theorem dX12_open_131 : decode cX12_open 131 = .ok (.iinc 9 1, 3) := by decide +kernel
theorem dX12_open_134 : decode cX12_open 134 = .ok (.goto (-76), 3) := by decide +kernel
theorem dX12_open_137 : decode cX12_open 137 = .ok (.iload 8, 2) := by decide +kernel
theorem dX12_open_139 : decode cX12_open 139 = .ok (.iload_n 1, 1) := by decide +kernel
theorem dX12_open_140 : decode cX12_open 140 = .ok (.if_icmp .gt 38, 3) := by decide +kernel
theorem dX12_open_143 : decode cX12_open 143 = .ok (.iload 7, 2) := by decide +kernel
theorem dX12_open_145 : decode cX12_open 145 = .ok (.iload 4, 2) := by decide +kernel
theorem dX12_open_147 : decode cX12_open 147 = .ok (.if_icmp .lt 31, 3) := by decide +kernel
theorem dX12_open_150 : decode cX12_open 150 = .ok (.iload 7, 2) := by decide +kernel
theorem dX12_open_152 : decode cX12_open 152 = .ok (.iload 4, 2) := by decide +kernel
theorem dX12_open_154 : decode cX12_open 154 = .ok (.if_icmp .ne 13, 3) := by decide +kernel
theorem dX12_open_157 : decode cX12_open 157 = .ok (.iload 8, 2) := by decide +kernel
theorem dX12_open_159 : decode cX12_open 159 = .ok (.iload 5, 2) := by decide +kernel
theorem dX12_open_161 : decode cX12_open 161 = .ok (.if_icmp .lt 6, 3) := by decide +kernel
theorem dX12_open_164 : decode cX12_open 164 = .ok (.goto 14, 3) := by decide +kernel
theorem dX12_open_167 : decode cX12_open 167 = .ok (.iload 6, 2) := by decide +kernel
theorem dX12_open_169 : decode cX12_open 169 = .ok (.istore_n 3, 1) := by decide +kernel
theorem dX12_open_170 : decode cX12_open 170 = .ok (.iload 7, 2) := by decide +kernel
theorem dX12_open_172 : decode cX12_open 172 = .ok (.istore 4, 2) := by decide +kernel
theorem dX12_open_174 : decode cX12_open 174 = .ok (.iload 8, 2) := by decide +kernel
theorem dX12_open_176 : decode cX12_open 176 = .ok (.istore 5, 2) := by decide +kernel
theorem dX12_open_178 : decode cX12_open 178 = .ok (.iinc 6 1, 3) := by decide +kernel
theorem dX12_open_181 : decode cX12_open 181 = .ok (.goto (-143), 3) := by decide +kernel
theorem dX12_open_184 : decode cX12_open 184 = .ok (.iload_n 2, 1) := by decide +kernel
theorem dX12_open_185 : decode cX12_open 185 = .ok (.ifCond .ne 7, 3) := by decide +kernel
theorem dX12_open_188 : decode cX12_open 188 = .ok (.iload_n 3, 1) := by decide +kernel
theorem dX12_open_189 : decode cX12_open 189 = .ok (.goto 15, 3) := by decide +kernel
theorem dX12_open_192 : decode cX12_open 192 = .ok (.iload_n 2, 1) := by decide +kernel
theorem dX12_open_193 : decode cX12_open 193 = .ok (.iconst 1, 1) := by decide +kernel
theorem dX12_open_194 : decode cX12_open 194 = .ok (.if_icmp .ne 8, 3) := by decide +kernel
theorem dX12_open_197 : decode cX12_open 197 = .ok (.iload 4, 2) := by decide +kernel
theorem dX12_open_199 : decode cX12_open 199 = .ok (.goto 5, 3) := by decide +kernel
theorem dX12_open_202 : decode cX12_open 202 = .ok (.iload 5, 2) := by decide +kernel
theorem dX12_open_204 : decode cX12_open 204 = .ok (.ireturn, 1) := by decide +kernel
theorem dX12_path_0 : decode cX12_path 0 = .ok (.iload_n 1, 1) := by decide +kernel
theorem dX12_path_1 : decode cX12_path 1 = .ok (.invokestatic 147, 3) := by decide +kernel
theorem dX12_path_4 : decode cX12_path 4 = .ok (.ifCond .eq 15, 3) := by decide +kernel
theorem dX12_path_7 : decode cX12_path 7 = .ok (.iload_n 2, 1) := by decide +kernel
theorem dX12_path_8 : decode cX12_path 8 = .ok (.i2l, 1) := by decide +kernel
theorem dX12_path_9 : decode cX12_path 9 = .ok (.lconst 0, 1) := by decide +kernel
theorem dX12_path_10 : decode cX12_path 10 = .ok (.ldc2_w 143, 3) := by decide +kernel
theorem dX12_path_13 : decode cX12_path 13 = .ok (.invokestatic 134, 3) := by decide +kernel
theorem dX12_path_16 : decode cX12_path 16 = .ok (.ifCond .ne 6, 3) := by decide +kernel
theorem dX12_path_19 : decode cX12_path 19 = .ok (.bipush (-2), 2) := by decide +kernel
theorem dX12_path_21 : decode cX12_path 21 = .ok (.ireturn, 1) := by decide +kernel
theorem dX12_path_22 : decode cX12_path 22 = .ok (.aload_n 0, 1) := by decide +kernel
theorem dX12_path_23 : decode cX12_path 23 = .ok (.getfield 71, 3) := by decide +kernel
theorem dX12_path_26 : decode cX12_path 26 = .ok (.iload_n 1, 1) := by decide +kernel
theorem dX12_path_27 : decode cX12_path 27 = .ok (.iaload, 1) := by decide +kernel
theorem dX12_path_28 : decode cX12_path 28 = .ok (.istore_n 3, 1) := by decide +kernel
theorem dX12_path_29 : decode cX12_path 29 = .ok (.aload_n 0, 1) := by decide +kernel
theorem dX12_path_30 : decode cX12_path 30 = .ok (.getfield 71, 3) := by decide +kernel
theorem dX12_path_33 : decode cX12_path 33 = .ok (.iload_n 1, 1) := by decide +kernel
theorem dX12_path_34 : decode cX12_path 34 = .ok (.iload_n 2, 1) := by decide +kernel
theorem dX12_path_35 : decode cX12_path 35 = .ok (.iastore, 1) := by decide +kernel
theorem dX12_path_36 : decode cX12_path 36 = .ok (.aload_n 0, 1) := by decide +kernel
theorem dX12_path_37 : decode cX12_path 37 = .ok (.getfield 71, 3) := by decide +kernel
theorem dX12_path_40 : decode cX12_path 40 = .ok (.bipush 10, 2) := by decide +kernel
theorem dX12_path_42 : decode cX12_path 42 = .ok (.iload_n 1, 1) := by decide +kernel
theorem dX12_path_43 : decode cX12_path 43 = .ok (.bipush 10, 2) := by decide +kernel
theorem dX12_path_45 : decode cX12_path 45 = .ok (.irem, 1) := by decide +kernel
theorem dX12_path_46 : decode cX12_path 46 = .ok (.imul, 1) := by decide +kernel
theorem dX12_path_47 : decode cX12_path 47 = .ok (.iload_n 1, 1) := by decide +kernel
theorem dX12_path_48 : decode cX12_path 48 = .ok (.bipush 10, 2) := by decide +kernel
theorem dX12_path_50 : decode cX12_path 50 = .ok (.idiv, 1) := by decide +kernel
theorem dX12_path_51 : decode cX12_path 51 = .ok (.iadd, 1) := by decide +kernel
theorem dX12_path_52 : decode cX12_path 52 = .ok (.iload_n 2, 1) := by decide +kernel
theorem dX12_path_53 : decode cX12_path 53 = .ok (.iastore, 1) := by decide +kernel
theorem dX12_path_54 : decode cX12_path 54 = .ok (.iload_n 3, 1) := by decide +kernel
theorem dX12_path_55 : decode cX12_path 55 = .ok (.ireturn, 1) := by decide +kernel
theorem dX12_walks_0 : decode cX12_walks 0 = .ok (.iconst 0, 1) := by decide +kernel
theorem dX12_walks_1 : decode cX12_walks 1 = .ok (.istore_n 1, 1) := by decide +kernel
theorem dX12_walks_2 : decode cX12_walks 2 = .ok (.iload_n 1, 1) := by decide +kernel
theorem dX12_walks_3 : decode cX12_walks 3 = .ok (.bipush 100, 2) := by decide +kernel
theorem dX12_walks_5 : decode cX12_walks 5 = .ok (.if_icmp .ge 51, 3) := by decide +kernel
theorem dX12_walks_8 : decode cX12_walks 8 = .ok (.aload_n 0, 1) := by decide +kernel
theorem dX12_walks_9 : decode cX12_walks 9 = .ok (.getfield 74, 3) := by decide +kernel
theorem dX12_walks_12 : decode cX12_walks 12 = .ok (.iload_n 1, 1) := by decide +kernel
theorem dX12_walks_13 : decode cX12_walks 13 = .ok (.iload_n 1, 1) := by decide +kernel
theorem dX12_walks_14 : decode cX12_walks 14 = .ok (.bipush 10, 2) := by decide +kernel
theorem dX12_walks_16 : decode cX12_walks 16 = .ok (.idiv, 1) := by decide +kernel
theorem dX12_walks_17 : decode cX12_walks 17 = .ok (.iload_n 1, 1) := by decide +kernel
theorem dX12_walks_18 : decode cX12_walks 18 = .ok (.bipush 10, 2) := by decide +kernel
theorem dX12_walks_20 : decode cX12_walks 20 = .ok (.irem, 1) := by decide +kernel
theorem dX12_walks_21 : decode cX12_walks 21 = .ok (.if_icmp .ne 7, 3) := by decide +kernel
theorem dX12_walks_24 : decode cX12_walks 24 = .ok (.iconst 0, 1) := by decide +kernel
theorem dX12_walks_25 : decode cX12_walks 25 = .ok (.goto 24, 3) := by decide +kernel
theorem dX12_walks_28 : decode cX12_walks 28 = .ok (.aload_n 0, 1) := by decide +kernel
theorem dX12_walks_29 : decode cX12_walks 29 = .ok (.getfield 71, 3) := by decide +kernel
theorem dX12_walks_32 : decode cX12_walks 32 = .ok (.iload_n 1, 1) := by decide +kernel
theorem dX12_walks_33 : decode cX12_walks 33 = .ok (.iaload, 1) := by decide +kernel
theorem dX12_walks_34 : decode cX12_walks 34 = .ok (.ifCond .le 12, 3) := by decide +kernel
theorem dX12_walks_37 : decode cX12_walks 37 = .ok (.aload_n 0, 1) := by decide +kernel
theorem dX12_walks_38 : decode cX12_walks 38 = .ok (.getfield 71, 3) := by decide +kernel
theorem dX12_walks_41 : decode cX12_walks 41 = .ok (.iload_n 1, 1) := by decide +kernel
theorem dX12_walks_42 : decode cX12_walks 42 = .ok (.iaload, 1) := by decide +kernel
theorem dX12_walks_43 : decode cX12_walks 43 = .ok (.goto 6, 3) := by decide +kernel
theorem dX12_walks_46 : decode cX12_walks 46 = .ok (.sipush 1000, 3) := by decide +kernel
theorem dX12_walks_49 : decode cX12_walks 49 = .ok (.iastore, 1) := by decide +kernel
theorem dX12_walks_50 : decode cX12_walks 50 = .ok (.iinc 1 1, 3) := by decide +kernel
theorem dX12_walks_53 : decode cX12_walks 53 = .ok (.goto (-51), 3) := by decide +kernel
theorem dX12_walks_56 : decode cX12_walks 56 = .ok (.iconst 0, 1) := by decide +kernel
theorem dX12_walks_57 : decode cX12_walks 57 = .ok (.istore_n 1, 1) := by decide +kernel
theorem dX12_walks_58 : decode cX12_walks 58 = .ok (.iload_n 1, 1) := by decide +kernel
theorem dX12_walks_59 : decode cX12_walks 59 = .ok (.aload_n 0, 1) := by decide +kernel
theorem dX12_walks_60 : decode cX12_walks 60 = .ok (.getfield 131, 3) := by decide +kernel
theorem dX12_walks_63 : decode cX12_walks 63 = .ok (.if_icmp .ge 63, 3) := by decide +kernel
theorem dX12_walks_66 : decode cX12_walks 66 = .ok (.aload_n 0, 1) := by decide +kernel
theorem dX12_walks_67 : decode cX12_walks 67 = .ok (.getfield 26, 3) := by decide +kernel
theorem dX12_walks_70 : decode cX12_walks 70 = .ok (.iload_n 1, 1) := by decide +kernel
theorem dX12_walks_71 : decode cX12_walks 71 = .ok (.iaload, 1) := by decide +kernel
theorem dX12_walks_72 : decode cX12_walks 72 = .ok (.istore_n 2, 1) := by decide +kernel
theorem dX12_walks_73 : decode cX12_walks 73 = .ok (.bipush 10, 2) := by decide +kernel
theorem dX12_walks_75 : decode cX12_walks 75 = .ok (.iload_n 2, 1) := by decide +kernel
theorem dX12_walks_76 : decode cX12_walks 76 = .ok (.bipush 10, 2) := by decide +kernel
theorem dX12_walks_78 : decode cX12_walks 78 = .ok (.irem, 1) := by decide +kernel
theorem dX12_walks_79 : decode cX12_walks 79 = .ok (.imul, 1) := by decide +kernel
theorem dX12_walks_80 : decode cX12_walks 80 = .ok (.iload_n 2, 1) := by decide +kernel
theorem dX12_walks_81 : decode cX12_walks 81 = .ok (.bipush 10, 2) := by decide +kernel
theorem dX12_walks_83 : decode cX12_walks 83 = .ok (.idiv, 1) := by decide +kernel
theorem dX12_walks_84 : decode cX12_walks 84 = .ok (.iadd, 1) := by decide +kernel
theorem dX12_walks_85 : decode cX12_walks 85 = .ok (.istore_n 3, 1) := by decide +kernel
theorem dX12_walks_86 : decode cX12_walks 86 = .ok (.aload_n 0, 1) := by decide +kernel
theorem dX12_walks_87 : decode cX12_walks 87 = .ok (.getfield 29, 3) := by decide +kernel
theorem dX12_walks_90 : decode cX12_walks 90 = .ok (.iload_n 1, 1) := by decide +kernel
theorem dX12_walks_91 : decode cX12_walks 91 = .ok (.iaload, 1) := by decide +kernel
theorem dX12_walks_92 : decode cX12_walks 92 = .ok (.iconst 1, 1) := by decide +kernel
theorem dX12_walks_93 : decode cX12_walks 93 = .ok (.if_icmp .ne 27, 3) := by decide +kernel
theorem dX12_walks_96 : decode cX12_walks 96 = .ok (.aload_n 0, 1) := by decide +kernel
theorem dX12_walks_97 : decode cX12_walks 97 = .ok (.getfield 74, 3) := by decide +kernel
theorem dX12_walks_100 : decode cX12_walks 100 = .ok (.iload_n 2, 1) := by decide +kernel
theorem dX12_walks_101 : decode cX12_walks 101 = .ok (.iaload, 1) := by decide +kernel
theorem dX12_walks_102 : decode cX12_walks 102 = .ok (.iconst 5, 1) := by decide +kernel
theorem dX12_walks_103 : decode cX12_walks 103 = .ok (.if_icmp .le 17, 3) := by decide +kernel
theorem dX12_walks_106 : decode cX12_walks 106 = .ok (.aload_n 0, 1) := by decide +kernel
theorem dX12_walks_107 : decode cX12_walks 107 = .ok (.getfield 74, 3) := by decide +kernel
theorem dX12_walks_110 : decode cX12_walks 110 = .ok (.iload_n 2, 1) := by decide +kernel
theorem dX12_walks_111 : decode cX12_walks 111 = .ok (.iconst 5, 1) := by decide +kernel
theorem dX12_walks_112 : decode cX12_walks 112 = .ok (.iastore, 1) := by decide +kernel
theorem dX12_walks_113 : decode cX12_walks 113 = .ok (.aload_n 0, 1) := by decide +kernel
theorem dX12_walks_114 : decode cX12_walks 114 = .ok (.getfield 74, 3) := by decide +kernel
theorem dX12_walks_117 : decode cX12_walks 117 = .ok (.iload_n 3, 1) := by decide +kernel
theorem dX12_walks_118 : decode cX12_walks 118 = .ok (.iconst 5, 1) := by decide +kernel
theorem dX12_walks_119 : decode cX12_walks 119 = .ok (.iastore, 1) := by decide +kernel
theorem dX12_walks_120 : decode cX12_walks 120 = .ok (.iinc 1 1, 3) := by decide +kernel
theorem dX12_walks_123 : decode cX12_walks 123 = .ok (.goto (-65), 3) := by decide +kernel
theorem dX12_walks_126 : decode cX12_walks 126 = .ok (.iconst 0, 1) := by decide +kernel
theorem dX12_walks_127 : decode cX12_walks 127 = .ok (.istore_n 1, 1) := by decide +kernel
theorem dX12_walks_128 : decode cX12_walks 128 = .ok (.iload_n 1, 1) := by decide +kernel
theorem dX12_walks_129 : decode cX12_walks 129 = .ok (.bipush 10, 2) := by decide +kernel
theorem dX12_walks_131 : decode cX12_walks 131 = .ok (.if_icmp .ge 91, 3) := by decide +kernel
theorem dX12_walks_134 : decode cX12_walks 134 = .ok (.iconst 0, 1) := by decide +kernel
theorem dX12_walks_135 : decode cX12_walks 135 = .ok (.istore_n 2, 1) := by decide +kernel
theorem dX12_walks_136 : decode cX12_walks 136 = .ok (.iload_n 2, 1) := by decide +kernel
theorem dX12_walks_137 : decode cX12_walks 137 = .ok (.bipush 10, 2) := by decide +kernel
theorem dX12_walks_139 : decode cX12_walks 139 = .ok (.if_icmp .ge 77, 3) := by decide +kernel
theorem dX12_walks_142 : decode cX12_walks 142 = .ok (.iconst 0, 1) := by decide +kernel
theorem dX12_walks_143 : decode cX12_walks 143 = .ok (.istore_n 3, 1) := by decide +kernel
theorem dX12_walks_144 : decode cX12_walks 144 = .ok (.iload_n 3, 1) := by decide +kernel
theorem dX12_walks_145 : decode cX12_walks 145 = .ok (.bipush 10, 2) := by decide +kernel
theorem dX12_walks_147 : decode cX12_walks 147 = .ok (.if_icmp .ge 63, 3) := by decide +kernel
theorem dX12_walks_150 : decode cX12_walks 150 = .ok (.aload_n 0, 1) := by decide +kernel
theorem dX12_walks_151 : decode cX12_walks 151 = .ok (.getfield 74, 3) := by decide +kernel
theorem dX12_walks_154 : decode cX12_walks 154 = .ok (.bipush 10, 2) := by decide +kernel
theorem dX12_walks_156 : decode cX12_walks 156 = .ok (.iload_n 2, 1) := by decide +kernel
theorem dX12_walks_157 : decode cX12_walks 157 = .ok (.imul, 1) := by decide +kernel
theorem dX12_walks_158 : decode cX12_walks 158 = .ok (.iload_n 1, 1) := by decide +kernel
theorem dX12_walks_159 : decode cX12_walks 159 = .ok (.iadd, 1) := by decide +kernel
theorem dX12_walks_160 : decode cX12_walks 160 = .ok (.iaload, 1) := by decide +kernel
theorem dX12_walks_161 : decode cX12_walks 161 = .ok (.aload_n 0, 1) := by decide +kernel
theorem dX12_walks_162 : decode cX12_walks 162 = .ok (.getfield 74, 3) := by decide +kernel
theorem dX12_walks_165 : decode cX12_walks 165 = .ok (.bipush 10, 2) := by decide +kernel
theorem dX12_walks_167 : decode cX12_walks 167 = .ok (.iload_n 1, 1) := by decide +kernel
theorem dX12_walks_168 : decode cX12_walks 168 = .ok (.imul, 1) := by decide +kernel
theorem dX12_walks_169 : decode cX12_walks 169 = .ok (.iload_n 3, 1) := by decide +kernel
theorem dX12_walks_170 : decode cX12_walks 170 = .ok (.iadd, 1) := by decide +kernel
theorem dX12_walks_171 : decode cX12_walks 171 = .ok (.iaload, 1) := by decide +kernel
theorem dX12_walks_172 : decode cX12_walks 172 = .ok (.iadd, 1) := by decide +kernel
theorem dX12_walks_173 : decode cX12_walks 173 = .ok (.istore 4, 2) := by decide +kernel
theorem dX12_walks_175 : decode cX12_walks 175 = .ok (.iload 4, 2) := by decide +kernel
theorem dX12_walks_177 : decode cX12_walks 177 = .ok (.aload_n 0, 1) := by decide +kernel
theorem dX12_walks_178 : decode cX12_walks 178 = .ok (.getfield 74, 3) := by decide +kernel
theorem dX12_walks_181 : decode cX12_walks 181 = .ok (.bipush 10, 2) := by decide +kernel
theorem dX12_walks_183 : decode cX12_walks 183 = .ok (.iload_n 2, 1) := by decide +kernel
theorem dX12_walks_184 : decode cX12_walks 184 = .ok (.imul, 1) := by decide +kernel
theorem dX12_walks_185 : decode cX12_walks 185 = .ok (.iload_n 3, 1) := by decide +kernel
theorem dX12_walks_186 : decode cX12_walks 186 = .ok (.iadd, 1) := by decide +kernel
theorem dX12_walks_187 : decode cX12_walks 187 = .ok (.iaload, 1) := by decide +kernel
theorem dX12_walks_188 : decode cX12_walks 188 = .ok (.if_icmp .ge 16, 3) := by decide +kernel
theorem dX12_walks_191 : decode cX12_walks 191 = .ok (.aload_n 0, 1) := by decide +kernel
theorem dX12_walks_192 : decode cX12_walks 192 = .ok (.getfield 74, 3) := by decide +kernel
theorem dX12_walks_195 : decode cX12_walks 195 = .ok (.bipush 10, 2) := by decide +kernel
theorem dX12_walks_197 : decode cX12_walks 197 = .ok (.iload_n 2, 1) := by decide +kernel
theorem dX12_walks_198 : decode cX12_walks 198 = .ok (.imul, 1) := by decide +kernel
theorem dX12_walks_199 : decode cX12_walks 199 = .ok (.iload_n 3, 1) := by decide +kernel
theorem dX12_walks_200 : decode cX12_walks 200 = .ok (.iadd, 1) := by decide +kernel
theorem dX12_walks_201 : decode cX12_walks 201 = .ok (.iload 4, 2) := by decide +kernel
theorem dX12_walks_203 : decode cX12_walks 203 = .ok (.iastore, 1) := by decide +kernel
theorem dX12_walks_204 : decode cX12_walks 204 = .ok (.iinc 3 1, 3) := by decide +kernel
theorem dX12_walks_207 : decode cX12_walks 207 = .ok (.goto (-63), 3) := by decide +kernel
theorem dX12_walks_210 : decode cX12_walks 210 = .ok (.iinc 2 1, 3) := by decide +kernel
theorem dX12_walks_213 : decode cX12_walks 213 = .ok (.goto (-77), 3) := by decide +kernel
theorem dX12_walks_216 : decode cX12_walks 216 = .ok (.iinc 1 1, 3) := by decide +kernel
theorem dX12_walks_219 : decode cX12_walks 219 = .ok (.goto (-91), 3) := by decide +kernel
theorem dX12_walks_222 : decode cX12_walks 222 = .ok (.return_, 1) := by decide +kernel
theorem dX12_foot_0 : decode cX12_foot 0 = .ok (.iload_n 1, 1) := by decide +kernel
theorem dX12_foot_1 : decode cX12_foot 1 = .ok (.i2l, 1) := by decide +kernel
theorem dX12_foot_2 : decode cX12_foot 2 = .ok (.lconst 0, 1) := by decide +kernel
theorem dX12_foot_3 : decode cX12_foot 3 = .ok (.ldc2_w 143, 3) := by decide +kernel
theorem dX12_foot_6 : decode cX12_foot 6 = .ok (.invokestatic 134, 3) := by decide +kernel
theorem dX12_foot_9 : decode cX12_foot 9 = .ok (.ifCond .ne 6, 3) := by decide +kernel
theorem dX12_foot_12 : decode cX12_foot 12 = .ok (.bipush (-2), 2) := by decide +kernel
theorem dX12_foot_14 : decode cX12_foot 14 = .ok (.ireturn, 1) := by decide +kernel
theorem dX12_foot_15 : decode cX12_foot 15 = .ok (.aload_n 0, 1) := by decide +kernel
theorem dX12_foot_16 : decode cX12_foot 16 = .ok (.invokevirtual 383, 3) := by decide +kernel
theorem dX12_foot_19 : decode cX12_foot 19 = .ok (.aload_n 0, 1) := by decide +kernel
theorem dX12_foot_20 : decode cX12_foot 20 = .ok (.getfield 74, 3) := by decide +kernel
theorem dX12_foot_23 : decode cX12_foot 23 = .ok (.iload_n 1, 1) := by decide +kernel
theorem dX12_foot_24 : decode cX12_foot 24 = .ok (.iaload, 1) := by decide +kernel
theorem dX12_foot_25 : decode cX12_foot 25 = .ok (.sipush 1000, 3) := by decide +kernel
theorem dX12_foot_28 : decode cX12_foot 28 = .ok (.if_icmp .ge 12, 3) := by decide +kernel
theorem dX12_foot_31 : decode cX12_foot 31 = .ok (.aload_n 0, 1) := by decide +kernel
theorem dX12_foot_32 : decode cX12_foot 32 = .ok (.getfield 74, 3) := by decide +kernel
theorem dX12_foot_35 : decode cX12_foot 35 = .ok (.iload_n 1, 1) := by decide +kernel
theorem dX12_foot_36 : decode cX12_foot 36 = .ok (.iaload, 1) := by decide +kernel
theorem dX12_foot_37 : decode cX12_foot 37 = .ok (.goto 4, 3) := by decide +kernel
theorem dX12_foot_40 : decode cX12_foot 40 = .ok (.iconst (-1), 1) := by decide +kernel
theorem dX12_foot_41 : decode cX12_foot 41 = .ok (.ireturn, 1) := by decide +kernel
theorem dX12_lost_0 : decode cX12_lost 0 = .ok (.aload_n 0, 1) := by decide +kernel
theorem dX12_lost_1 : decode cX12_lost 1 = .ok (.iload_n 1, 1) := by decide +kernel
theorem dX12_lost_2 : decode cX12_lost 2 = .ok (.invokevirtual 159, 3) := by decide +kernel
theorem dX12_lost_5 : decode cX12_lost 5 = .ok (.ifCond .ne 6, 3) := by decide +kernel
theorem dX12_lost_8 : decode cX12_lost 8 = .ok (.bipush (-2), 2) := by decide +kernel
theorem dX12_lost_10 : decode cX12_lost 10 = .ok (.ireturn, 1) := by decide +kernel
theorem dX12_lost_11 : decode cX12_lost 11 = .ok (.aload_n 0, 1) := by decide +kernel
theorem dX12_lost_12 : decode cX12_lost 12 = .ok (.getfield 29, 3) := by decide +kernel
theorem dX12_lost_15 : decode cX12_lost 15 = .ok (.iload_n 1, 1) := by decide +kernel
theorem dX12_lost_16 : decode cX12_lost 16 = .ok (.iaload, 1) := by decide +kernel
theorem dX12_lost_17 : decode cX12_lost 17 = .ok (.ifCond .ne 5, 3) := by decide +kernel
theorem dX12_lost_20 : decode cX12_lost 20 = .ok (.iconst 0, 1) := by decide +kernel
theorem dX12_lost_21 : decode cX12_lost 21 = .ok (.ireturn, 1) := by decide +kernel
theorem dX12_lost_22 : decode cX12_lost 22 = .ok (.aload_n 0, 1) := by decide +kernel
theorem dX12_lost_23 : decode cX12_lost 23 = .ok (.invokevirtual 383, 3) := by decide +kernel
theorem dX12_lost_26 : decode cX12_lost 26 = .ok (.iconst 0, 1) := by decide +kernel
theorem dX12_lost_27 : decode cX12_lost 27 = .ok (.istore_n 2, 1) := by decide +kernel
theorem dX12_lost_28 : decode cX12_lost 28 = .ok (.iload_n 2, 1) := by decide +kernel
theorem dX12_lost_29 : decode cX12_lost 29 = .ok (.bipush 100, 2) := by decide +kernel
theorem dX12_lost_31 : decode cX12_lost 31 = .ok (.if_icmp .ge 21, 3) := by decide +kernel
theorem dX12_lost_34 : decode cX12_lost 34 = .ok (.aload_n 0, 1) := by decide +kernel
theorem dX12_lost_35 : decode cX12_lost 35 = .ok (.getfield 77, 3) := by decide +kernel
theorem dX12_lost_38 : decode cX12_lost 38 = .ok (.iload_n 2, 1) := by decide +kernel
theorem dX12_lost_39 : decode cX12_lost 39 = .ok (.aload_n 0, 1) := by decide +kernel
theorem dX12_lost_40 : decode cX12_lost 40 = .ok (.getfield 74, 3) := by decide +kernel
theorem dX12_lost_43 : decode cX12_lost 43 = .ok (.iload_n 2, 1) := by decide +kernel
theorem dX12_lost_44 : decode cX12_lost 44 = .ok (.iaload, 1) := by decide +kernel
theorem dX12_lost_45 : decode cX12_lost 45 = .ok (.iastore, 1) := by decide +kernel
theorem dX12_lost_46 : decode cX12_lost 46 = .ok (.iinc 2 1, 3) := by decide +kernel
theorem dX12_lost_49 : decode cX12_lost 49 = .ok (.goto (-21), 3) := by decide +kernel
theorem dX12_lost_52 : decode cX12_lost 52 = .ok (.aload_n 0, 1) := by decide +kernel
theorem dX12_lost_53 : decode cX12_lost 53 = .ok (.getfield 29, 3) := by decide +kernel
theorem dX12_lost_56 : decode cX12_lost 56 = .ok (.iload_n 1, 1) := by decide +kernel
theorem dX12_lost_57 : decode cX12_lost 57 = .ok (.iconst 0, 1) := by decide +kernel
theorem dX12_lost_58 : decode cX12_lost 58 = .ok (.iastore, 1) := by decide +kernel
theorem dX12_lost_59 : decode cX12_lost 59 = .ok (.aload_n 0, 1) := by decide +kernel
theorem dX12_lost_60 : decode cX12_lost 60 = .ok (.invokevirtual 383, 3) := by decide +kernel
theorem dX12_lost_63 : decode cX12_lost 63 = .ok (.aload_n 0, 1) := by decide +kernel
theorem dX12_lost_64 : decode cX12_lost 64 = .ok (.getfield 29, 3) := by decide +kernel
theorem dX12_lost_67 : decode cX12_lost 67 = .ok (.iload_n 1, 1) := by decide +kernel
theorem dX12_lost_68 : decode cX12_lost 68 = .ok (.iconst 1, 1) := by decide +kernel
theorem dX12_lost_69 : decode cX12_lost 69 = .ok (.iastore, 1) := by decide +kernel
theorem dX12_lost_70 : decode cX12_lost 70 = .ok (.iconst 0, 1) := by decide +kernel
theorem dX12_lost_71 : decode cX12_lost 71 = .ok (.istore_n 2, 1) := by decide +kernel
theorem dX12_lost_72 : decode cX12_lost 72 = .ok (.iconst 0, 1) := by decide +kernel
theorem dX12_lost_73 : decode cX12_lost 73 = .ok (.istore_n 3, 1) := by decide +kernel
theorem dX12_lost_74 : decode cX12_lost 74 = .ok (.iload_n 3, 1) := by decide +kernel
theorem dX12_lost_75 : decode cX12_lost 75 = .ok (.bipush 10, 2) := by decide +kernel
theorem dX12_lost_77 : decode cX12_lost 77 = .ok (.if_icmp .ge 85, 3) := by decide +kernel
theorem dX12_lost_80 : decode cX12_lost 80 = .ok (.iload_n 3, 1) := by decide +kernel
theorem dX12_lost_81 : decode cX12_lost 81 = .ok (.iconst 1, 1) := by decide +kernel
theorem dX12_lost_82 : decode cX12_lost 82 = .ok (.iadd, 1) := by decide +kernel
theorem dX12_lost_83 : decode cX12_lost 83 = .ok (.istore 4, 2) := by decide +kernel
theorem dX12_lost_85 : decode cX12_lost 85 = .ok (.iload 4, 2) := by decide +kernel
theorem dX12_lost_87 : decode cX12_lost 87 = .ok (.bipush 10, 2) := by decide +kernel
theorem dX12_lost_89 : decode cX12_lost 89 = .ok (.if_icmp .ge 67, 3) := by decide +kernel
theorem dX12_lost_92 : decode cX12_lost 92 = .ok (.bipush 10, 2) := by decide +kernel
theorem dX12_lost_94 : decode cX12_lost 94 = .ok (.iload_n 3, 1) := by decide +kernel
theorem dX12_lost_95 : decode cX12_lost 95 = .ok (.imul, 1) := by decide +kernel
theorem dX12_lost_96 : decode cX12_lost 96 = .ok (.iload 4, 2) := by decide +kernel
theorem dX12_lost_98 : decode cX12_lost 98 = .ok (.iadd, 1) := by decide +kernel
theorem dX12_lost_99 : decode cX12_lost 99 = .ok (.istore 5, 2) := by decide +kernel
theorem dX12_lost_101 : decode cX12_lost 101 = .ok (.aload_n 0, 1) := by decide +kernel
theorem dX12_lost_102 : decode cX12_lost 102 = .ok (.getfield 77, 3) := by decide +kernel
theorem dX12_lost_105 : decode cX12_lost 105 = .ok (.iload 5, 2) := by decide +kernel
theorem dX12_lost_107 : decode cX12_lost 107 = .ok (.iaload, 1) := by decide +kernel
theorem dX12_lost_108 : decode cX12_lost 108 = .ok (.sipush 1000, 3) := by decide +kernel
theorem dX12_lost_111 : decode cX12_lost 111 = .ok (.if_icmp .ge 39, 3) := by decide +kernel
theorem dX12_lost_114 : decode cX12_lost 114 = .ok (.iload_n 2, 1) := by decide +kernel
theorem dX12_lost_115 : decode cX12_lost 115 = .ok (.aload_n 0, 1) := by decide +kernel
theorem dX12_lost_116 : decode cX12_lost 116 = .ok (.getfield 74, 3) := by decide +kernel
theorem dX12_lost_119 : decode cX12_lost 119 = .ok (.iload 5, 2) := by decide +kernel
theorem dX12_lost_121 : decode cX12_lost 121 = .ok (.iaload, 1) := by decide +kernel
theorem dX12_lost_122 : decode cX12_lost 122 = .ok (.sipush 1000, 3) := by decide +kernel
theorem dX12_lost_125 : decode cX12_lost 125 = .ok (.if_icmp .ge 21, 3) := by decide +kernel
theorem dX12_lost_128 : decode cX12_lost 128 = .ok (.aload_n 0, 1) := by decide +kernel
theorem dX12_lost_129 : decode cX12_lost 129 = .ok (.getfield 74, 3) := by decide +kernel
theorem dX12_lost_132 : decode cX12_lost 132 = .ok (.iload 5, 2) := by decide +kernel
theorem dX12_lost_134 : decode cX12_lost 134 = .ok (.iaload, 1) := by decide +kernel
theorem dX12_lost_135 : decode cX12_lost 135 = .ok (.aload_n 0, 1) := by decide +kernel
theorem dX12_lost_136 : decode cX12_lost 136 = .ok (.getfield 77, 3) := by decide +kernel
theorem dX12_lost_139 : decode cX12_lost 139 = .ok (.iload 5, 2) := by decide +kernel
theorem dX12_lost_141 : decode cX12_lost 141 = .ok (.iaload, 1) := by decide +kernel
theorem dX12_lost_142 : decode cX12_lost 142 = .ok (.isub, 1) := by decide +kernel
theorem dX12_lost_143 : decode cX12_lost 143 = .ok (.goto 5, 3) := by decide +kernel
theorem dX12_lost_146 : decode cX12_lost 146 = .ok (.bipush 100, 2) := by decide +kernel
theorem dX12_lost_148 : decode cX12_lost 148 = .ok (.iadd, 1) := by decide +kernel
theorem dX12_lost_149 : decode cX12_lost 149 = .ok (.istore_n 2, 1) := by decide +kernel
theorem dX12_lost_150 : decode cX12_lost 150 = .ok (.iinc 4 1, 3) := by decide +kernel
theorem dX12_lost_153 : decode cX12_lost 153 = .ok (.goto (-68), 3) := by decide +kernel
theorem dX12_lost_156 : decode cX12_lost 156 = .ok (.iinc 3 1, 3) := by decide +kernel
theorem dX12_lost_159 : decode cX12_lost 159 = .ok (.goto (-85), 3) := by decide +kernel
theorem dX12_lost_162 : decode cX12_lost 162 = .ok (.iload_n 2, 1) := by decide +kernel
theorem dX12_lost_163 : decode cX12_lost 163 = .ok (.ireturn, 1) := by decide +kernel
theorem dX12_isBoat_0 : decode cX12_isBoat 0 = .ok (.iload_n 0, 1) := by decide +kernel
theorem dX12_isBoat_1 : decode cX12_isBoat 1 = .ok (.ifCond .lt 24, 3) := by decide +kernel
theorem dX12_isBoat_4 : decode cX12_isBoat 4 = .ok (.iload_n 0, 1) := by decide +kernel
theorem dX12_isBoat_5 : decode cX12_isBoat 5 = .ok (.bipush 10, 2) := by decide +kernel
theorem dX12_isBoat_7 : decode cX12_isBoat 7 = .ok (.idiv, 1) := by decide +kernel
theorem dX12_isBoat_8 : decode cX12_isBoat 8 = .ok (.bipush 64, 2) := by decide +kernel
theorem dX12_isBoat_10 : decode cX12_isBoat 10 = .ok (.if_icmp .ge 15, 3) := by decide +kernel
theorem dX12_isBoat_13 : decode cX12_isBoat 13 = .ok (.iload_n 0, 1) := by decide +kernel
theorem dX12_isBoat_14 : decode cX12_isBoat 14 = .ok (.bipush 10, 2) := by decide +kernel
theorem dX12_isBoat_16 : decode cX12_isBoat 16 = .ok (.irem, 1) := by decide +kernel
theorem dX12_isBoat_17 : decode cX12_isBoat 17 = .ok (.iconst 3, 1) := by decide +kernel
theorem dX12_isBoat_18 : decode cX12_isBoat 18 = .ok (.if_icmp .ge 7, 3) := by decide +kernel
theorem dX12_isBoat_21 : decode cX12_isBoat 21 = .ok (.iconst 1, 1) := by decide +kernel
theorem dX12_isBoat_22 : decode cX12_isBoat 22 = .ok (.goto 4, 3) := by decide +kernel
theorem dX12_isBoat_25 : decode cX12_isBoat 25 = .ok (.iconst 0, 1) := by decide +kernel
theorem dX12_isBoat_26 : decode cX12_isBoat 26 = .ok (.ireturn, 1) := by decide +kernel
theorem dX12_onward_0 : decode cX12_onward 0 = .ok (.iload_n 0, 1) := by decide +kernel
theorem dX12_onward_1 : decode cX12_onward 1 = .ok (.iload_n 1, 1) := by decide +kernel
theorem dX12_onward_2 : decode cX12_onward 2 = .ok (.iadd, 1) := by decide +kernel
theorem dX12_onward_3 : decode cX12_onward 3 = .ok (.i2l, 1) := by decide +kernel
theorem dX12_onward_4 : decode cX12_onward 4 = .ok (.lconst 0, 1) := by decide +kernel
theorem dX12_onward_5 : decode cX12_onward 5 = .ok (.ldc2_w 386, 3) := by decide +kernel
theorem dX12_onward_8 : decode cX12_onward 8 = .ok (.invokestatic 134, 3) := by decide +kernel
theorem dX12_onward_11 : decode cX12_onward 11 = .ok (.ifCond .eq 7, 3) := by decide +kernel
theorem dX12_onward_14 : decode cX12_onward 14 = .ok (.iload_n 1, 1) := by decide +kernel
theorem dX12_onward_15 : decode cX12_onward 15 = .ok (.goto 5, 3) := by decide +kernel
theorem dX12_onward_18 : decode cX12_onward 18 = .ok (.iload_n 1, 1) := by decide +kernel
theorem dX12_onward_19 : decode cX12_onward 19 = .ok (.ineg, 1) := by decide +kernel
theorem dX12_onward_20 : decode cX12_onward 20 = .ok (.ireturn, 1) := by decide +kernel
theorem dX12_fog_0 : decode cX12_fog 0 = .ok (.iload_n 1, 1) := by decide +kernel
theorem dX12_fog_1 : decode cX12_fog 1 = .ok (.invokestatic 388, 3) := by decide +kernel
theorem dX12_fog_4 : decode cX12_fog 4 = .ok (.ifCond .eq 37, 3) := by decide +kernel
theorem dX12_fog_7 : decode cX12_fog 7 = .ok (.iload_n 2, 1) := by decide +kernel
theorem dX12_fog_8 : decode cX12_fog 8 = .ok (.invokestatic 388, 3) := by decide +kernel
theorem dX12_fog_11 : decode cX12_fog 11 = .ok (.ifCond .eq 30, 3) := by decide +kernel
theorem dX12_fog_14 : decode cX12_fog 14 = .ok (.iload_n 3, 1) := by decide +kernel
theorem dX12_fog_15 : decode cX12_fog 15 = .ok (.i2l, 1) := by decide +kernel
theorem dX12_fog_16 : decode cX12_fog 16 = .ok (.ldc2_w 239, 3) := by decide +kernel
theorem dX12_fog_19 : decode cX12_fog 19 = .ok (.ldc2_w 143, 3) := by decide +kernel
theorem dX12_fog_22 : decode cX12_fog 22 = .ok (.invokestatic 134, 3) := by decide +kernel
theorem dX12_fog_25 : decode cX12_fog 25 = .ok (.ifCond .eq 16, 3) := by decide +kernel
theorem dX12_fog_28 : decode cX12_fog 28 = .ok (.iload 4, 2) := by decide +kernel
theorem dX12_fog_30 : decode cX12_fog 30 = .ok (.i2l, 1) := by decide +kernel
theorem dX12_fog_31 : decode cX12_fog 31 = .ok (.lconst 0, 1) := by decide +kernel
theorem dX12_fog_32 : decode cX12_fog 32 = .ok (.ldc2_w 381, 3) := by decide +kernel
theorem dX12_fog_35 : decode cX12_fog 35 = .ok (.invokestatic 134, 3) := by decide +kernel
theorem dX12_fog_38 : decode cX12_fog 38 = .ok (.ifCond .ne 6, 3) := by decide +kernel
theorem dX12_fog_41 : decode cX12_fog 41 = .ok (.bipush (-2), 2) := by decide +kernel
theorem dX12_fog_43 : decode cX12_fog 43 = .ok (.ireturn, 1) := by decide +kernel
theorem dX12_fog_44 : decode cX12_fog 44 = .ok (.iload_n 1, 1) := by decide +kernel
theorem dX12_fog_45 : decode cX12_fog 45 = .ok (.bipush 10, 2) := by decide +kernel
theorem dX12_fog_47 : decode cX12_fog 47 = .ok (.idiv, 1) := by decide +kernel
theorem dX12_fog_48 : decode cX12_fog 48 = .ok (.istore 5, 2) := by decide +kernel
theorem dX12_fog_50 : decode cX12_fog 50 = .ok (.iload_n 2, 1) := by decide +kernel
theorem dX12_fog_51 : decode cX12_fog 51 = .ok (.bipush 10, 2) := by decide +kernel
theorem dX12_fog_53 : decode cX12_fog 53 = .ok (.idiv, 1) := by decide +kernel
theorem dX12_fog_54 : decode cX12_fog 54 = .ok (.istore 6, 2) := by decide +kernel
theorem dX12_fog_56 : decode cX12_fog 56 = .ok (.iload_n 1, 1) := by decide +kernel
theorem dX12_fog_57 : decode cX12_fog 57 = .ok (.bipush 10, 2) := by decide +kernel
theorem dX12_fog_59 : decode cX12_fog 59 = .ok (.irem, 1) := by decide +kernel
theorem dX12_fog_60 : decode cX12_fog 60 = .ok (.iconst 1, 1) := by decide +kernel
theorem dX12_fog_61 : decode cX12_fog 61 = .ok (.isub, 1) := by decide +kernel
theorem dX12_fog_62 : decode cX12_fog 62 = .ok (.istore 7, 2) := by decide +kernel
theorem dX12_fog_64 : decode cX12_fog 64 = .ok (.iload_n 2, 1) := by decide +kernel
theorem dX12_fog_65 : decode cX12_fog 65 = .ok (.bipush 10, 2) := by decide +kernel
theorem dX12_fog_67 : decode cX12_fog 67 = .ok (.irem, 1) := by decide +kernel
theorem dX12_fog_68 : decode cX12_fog 68 = .ok (.iconst 1, 1) := by decide +kernel
theorem dX12_fog_69 : decode cX12_fog 69 = .ok (.isub, 1) := by decide +kernel
theorem dX12_fog_70 : decode cX12_fog 70 = .ok (.istore 8, 2) := by decide +kernel
theorem dX12_fog_72 : decode cX12_fog 72 = .ok (.iload 5, 2) := by decide +kernel
theorem dX12_fog_74 : decode cX12_fog 74 = .ok (.iload 6, 2) := by decide +kernel
theorem dX12_fog_76 : decode cX12_fog 76 = .ok (.isub, 1) := by decide +kernel
theorem dX12_fog_77 : decode cX12_fog 77 = .ok (.invokestatic 391, 3) := by decide +kernel
theorem dX12_fog_80 : decode cX12_fog 80 = .ok (.istore 9, 2) := by decide +kernel
theorem dX12_fog_82 : decode cX12_fog 82 = .ok (.iconst 0, 1) := by decide +kernel
theorem dX12_fog_83 : decode cX12_fog 83 = .ok (.istore 10, 2) := by decide +kernel
theorem dX12_fog_85 : decode cX12_fog 85 = .ok (.iload 5, 2) := by decide +kernel
theorem dX12_fog_87 : decode cX12_fog 87 = .ok (.iload 6, 2) := by decide +kernel
theorem dX12_fog_89 : decode cX12_fog 89 = .ok (.if_icmp .ne 7, 3) := by decide +kernel
theorem dX12_fog_92 : decode cX12_fog 92 = .ok (.iconst 1, 1) := by decide +kernel
theorem dX12_fog_93 : decode cX12_fog 93 = .ok (.goto 4, 3) := by decide +kernel
theorem dX12_fog_96 : decode cX12_fog 96 = .ok (.iconst 0, 1) := by decide +kernel
theorem dX12_fog_97 : decode cX12_fog 97 = .ok (.istore 11, 2) := by decide +kernel
theorem dX12_fog_99 : decode cX12_fog 99 = .ok (.iconst 1, 1) := by decide +kernel
theorem dX12_fog_100 : decode cX12_fog 100 = .ok (.istore 12, 2) := by decide +kernel
theorem dX12_fog_102 : decode cX12_fog 102 = .ok (.iload 12, 2) := by decide +kernel
theorem dX12_fog_104 : decode cX12_fog 104 = .ok (.bipush 60, 2) := by decide +kernel
theorem dX12_fog_106 : decode cX12_fog 106 = .ok (.if_icmp .gt 144, 3) := by decide +kernel
theorem dX12_fog_109 : decode cX12_fog 109 = .ok (.iload 5, 2) := by decide +kernel
theorem dX12_fog_111 : decode cX12_fog 111 = .ok (.iload 7, 2) := by decide +kernel
theorem dX12_fog_113 : decode cX12_fog 113 = .ok (.invokestatic 394, 3) := by decide +kernel
theorem dX12_fog_116 : decode cX12_fog 116 = .ok (.istore 7, 2) := by decide +kernel
theorem dX12_fog_118 : decode cX12_fog 118 = .ok (.iload 6, 2) := by decide +kernel
theorem dX12_fog_120 : decode cX12_fog 120 = .ok (.iload 8, 2) := by decide +kernel
theorem dX12_fog_122 : decode cX12_fog 122 = .ok (.invokestatic 394, 3) := by decide +kernel
theorem dX12_fog_125 : decode cX12_fog 125 = .ok (.istore 8, 2) := by decide +kernel
theorem dX12_fog_127 : decode cX12_fog 127 = .ok (.iload 11, 2) := by decide +kernel
theorem dX12_fog_129 : decode cX12_fog 129 = .ok (.ifCond .ne 28, 3) := by decide +kernel
theorem dX12_fog_132 : decode cX12_fog 132 = .ok (.iload 7, 2) := by decide +kernel
theorem dX12_fog_134 : decode cX12_fog 134 = .ok (.ifCond .eq 27, 3) := by decide +kernel
theorem dX12_fog_137 : decode cX12_fog 137 = .ok (.iload 5, 2) := by decide +kernel
theorem dX12_fog_139 : decode cX12_fog 139 = .ok (.iload 7, 2) := by decide +kernel
theorem dX12_fog_141 : decode cX12_fog 141 = .ok (.iadd, 1) := by decide +kernel
theorem dX12_fog_142 : decode cX12_fog 142 = .ok (.iload 6, 2) := by decide +kernel
theorem dX12_fog_144 : decode cX12_fog 144 = .ok (.if_icmp .ne 17, 3) := by decide +kernel
theorem dX12_fog_147 : decode cX12_fog 147 = .ok (.iload 6, 2) := by decide +kernel
theorem dX12_fog_149 : decode cX12_fog 149 = .ok (.iload 8, 2) := by decide +kernel
theorem dX12_fog_151 : decode cX12_fog 151 = .ok (.iadd, 1) := by decide +kernel
theorem dX12_fog_152 : decode cX12_fog 152 = .ok (.iload 5, 2) := by decide +kernel
theorem dX12_fog_154 : decode cX12_fog 154 = .ok (.if_icmp .ne 7, 3) := by decide +kernel
theorem dX12_fog_157 : decode cX12_fog 157 = .ok (.iconst 1, 1) := by decide +kernel
theorem dX12_fog_158 : decode cX12_fog 158 = .ok (.goto 4, 3) := by decide +kernel
theorem dX12_fog_161 : decode cX12_fog 161 = .ok (.iconst 0, 1) := by decide +kernel
theorem dX12_fog_162 : decode cX12_fog 162 = .ok (.istore 11, 2) := by decide +kernel
theorem dX12_fog_164 : decode cX12_fog 164 = .ok (.iload 5, 2) := by decide +kernel
theorem dX12_fog_166 : decode cX12_fog 166 = .ok (.iload 7, 2) := by decide +kernel
theorem dX12_fog_168 : decode cX12_fog 168 = .ok (.iadd, 1) := by decide +kernel
theorem dX12_fog_169 : decode cX12_fog 169 = .ok (.istore 5, 2) := by decide +kernel
theorem dX12_fog_171 : decode cX12_fog 171 = .ok (.iload 6, 2) := by decide +kernel
theorem dX12_fog_173 : decode cX12_fog 173 = .ok (.iload 8, 2) := by decide +kernel
theorem dX12_fog_175 : decode cX12_fog 175 = .ok (.iadd, 1) := by decide +kernel
theorem dX12_fog_176 : decode cX12_fog 176 = .ok (.istore 6, 2) := by decide +kernel
theorem dX12_fog_178 : decode cX12_fog 178 = .ok (.iload 11, 2) := by decide +kernel
theorem dX12_fog_180 : decode cX12_fog 180 = .ok (.ifCond .ne 10, 3) := by decide +kernel
theorem dX12_fog_183 : decode cX12_fog 183 = .ok (.iload 5, 2) := by decide +kernel
theorem dX12_fog_185 : decode cX12_fog 185 = .ok (.iload 6, 2) := by decide +kernel
theorem dX12_fog_187 : decode cX12_fog 187 = .ok (.if_icmp .ne 7, 3) := by decide +kernel
theorem dX12_fog_190 : decode cX12_fog 190 = .ok (.iconst 1, 1) := by decide +kernel
theorem dX12_fog_191 : decode cX12_fog 191 = .ok (.goto 4, 3) := by decide +kernel
theorem dX12_fog_194 : decode cX12_fog 194 = .ok (.iconst 0, 1) := by decide +kernel
theorem dX12_fog_195 : decode cX12_fog 195 = .ok (.istore 11, 2) := by decide +kernel
theorem dX12_fog_197 : decode cX12_fog 197 = .ok (.iload 5, 2) := by decide +kernel
theorem dX12_fog_199 : decode cX12_fog 199 = .ok (.iload 6, 2) := by decide +kernel
theorem dX12_fog_201 : decode cX12_fog 201 = .ok (.isub, 1) := by decide +kernel
theorem dX12_fog_202 : decode cX12_fog 202 = .ok (.invokestatic 391, 3) := by decide +kernel
theorem dX12_fog_205 : decode cX12_fog 205 = .ok (.istore 13, 2) := by decide +kernel
theorem dX12_fog_207 : decode cX12_fog 207 = .ok (.iload 13, 2) := by decide +kernel
theorem dX12_fog_209 : decode cX12_fog 209 = .ok (.iload 9, 2) := by decide +kernel
theorem dX12_fog_211 : decode cX12_fog 211 = .ok (.if_icmp .ge 11, 3) := by decide +kernel
theorem dX12_fog_214 : decode cX12_fog 214 = .ok (.iload 13, 2) := by decide +kernel
theorem dX12_fog_216 : decode cX12_fog 216 = .ok (.istore 9, 2) := by decide +kernel
theorem dX12_fog_218 : decode cX12_fog 218 = .ok (.iload 12, 2) := by decide +kernel
theorem dX12_fog_220 : decode cX12_fog 220 = .ok (.istore 10, 2) := by decide +kernel
theorem dX12_fog_222 : decode cX12_fog 222 = .ok (.iload 12, 2) := by decide +kernel
theorem dX12_fog_224 : decode cX12_fog 224 = .ok (.iload_n 3, 1) := by decide +kernel
theorem dX12_fog_225 : decode cX12_fog 225 = .ok (.bipush 10, 2) := by decide +kernel
theorem dX12_fog_227 : decode cX12_fog 227 = .ok (.idiv, 1) := by decide +kernel
theorem dX12_fog_228 : decode cX12_fog 228 = .ok (.irem, 1) := by decide +kernel
theorem dX12_fog_229 : decode cX12_fog 229 = .ok (.ifCond .ne 15, 3) := by decide +kernel
theorem dX12_fog_232 : decode cX12_fog 232 = .ok (.iload 13, 2) := by decide +kernel
theorem dX12_fog_234 : decode cX12_fog 234 = .ok (.iload_n 3, 1) := by decide +kernel
theorem dX12_fog_235 : decode cX12_fog 235 = .ok (.bipush 10, 2) := by decide +kernel
theorem dX12_fog_237 : decode cX12_fog 237 = .ok (.irem, 1) := by decide +kernel
theorem dX12_fog_238 : decode cX12_fog 238 = .ok (.if_icmp .gt 6, 3) := by decide +kernel
theorem dX12_fog_241 : decode cX12_fog 241 = .ok (.iconst 0, 1) := by decide +kernel
theorem dX12_fog_242 : decode cX12_fog 242 = .ok (.istore 8, 2) := by decide +kernel
theorem dX12_fog_244 : decode cX12_fog 244 = .ok (.iinc 12 1, 3) := by decide +kernel
theorem dX12_fog_247 : decode cX12_fog 247 = .ok (.goto (-145), 3) := by decide +kernel
theorem dX12_fog_250 : decode cX12_fog 250 = .ok (.iload 4, 2) := by decide +kernel
theorem dX12_fog_252 : decode cX12_fog 252 = .ok (.ifCond .ne 8, 3) := by decide +kernel
theorem dX12_fog_255 : decode cX12_fog 255 = .ok (.iload 9, 2) := by decide +kernel
theorem dX12_fog_257 : decode cX12_fog 257 = .ok (.goto 24, 3) := by decide +kernel
theorem dX12_fog_260 : decode cX12_fog 260 = .ok (.iload 4, 2) := by decide +kernel
theorem dX12_fog_262 : decode cX12_fog 262 = .ok (.iconst 1, 1) := by decide +kernel
theorem dX12_fog_263 : decode cX12_fog 263 = .ok (.if_icmp .ne 8, 3) := by decide +kernel
theorem dX12_fog_266 : decode cX12_fog 266 = .ok (.iload 10, 2) := by decide +kernel
theorem dX12_fog_268 : decode cX12_fog 268 = .ok (.goto 13, 3) := by decide +kernel
theorem dX12_fog_271 : decode cX12_fog 271 = .ok (.iload 11, 2) := by decide +kernel
theorem dX12_fog_273 : decode cX12_fog 273 = .ok (.ifCond .eq 7, 3) := by decide +kernel
theorem dX12_fog_276 : decode cX12_fog 276 = .ok (.iconst 1, 1) := by decide +kernel
theorem dX12_fog_277 : decode cX12_fog 277 = .ok (.goto 4, 3) := by decide +kernel
theorem dX12_fog_280 : decode cX12_fog 280 = .ok (.iconst 0, 1) := by decide +kernel
theorem dX12_fog_281 : decode cX12_fog 281 = .ok (.ireturn, 1) := by decide +kernel
theorem dX12_plain_0 : decode cX12_plain 0 = .ok (.iload_n 0, 1) := by decide +kernel
theorem dX12_plain_1 : decode cX12_plain 1 = .ok (.ifCond .ge 8, 3) := by decide +kernel
theorem dX12_plain_4 : decode cX12_plain 4 = .ok (.iload_n 0, 1) := by decide +kernel
theorem dX12_plain_5 : decode cX12_plain 5 = .ok (.ineg, 1) := by decide +kernel
theorem dX12_plain_6 : decode cX12_plain 6 = .ok (.goto 4, 3) := by decide +kernel
theorem dX12_plain_9 : decode cX12_plain 9 = .ok (.iload_n 0, 1) := by decide +kernel
theorem dX12_plain_10 : decode cX12_plain 10 = .ok (.ireturn, 1) := by decide +kernel
theorem dX12_priceOf_0 : decode cX12_priceOf 0 = .ok (.aload_n 0, 1) := by decide +kernel
theorem dX12_priceOf_1 : decode cX12_priceOf 1 = .ok (.aload_n 0, 1) := by decide +kernel
theorem dX12_priceOf_2 : decode cX12_priceOf 2 = .ok (.getfield 332, 3) := by decide +kernel
theorem dX12_priceOf_5 : decode cX12_priceOf 5 = .ok (.iload_n 1, 1) := by decide +kernel
theorem dX12_priceOf_6 : decode cX12_priceOf 6 = .ok (.iconst 0, 1) := by decide +kernel
theorem dX12_priceOf_7 : decode cX12_priceOf 7 = .ok (.iload_n 2, 1) := by decide +kernel
theorem dX12_priceOf_8 : decode cX12_priceOf 8 = .ok (.iconst 0, 1) := by decide +kernel
theorem dX12_priceOf_9 : decode cX12_priceOf 9 = .ok (.iconst 1, 1) := by decide +kernel
theorem dX12_priceOf_10 : decode cX12_priceOf 10 = .ok (.invokevirtual 335, 3) := by decide +kernel
theorem dX12_priceOf_13 : decode cX12_priceOf 13 = .ok (.iconst 0, 1) := by decide +kernel
theorem dX12_priceOf_14 : decode cX12_priceOf 14 = .ok (.bipush 99, 2) := by decide +kernel
theorem dX12_priceOf_16 : decode cX12_priceOf 16 = .ok (.invokestatic 342, 3) := by decide +kernel
theorem dX12_priceOf_19 : decode cX12_priceOf 19 = .ok (.ireturn, 1) := by decide +kernel
theorem dX12_box_0 : decode cX12_box 0 = .ok (.iload_n 1, 1) := by decide +kernel
theorem dX12_box_1 : decode cX12_box 1 = .ok (.ifCond .lt 57, 3) := by decide +kernel
theorem dX12_box_4 : decode cX12_box 4 = .ok (.iload_n 1, 1) := by decide +kernel
theorem dX12_box_5 : decode cX12_box 5 = .ok (.sipush 1000, 3) := by decide +kernel
theorem dX12_box_8 : decode cX12_box 8 = .ok (.idiv, 1) := by decide +kernel
theorem dX12_box_9 : decode cX12_box 9 = .ok (.sipush 198, 3) := by decide +kernel
theorem dX12_box_12 : decode cX12_box 12 = .ok (.if_icmp .gt 46, 3) := by decide +kernel
theorem dX12_box_15 : decode cX12_box 15 = .ok (.iload_n 1, 1) := by decide +kernel
theorem dX12_box_16 : decode cX12_box 16 = .ok (.sipush 1000, 3) := by decide +kernel
theorem dX12_box_19 : decode cX12_box 19 = .ok (.irem, 1) := by decide +kernel
theorem dX12_box_20 : decode cX12_box 20 = .ok (.sipush 198, 3) := by decide +kernel
theorem dX12_box_23 : decode cX12_box 23 = .ok (.if_icmp .gt 35, 3) := by decide +kernel
theorem dX12_box_26 : decode cX12_box 26 = .ok (.iload_n 2, 1) := by decide +kernel
theorem dX12_box_27 : decode cX12_box 27 = .ok (.i2l, 1) := by decide +kernel
theorem dX12_box_28 : decode cX12_box 28 = .ok (.lconst 0, 1) := by decide +kernel
theorem dX12_box_29 : decode cX12_box 29 = .ok (.ldc2_w 151, 3) := by decide +kernel
theorem dX12_box_32 : decode cX12_box 32 = .ok (.invokestatic 134, 3) := by decide +kernel
theorem dX12_box_35 : decode cX12_box 35 = .ok (.ifCond .eq 23, 3) := by decide +kernel
theorem dX12_box_38 : decode cX12_box 38 = .ok (.iload_n 3, 1) := by decide +kernel
theorem dX12_box_39 : decode cX12_box 39 = .ok (.i2l, 1) := by decide +kernel
theorem dX12_box_40 : decode cX12_box 40 = .ok (.lconst 0, 1) := by decide +kernel
theorem dX12_box_41 : decode cX12_box 41 = .ok (.ldc2_w 397, 3) := by decide +kernel
theorem dX12_box_44 : decode cX12_box 44 = .ok (.invokestatic 134, 3) := by decide +kernel
theorem dX12_box_47 : decode cX12_box 47 = .ok (.ifCond .eq 11, 3) := by decide +kernel
theorem dX12_box_50 : decode cX12_box 50 = .ok (.iload 4, 2) := by decide +kernel
theorem dX12_box_52 : decode cX12_box 52 = .ok (.invokestatic 179, 3) := by decide +kernel
theorem dX12_box_55 : decode cX12_box 55 = .ok (.ifCond .ne 6, 3) := by decide +kernel
theorem dX12_box_58 : decode cX12_box 58 = .ok (.bipush (-2), 2) := by decide +kernel
theorem dX12_box_60 : decode cX12_box 60 = .ok (.ireturn, 1) := by decide +kernel
theorem dX12_box_61 : decode cX12_box 61 = .ok (.aload_n 0, 1) := by decide +kernel
theorem dX12_box_62 : decode cX12_box 62 = .ok (.iconst 1, 1) := by decide +kernel
theorem dX12_box_63 : decode cX12_box 63 = .ok (.iload 4, 2) := by decide +kernel
theorem dX12_box_65 : decode cX12_box 65 = .ok (.invokevirtual 399, 3) := by decide +kernel
theorem dX12_box_68 : decode cX12_box 68 = .ok (.istore 5, 2) := by decide +kernel
theorem dX12_box_70 : decode cX12_box 70 = .ok (.aload_n 0, 1) := by decide +kernel
theorem dX12_box_71 : decode cX12_box 71 = .ok (.iconst 0, 1) := by decide +kernel
theorem dX12_box_72 : decode cX12_box 72 = .ok (.iload 4, 2) := by decide +kernel
theorem dX12_box_74 : decode cX12_box 74 = .ok (.invokevirtual 399, 3) := by decide +kernel
theorem dX12_box_77 : decode cX12_box 77 = .ok (.istore 6, 2) := by decide +kernel
theorem dX12_box_79 : decode cX12_box 79 = .ok (.iconst 0, 1) := by decide +kernel
theorem dX12_box_80 : decode cX12_box 80 = .ok (.istore 7, 2) := by decide +kernel
theorem dX12_box_82 : decode cX12_box 82 = .ok (.iconst 0, 1) := by decide +kernel
theorem dX12_box_83 : decode cX12_box 83 = .ok (.istore 8, 2) := by decide +kernel
theorem dX12_box_85 : decode cX12_box 85 = .ok (.iload 8, 2) := by decide +kernel
theorem dX12_box_87 : decode cX12_box 87 = .ok (.bipush 100, 2) := by decide +kernel
theorem dX12_box_89 : decode cX12_box 89 = .ok (.if_icmp .ge 98, 3) := by decide +kernel
theorem dX12_box_92 : decode cX12_box 92 = .ok (.iconst 0, 1) := by decide +kernel
theorem dX12_box_93 : decode cX12_box 93 = .ok (.istore 9, 2) := by decide +kernel
theorem dX12_box_95 : decode cX12_box 95 = .ok (.iload 9, 2) := by decide +kernel
theorem dX12_box_97 : decode cX12_box 97 = .ok (.bipush 100, 2) := by decide +kernel
theorem dX12_box_99 : decode cX12_box 99 = .ok (.if_icmp .ge 82, 3) := by decide +kernel
theorem dX12_box_102 : decode cX12_box 102 = .ok (.iload 8, 2) := by decide +kernel
theorem dX12_box_104 : decode cX12_box 104 = .ok (.iload 9, 2) := by decide +kernel
theorem dX12_box_106 : decode cX12_box 106 = .ok (.iadd, 1) := by decide +kernel
theorem dX12_box_107 : decode cX12_box 107 = .ok (.iload_n 1, 1) := by decide +kernel
theorem dX12_box_108 : decode cX12_box 108 = .ok (.sipush 1000, 3) := by decide +kernel
theorem dX12_box_111 : decode cX12_box 111 = .ok (.idiv, 1) := by decide +kernel
theorem dX12_box_112 : decode cX12_box 112 = .ok (.isub, 1) := by decide +kernel
theorem dX12_box_113 : decode cX12_box 113 = .ok (.invokestatic 391, 3) := by decide +kernel
theorem dX12_box_116 : decode cX12_box 116 = .ok (.iload_n 2, 1) := by decide +kernel
theorem dX12_box_117 : decode cX12_box 117 = .ok (.if_icmp .gt 25, 3) := by decide +kernel
theorem dX12_box_120 : decode cX12_box 120 = .ok (.iload 8, 2) := by decide +kernel
theorem dX12_box_122 : decode cX12_box 122 = .ok (.iload 9, 2) := by decide +kernel
theorem dX12_box_124 : decode cX12_box 124 = .ok (.iadd, 1) := by decide +kernel
theorem dX12_box_125 : decode cX12_box 125 = .ok (.iload_n 1, 1) := by decide +kernel
theorem dX12_box_126 : decode cX12_box 126 = .ok (.sipush 1000, 3) := by decide +kernel
theorem dX12_box_129 : decode cX12_box 129 = .ok (.irem, 1) := by decide +kernel
theorem dX12_box_130 : decode cX12_box 130 = .ok (.isub, 1) := by decide +kernel
theorem dX12_box_131 : decode cX12_box 131 = .ok (.invokestatic 391, 3) := by decide +kernel
theorem dX12_box_134 : decode cX12_box 134 = .ok (.iload_n 2, 1) := by decide +kernel
theorem dX12_box_135 : decode cX12_box 135 = .ok (.if_icmp .gt 7, 3) := by decide +kernel
theorem dX12_box_138 : decode cX12_box 138 = .ok (.iconst 1, 1) := by decide +kernel
theorem dX12_box_139 : decode cX12_box 139 = .ok (.goto 4, 3) := by decide +kernel
theorem dX12_box_142 : decode cX12_box 142 = .ok (.iconst 0, 1) := by decide +kernel
theorem dX12_box_143 : decode cX12_box 143 = .ok (.istore 10, 2) := by decide +kernel
theorem dX12_box_145 : decode cX12_box 145 = .ok (.iload 7, 2) := by decide +kernel
theorem dX12_box_147 : decode cX12_box 147 = .ok (.iload 10, 2) := by decide +kernel
theorem dX12_box_149 : decode cX12_box 149 = .ok (.ifCond .eq 22, 3) := by decide +kernel
theorem dX12_box_152 : decode cX12_box 152 = .ok (.iload 8, 2) := by decide +kernel
theorem dX12_box_154 : decode cX12_box 154 = .ok (.iload 5, 2) := by decide +kernel
theorem dX12_box_156 : decode cX12_box 156 = .ok (.imul, 1) := by decide +kernel
theorem dX12_box_157 : decode cX12_box 157 = .ok (.iload 9, 2) := by decide +kernel
theorem dX12_box_159 : decode cX12_box 159 = .ok (.iload 6, 2) := by decide +kernel
theorem dX12_box_161 : decode cX12_box 161 = .ok (.imul, 1) := by decide +kernel
theorem dX12_box_162 : decode cX12_box 162 = .ok (.iadd, 1) := by decide +kernel
theorem dX12_box_163 : decode cX12_box 163 = .ok (.iload_n 3, 1) := by decide +kernel
theorem dX12_box_164 : decode cX12_box 164 = .ok (.if_icmp .ne 7, 3) := by decide +kernel
theorem dX12_box_167 : decode cX12_box 167 = .ok (.iconst 1, 1) := by decide +kernel
theorem dX12_box_168 : decode cX12_box 168 = .ok (.goto 4, 3) := by decide +kernel
theorem dX12_box_171 : decode cX12_box 171 = .ok (.iconst 0, 1) := by decide +kernel
theorem dX12_box_172 : decode cX12_box 172 = .ok (.iadd, 1) := by decide +kernel
theorem dX12_box_173 : decode cX12_box 173 = .ok (.istore 7, 2) := by decide +kernel
theorem dX12_box_175 : decode cX12_box 175 = .ok (.iinc 9 1, 3) := by decide +kernel
theorem dX12_box_178 : decode cX12_box 178 = .ok (.goto (-83), 3) := by decide +kernel
theorem dX12_box_181 : decode cX12_box 181 = .ok (.iinc 8 1, 3) := by decide +kernel
theorem dX12_box_184 : decode cX12_box 184 = .ok (.goto (-99), 3) := by decide +kernel
theorem dX12_box_187 : decode cX12_box 187 = .ok (.iload 7, 2) := by decide +kernel
theorem dX12_box_189 : decode cX12_box 189 = .ok (.ireturn, 1) := by decide +kernel
theorem dX12_shares_0 : decode cX12_shares 0 = .ok (.aload_n 0, 1) := by decide +kernel
theorem dX12_shares_1 : decode cX12_shares 1 = .ok (.iload_n 1, 1) := by decide +kernel
theorem dX12_shares_2 : decode cX12_shares 2 = .ok (.invokevirtual 159, 3) := by decide +kernel
theorem dX12_shares_5 : decode cX12_shares 5 = .ok (.ifCond .eq 38, 3) := by decide +kernel
theorem dX12_shares_8 : decode cX12_shares 8 = .ok (.iload_n 2, 1) := by decide +kernel
theorem dX12_shares_9 : decode cX12_shares 9 = .ok (.i2l, 1) := by decide +kernel
theorem dX12_shares_10 : decode cX12_shares 10 = .ok (.lconst 0, 1) := by decide +kernel
theorem dX12_shares_11 : decode cX12_shares 11 = .ok (.ldc2_w 397, 3) := by decide +kernel
theorem dX12_shares_14 : decode cX12_shares 14 = .ok (.invokestatic 134, 3) := by decide +kernel
theorem dX12_shares_17 : decode cX12_shares 17 = .ok (.ifCond .eq 26, 3) := by decide +kernel
theorem dX12_shares_20 : decode cX12_shares 20 = .ok (.iload_n 3, 1) := by decide +kernel
theorem dX12_shares_21 : decode cX12_shares 21 = .ok (.iconst (-1), 1) := by decide +kernel
theorem dX12_shares_22 : decode cX12_shares 22 = .ok (.if_icmp .eq 24, 3) := by decide +kernel
theorem dX12_shares_25 : decode cX12_shares 25 = .ok (.aload_n 0, 1) := by decide +kernel
theorem dX12_shares_26 : decode cX12_shares 26 = .ok (.iload_n 3, 1) := by decide +kernel
theorem dX12_shares_27 : decode cX12_shares 27 = .ok (.invokevirtual 170, 3) := by decide +kernel
theorem dX12_shares_30 : decode cX12_shares 30 = .ok (.ifCond .eq 13, 3) := by decide +kernel
theorem dX12_shares_33 : decode cX12_shares 33 = .ok (.aload_n 0, 1) := by decide +kernel
theorem dX12_shares_34 : decode cX12_shares 34 = .ok (.getfield 44, 3) := by decide +kernel
theorem dX12_shares_37 : decode cX12_shares 37 = .ok (.iload_n 3, 1) := by decide +kernel
theorem dX12_shares_38 : decode cX12_shares 38 = .ok (.iaload, 1) := by decide +kernel
theorem dX12_shares_39 : decode cX12_shares 39 = .ok (.iload_n 1, 1) := by decide +kernel
theorem dX12_shares_40 : decode cX12_shares 40 = .ok (.if_icmp .eq 6, 3) := by decide +kernel
theorem dX12_shares_43 : decode cX12_shares 43 = .ok (.bipush (-2), 2) := by decide +kernel
theorem dX12_shares_45 : decode cX12_shares 45 = .ok (.ireturn, 1) := by decide +kernel
theorem dX12_shares_46 : decode cX12_shares 46 = .ok (.iconst 0, 1) := by decide +kernel
theorem dX12_shares_47 : decode cX12_shares 47 = .ok (.istore 4, 2) := by decide +kernel
theorem dX12_shares_49 : decode cX12_shares 49 = .ok (.iconst 0, 1) := by decide +kernel
theorem dX12_shares_50 : decode cX12_shares 50 = .ok (.istore 5, 2) := by decide +kernel
theorem dX12_shares_52 : decode cX12_shares 52 = .ok (.iload 5, 2) := by decide +kernel
theorem dX12_shares_54 : decode cX12_shares 54 = .ok (.aload_n 0, 1) := by decide +kernel
theorem dX12_shares_55 : decode cX12_shares 55 = .ok (.getfield 138, 3) := by decide +kernel
theorem dX12_shares_58 : decode cX12_shares 58 = .ok (.if_icmp .ge 35, 3) := by decide +kernel
theorem dX12_shares_61 : decode cX12_shares 61 = .ok (.iload 4, 2) := by decide +kernel
theorem dX12_shares_63 : decode cX12_shares 63 = .ok (.aload_n 0, 1) := by decide +kernel
theorem dX12_shares_64 : decode cX12_shares 64 = .ok (.getfield 44, 3) := by decide +kernel
theorem dX12_shares_67 : decode cX12_shares 67 = .ok (.iload 5, 2) := by decide +kernel
theorem dX12_shares_69 : decode cX12_shares 69 = .ok (.iaload, 1) := by decide +kernel
theorem dX12_shares_70 : decode cX12_shares 70 = .ok (.iload_n 1, 1) := by decide +kernel
theorem dX12_shares_71 : decode cX12_shares 71 = .ok (.if_icmp .ne 12, 3) := by decide +kernel
theorem dX12_shares_74 : decode cX12_shares 74 = .ok (.aload_n 0, 1) := by decide +kernel
theorem dX12_shares_75 : decode cX12_shares 75 = .ok (.iload 5, 2) := by decide +kernel
theorem dX12_shares_77 : decode cX12_shares 77 = .ok (.invokevirtual 191, 3) := by decide +kernel
theorem dX12_shares_80 : decode cX12_shares 80 = .ok (.goto 4, 3) := by decide +kernel
theorem dX12_shares_83 : decode cX12_shares 83 = .ok (.iconst 0, 1) := by decide +kernel
theorem dX12_shares_84 : decode cX12_shares 84 = .ok (.iadd, 1) := by decide +kernel
theorem dX12_shares_85 : decode cX12_shares 85 = .ok (.istore 4, 2) := by decide +kernel
theorem dX12_shares_87 : decode cX12_shares 87 = .ok (.iinc 5 1, 3) := by decide +kernel
theorem dX12_shares_90 : decode cX12_shares 90 = .ok (.goto (-38), 3) := by decide +kernel
theorem dX12_shares_93 : decode cX12_shares 93 = .ok (.iload_n 3, 1) := by decide +kernel
theorem dX12_shares_94 : decode cX12_shares 94 = .ok (.iconst (-1), 1) := by decide +kernel
theorem dX12_shares_95 : decode cX12_shares 95 = .ok (.if_icmp .eq 14, 3) := by decide +kernel
theorem dX12_shares_98 : decode cX12_shares 98 = .ok (.iload_n 2, 1) := by decide +kernel
theorem dX12_shares_99 : decode cX12_shares 99 = .ok (.aload_n 0, 1) := by decide +kernel
theorem dX12_shares_100 : decode cX12_shares 100 = .ok (.iload_n 3, 1) := by decide +kernel
theorem dX12_shares_101 : decode cX12_shares 101 = .ok (.invokevirtual 191, 3) := by decide +kernel
theorem dX12_shares_104 : decode cX12_shares 104 = .ok (.imul, 1) := by decide +kernel
theorem dX12_shares_105 : decode cX12_shares 105 = .ok (.iload 4, 2) := by decide +kernel
theorem dX12_shares_107 : decode cX12_shares 107 = .ok (.idiv, 1) := by decide +kernel
theorem dX12_shares_108 : decode cX12_shares 108 = .ok (.ireturn, 1) := by decide +kernel
theorem dX12_shares_109 : decode cX12_shares 109 = .ok (.iload_n 2, 1) := by decide +kernel
theorem dX12_shares_110 : decode cX12_shares 110 = .ok (.istore 5, 2) := by decide +kernel
theorem dX12_shares_112 : decode cX12_shares 112 = .ok (.iconst 0, 1) := by decide +kernel
theorem dX12_shares_113 : decode cX12_shares 113 = .ok (.istore 6, 2) := by decide +kernel
theorem dX12_shares_115 : decode cX12_shares 115 = .ok (.iload 6, 2) := by decide +kernel
theorem dX12_shares_117 : decode cX12_shares 117 = .ok (.aload_n 0, 1) := by decide +kernel
theorem dX12_shares_118 : decode cX12_shares 118 = .ok (.getfield 138, 3) := by decide +kernel
theorem dX12_shares_121 : decode cX12_shares 121 = .ok (.if_icmp .ge 40, 3) := by decide +kernel
theorem dX12_shares_124 : decode cX12_shares 124 = .ok (.iload 5, 2) := by decide +kernel
theorem dX12_shares_126 : decode cX12_shares 126 = .ok (.aload_n 0, 1) := by decide +kernel
theorem dX12_shares_127 : decode cX12_shares 127 = .ok (.getfield 44, 3) := by decide +kernel
theorem dX12_shares_130 : decode cX12_shares 130 = .ok (.iload 6, 2) := by decide +kernel
theorem dX12_shares_132 : decode cX12_shares 132 = .ok (.iaload, 1) := by decide +kernel
theorem dX12_shares_133 : decode cX12_shares 133 = .ok (.iload_n 1, 1) := by decide +kernel
theorem dX12_shares_134 : decode cX12_shares 134 = .ok (.if_icmp .ne 17, 3) := by decide +kernel
theorem dX12_shares_137 : decode cX12_shares 137 = .ok (.iload_n 2, 1) := by decide +kernel
theorem dX12_shares_138 : decode cX12_shares 138 = .ok (.aload_n 0, 1) := by decide +kernel
theorem dX12_shares_139 : decode cX12_shares 139 = .ok (.iload 6, 2) := by decide +kernel
theorem dX12_shares_141 : decode cX12_shares 141 = .ok (.invokevirtual 191, 3) := by decide +kernel
theorem dX12_shares_144 : decode cX12_shares 144 = .ok (.imul, 1) := by decide +kernel
theorem dX12_shares_145 : decode cX12_shares 145 = .ok (.iload 4, 2) := by decide +kernel
theorem dX12_shares_147 : decode cX12_shares 147 = .ok (.idiv, 1) := by decide +kernel
theorem dX12_shares_148 : decode cX12_shares 148 = .ok (.goto 4, 3) := by decide +kernel
theorem dX12_shares_151 : decode cX12_shares 151 = .ok (.iconst 0, 1) := by decide +kernel
theorem dX12_shares_152 : decode cX12_shares 152 = .ok (.isub, 1) := by decide +kernel
theorem dX12_shares_153 : decode cX12_shares 153 = .ok (.istore 5, 2) := by decide +kernel
theorem dX12_shares_155 : decode cX12_shares 155 = .ok (.iinc 6 1, 3) := by decide +kernel
theorem dX12_shares_158 : decode cX12_shares 158 = .ok (.goto (-43), 3) := by decide +kernel
theorem dX12_shares_161 : decode cX12_shares 161 = .ok (.iload 5, 2) := by decide +kernel
theorem dX12_shares_163 : decode cX12_shares 163 = .ok (.ireturn, 1) := by decide +kernel
theorem dX12_bridge_0 : decode cX12_bridge 0 = .ok (.aload_n 0, 1) := by decide +kernel
theorem dX12_bridge_1 : decode cX12_bridge 1 = .ok (.iload_n 1, 1) := by decide +kernel
theorem dX12_bridge_2 : decode cX12_bridge 2 = .ok (.invokevirtual 159, 3) := by decide +kernel
theorem dX12_bridge_5 : decode cX12_bridge 5 = .ok (.ifCond .eq 32, 3) := by decide +kernel
theorem dX12_bridge_8 : decode cX12_bridge 8 = .ok (.iload_n 2, 1) := by decide +kernel
theorem dX12_bridge_9 : decode cX12_bridge 9 = .ok (.i2l, 1) := by decide +kernel
theorem dX12_bridge_10 : decode cX12_bridge 10 = .ok (.lconst 0, 1) := by decide +kernel
theorem dX12_bridge_11 : decode cX12_bridge 11 = .ok (.ldc2_w 402, 3) := by decide +kernel
theorem dX12_bridge_14 : decode cX12_bridge 14 = .ok (.invokestatic 134, 3) := by decide +kernel
theorem dX12_bridge_17 : decode cX12_bridge 17 = .ok (.ifCond .eq 20, 3) := by decide +kernel
theorem dX12_bridge_20 : decode cX12_bridge 20 = .ok (.aload_n 0, 1) := by decide +kernel
theorem dX12_bridge_21 : decode cX12_bridge 21 = .ok (.getfield 32, 3) := by decide +kernel
theorem dX12_bridge_24 : decode cX12_bridge 24 = .ok (.iload_n 1, 1) := by decide +kernel
theorem dX12_bridge_25 : decode cX12_bridge 25 = .ok (.iaload, 1) := by decide +kernel
theorem dX12_bridge_26 : decode cX12_bridge 26 = .ok (.bipush 100, 2) := by decide +kernel
theorem dX12_bridge_28 : decode cX12_bridge 28 = .ok (.iload_n 2, 1) := by decide +kernel
theorem dX12_bridge_29 : decode cX12_bridge 29 = .ok (.isub, 1) := by decide +kernel
theorem dX12_bridge_30 : decode cX12_bridge 30 = .ok (.imul, 1) := by decide +kernel
theorem dX12_bridge_31 : decode cX12_bridge 31 = .ok (.bipush 100, 2) := by decide +kernel
theorem dX12_bridge_33 : decode cX12_bridge 33 = .ok (.idiv, 1) := by decide +kernel
theorem dX12_bridge_34 : decode cX12_bridge 34 = .ok (.goto 5, 3) := by decide +kernel
theorem dX12_bridge_37 : decode cX12_bridge 37 = .ok (.bipush (-2), 2) := by decide +kernel
theorem dX12_bridge_39 : decode cX12_bridge 39 = .ok (.ireturn, 1) := by decide +kernel
theorem dX12_image_0 : decode cX12_image 0 = .ok (.aload_n 0, 1) := by decide +kernel
theorem dX12_image_1 : decode cX12_image 1 = .ok (.iconst 1, 1) := by decide +kernel
theorem dX12_image_2 : decode cX12_image 2 = .ok (.putfield 404, 3) := by decide +kernel
theorem dX12_image_5 : decode cX12_image 5 = .ok (.aload_n 0, 1) := by decide +kernel
theorem dX12_image_6 : decode cX12_image 6 = .ok (.aload_n 0, 1) := by decide +kernel
theorem dX12_image_7 : decode cX12_image 7 = .ok (.getfield 131, 3) := by decide +kernel
theorem dX12_image_10 : decode cX12_image 10 = .ok (.putfield 407, 3) := by decide +kernel
theorem dX12_image_13 : decode cX12_image 13 = .ok (.aload_n 0, 1) := by decide +kernel
theorem dX12_image_14 : decode cX12_image 14 = .ok (.aload_n 0, 1) := by decide +kernel
theorem dX12_image_15 : decode cX12_image 15 = .ok (.getfield 138, 3) := by decide +kernel
theorem dX12_image_18 : decode cX12_image 18 = .ok (.putfield 410, 3) := by decide +kernel
theorem dX12_image_21 : decode cX12_image 21 = .ok (.aload_n 0, 1) := by decide +kernel
theorem dX12_image_22 : decode cX12_image 22 = .ok (.aload_n 0, 1) := by decide +kernel
theorem dX12_image_23 : decode cX12_image 23 = .ok (.getfield 153, 3) := by decide +kernel
theorem dX12_image_26 : decode cX12_image 26 = .ok (.putfield 413, 3) := by decide +kernel
theorem dX12_image_29 : decode cX12_image 29 = .ok (.aload_n 0, 1) := by decide +kernel
theorem dX12_image_30 : decode cX12_image 30 = .ok (.aload_n 0, 1) := by decide +kernel
theorem dX12_image_31 : decode cX12_image 31 = .ok (.getfield 156, 3) := by decide +kernel
theorem dX12_image_34 : decode cX12_image 34 = .ok (.putfield 416, 3) := by decide +kernel
theorem dX12_image_37 : decode cX12_image 37 = .ok (.aload_n 0, 1) := by decide +kernel
theorem dX12_image_38 : decode cX12_image 38 = .ok (.aload_n 0, 1) := by decide +kernel
theorem dX12_image_39 : decode cX12_image 39 = .ok (.getfield 332, 3) := by decide +kernel
theorem dX12_image_42 : decode cX12_image 42 = .ok (.putfield 419, 3) := by decide +kernel
theorem dX12_image_45 : decode cX12_image 45 = .ok (.iconst 0, 1) := by decide +kernel
theorem dX12_image_46 : decode cX12_image 46 = .ok (.istore_n 1, 1) := by decide +kernel
theorem dX12_image_47 : decode cX12_image 47 = .ok (.iload_n 1, 1) := by decide +kernel
theorem dX12_image_48 : decode cX12_image 48 = .ok (.aload_n 0, 1) := by decide +kernel
theorem dX12_image_49 : decode cX12_image 49 = .ok (.getfield 131, 3) := by decide +kernel
theorem dX12_image_52 : decode cX12_image 52 = .ok (.if_icmp .ge 33, 3) := by decide +kernel
theorem dX12_image_55 : decode cX12_image 55 = .ok (.aload_n 0, 1) := by decide +kernel
theorem dX12_image_56 : decode cX12_image 56 = .ok (.getfield 80, 3) := by decide +kernel
theorem dX12_image_59 : decode cX12_image 59 = .ok (.iload_n 1, 1) := by decide +kernel
theorem dX12_image_60 : decode cX12_image 60 = .ok (.aload_n 0, 1) := by decide +kernel
theorem dX12_image_61 : decode cX12_image 61 = .ok (.getfield 29, 3) := by decide +kernel
theorem dX12_image_64 : decode cX12_image 64 = .ok (.iload_n 1, 1) := by decide +kernel
theorem dX12_image_65 : decode cX12_image 65 = .ok (.iaload, 1) := by decide +kernel
theorem dX12_image_66 : decode cX12_image 66 = .ok (.iastore, 1) := by decide +kernel
theorem dX12_image_67 : decode cX12_image 67 = .ok (.aload_n 0, 1) := by decide +kernel
theorem dX12_image_68 : decode cX12_image 68 = .ok (.getfield 83, 3) := by decide +kernel
theorem dX12_image_71 : decode cX12_image 71 = .ok (.iload_n 1, 1) := by decide +kernel
theorem dX12_image_72 : decode cX12_image 72 = .ok (.aload_n 0, 1) := by decide +kernel
theorem dX12_image_73 : decode cX12_image 73 = .ok (.getfield 32, 3) := by decide +kernel
theorem dX12_image_76 : decode cX12_image 76 = .ok (.iload_n 1, 1) := by decide +kernel
theorem dX12_image_77 : decode cX12_image 77 = .ok (.iaload, 1) := by decide +kernel
theorem dX12_image_78 : decode cX12_image 78 = .ok (.iastore, 1) := by decide +kernel
theorem dX12_image_79 : decode cX12_image 79 = .ok (.iinc 1 1, 3) := by decide +kernel
theorem dX12_image_82 : decode cX12_image 82 = .ok (.goto (-35), 3) := by decide +kernel
theorem dX12_image_85 : decode cX12_image 85 = .ok (.iconst 0, 1) := by decide +kernel
theorem dX12_image_86 : decode cX12_image 86 = .ok (.istore_n 1, 1) := by decide +kernel
theorem dX12_image_87 : decode cX12_image 87 = .ok (.iload_n 1, 1) := by decide +kernel
theorem dX12_image_88 : decode cX12_image 88 = .ok (.aload_n 0, 1) := by decide +kernel
theorem dX12_image_89 : decode cX12_image 89 = .ok (.getfield 138, 3) := by decide +kernel
theorem dX12_image_92 : decode cX12_image 92 = .ok (.if_icmp .ge 33, 3) := by decide +kernel
theorem dX12_image_95 : decode cX12_image 95 = .ok (.aload_n 0, 1) := by decide +kernel
theorem dX12_image_96 : decode cX12_image 96 = .ok (.getfield 86, 3) := by decide +kernel
theorem dX12_image_99 : decode cX12_image 99 = .ok (.iload_n 1, 1) := by decide +kernel
theorem dX12_image_100 : decode cX12_image 100 = .ok (.aload_n 0, 1) := by decide +kernel
theorem dX12_image_101 : decode cX12_image 101 = .ok (.getfield 50, 3) := by decide +kernel
theorem dX12_image_104 : decode cX12_image 104 = .ok (.iload_n 1, 1) := by decide +kernel
theorem dX12_image_105 : decode cX12_image 105 = .ok (.iaload, 1) := by decide +kernel
theorem dX12_image_106 : decode cX12_image 106 = .ok (.iastore, 1) := by decide +kernel
theorem dX12_image_107 : decode cX12_image 107 = .ok (.aload_n 0, 1) := by decide +kernel
theorem dX12_image_108 : decode cX12_image 108 = .ok (.getfield 89, 3) := by decide +kernel
theorem dX12_image_111 : decode cX12_image 111 = .ok (.iload_n 1, 1) := by decide +kernel
theorem dX12_image_112 : decode cX12_image 112 = .ok (.aload_n 0, 1) := by decide +kernel
theorem dX12_image_113 : decode cX12_image 113 = .ok (.getfield 53, 3) := by decide +kernel
theorem dX12_image_116 : decode cX12_image 116 = .ok (.iload_n 1, 1) := by decide +kernel
theorem dX12_image_117 : decode cX12_image 117 = .ok (.iaload, 1) := by decide +kernel
theorem dX12_image_118 : decode cX12_image 118 = .ok (.iastore, 1) := by decide +kernel
theorem dX12_image_119 : decode cX12_image 119 = .ok (.iinc 1 1, 3) := by decide +kernel
theorem dX12_image_122 : decode cX12_image 122 = .ok (.goto (-35), 3) := by decide +kernel
theorem dX12_image_125 : decode cX12_image 125 = .ok (.iconst 0, 1) := by decide +kernel
theorem dX12_image_126 : decode cX12_image 126 = .ok (.istore_n 1, 1) := by decide +kernel
theorem dX12_image_127 : decode cX12_image 127 = .ok (.iload_n 1, 1) := by decide +kernel
theorem dX12_image_128 : decode cX12_image 128 = .ok (.bipush 100, 2) := by decide +kernel
theorem dX12_image_130 : decode cX12_image 130 = .ok (.if_icmp .ge 21, 3) := by decide +kernel
theorem dX12_image_133 : decode cX12_image 133 = .ok (.aload_n 0, 1) := by decide +kernel
theorem dX12_image_134 : decode cX12_image 134 = .ok (.getfield 92, 3) := by decide +kernel
theorem dX12_image_137 : decode cX12_image 137 = .ok (.iload_n 1, 1) := by decide +kernel
theorem dX12_image_138 : decode cX12_image 138 = .ok (.aload_n 0, 1) := by decide +kernel
theorem dX12_image_139 : decode cX12_image 139 = .ok (.getfield 71, 3) := by decide +kernel
theorem dX12_image_142 : decode cX12_image 142 = .ok (.iload_n 1, 1) := by decide +kernel
theorem dX12_image_143 : decode cX12_image 143 = .ok (.iaload, 1) := by decide +kernel
theorem dX12_image_144 : decode cX12_image 144 = .ok (.iastore, 1) := by decide +kernel
theorem dX12_image_145 : decode cX12_image 145 = .ok (.iinc 1 1, 3) := by decide +kernel
theorem dX12_image_148 : decode cX12_image 148 = .ok (.goto (-21), 3) := by decide +kernel
theorem dX12_image_151 : decode cX12_image 151 = .ok (.aload_n 0, 1) := by decide +kernel
theorem dX12_image_152 : decode cX12_image 152 = .ok (.getfield 138, 3) := by decide +kernel
theorem dX12_image_155 : decode cX12_image 155 = .ok (.ireturn, 1) := by decide +kernel
theorem dX12_back_0 : decode cX12_back 0 = .ok (.aload_n 0, 1) := by decide +kernel
theorem dX12_back_1 : decode cX12_back 1 = .ok (.getfield 404, 3) := by decide +kernel
theorem dX12_back_4 : decode cX12_back 4 = .ok (.ifCond .ne 6, 3) := by decide +kernel
theorem dX12_back_7 : decode cX12_back 7 = .ok (.bipush (-3), 2) := by decide +kernel
theorem dX12_back_9 : decode cX12_back 9 = .ok (.ireturn, 1) := by decide +kernel
theorem dX12_back_10 : decode cX12_back 10 = .ok (.aload_n 0, 1) := by decide +kernel
theorem dX12_back_11 : decode cX12_back 11 = .ok (.aload_n 0, 1) := by decide +kernel
theorem dX12_back_12 : decode cX12_back 12 = .ok (.getfield 413, 3) := by decide +kernel
theorem dX12_back_15 : decode cX12_back 15 = .ok (.putfield 153, 3) := by decide +kernel
theorem dX12_back_18 : decode cX12_back 18 = .ok (.aload_n 0, 1) := by decide +kernel
theorem dX12_back_19 : decode cX12_back 19 = .ok (.aload_n 0, 1) := by decide +kernel
theorem dX12_back_20 : decode cX12_back 20 = .ok (.getfield 416, 3) := by decide +kernel
theorem dX12_back_23 : decode cX12_back 23 = .ok (.putfield 156, 3) := by decide +kernel
theorem dX12_back_26 : decode cX12_back 26 = .ok (.aload_n 0, 1) := by decide +kernel
theorem dX12_back_27 : decode cX12_back 27 = .ok (.aload_n 0, 1) := by decide +kernel
theorem dX12_back_28 : decode cX12_back 28 = .ok (.getfield 419, 3) := by decide +kernel
theorem dX12_back_31 : decode cX12_back 31 = .ok (.putfield 332, 3) := by decide +kernel
theorem dX12_back_34 : decode cX12_back 34 = .ok (.iconst 0, 1) := by decide +kernel
theorem dX12_back_35 : decode cX12_back 35 = .ok (.istore_n 1, 1) := by decide +kernel
theorem dX12_back_36 : decode cX12_back 36 = .ok (.iload_n 1, 1) := by decide +kernel
theorem dX12_back_37 : decode cX12_back 37 = .ok (.aload_n 0, 1) := by decide +kernel
theorem dX12_back_38 : decode cX12_back 38 = .ok (.getfield 407, 3) := by decide +kernel
theorem dX12_back_41 : decode cX12_back 41 = .ok (.if_icmp .ge 33, 3) := by decide +kernel
theorem dX12_back_44 : decode cX12_back 44 = .ok (.aload_n 0, 1) := by decide +kernel
theorem dX12_back_45 : decode cX12_back 45 = .ok (.getfield 29, 3) := by decide +kernel
theorem dX12_back_48 : decode cX12_back 48 = .ok (.iload_n 1, 1) := by decide +kernel
theorem dX12_back_49 : decode cX12_back 49 = .ok (.aload_n 0, 1) := by decide +kernel
theorem dX12_back_50 : decode cX12_back 50 = .ok (.getfield 80, 3) := by decide +kernel
theorem dX12_back_53 : decode cX12_back 53 = .ok (.iload_n 1, 1) := by decide +kernel
theorem dX12_back_54 : decode cX12_back 54 = .ok (.iaload, 1) := by decide +kernel
theorem dX12_back_55 : decode cX12_back 55 = .ok (.iastore, 1) := by decide +kernel
theorem dX12_back_56 : decode cX12_back 56 = .ok (.aload_n 0, 1) := by decide +kernel
theorem dX12_back_57 : decode cX12_back 57 = .ok (.getfield 32, 3) := by decide +kernel
theorem dX12_back_60 : decode cX12_back 60 = .ok (.iload_n 1, 1) := by decide +kernel
theorem dX12_back_61 : decode cX12_back 61 = .ok (.aload_n 0, 1) := by decide +kernel
theorem dX12_back_62 : decode cX12_back 62 = .ok (.getfield 83, 3) := by decide +kernel
theorem dX12_back_65 : decode cX12_back 65 = .ok (.iload_n 1, 1) := by decide +kernel
theorem dX12_back_66 : decode cX12_back 66 = .ok (.iaload, 1) := by decide +kernel
theorem dX12_back_67 : decode cX12_back 67 = .ok (.iastore, 1) := by decide +kernel
theorem dX12_back_68 : decode cX12_back 68 = .ok (.iinc 1 1, 3) := by decide +kernel
theorem dX12_back_71 : decode cX12_back 71 = .ok (.goto (-35), 3) := by decide +kernel
theorem dX12_back_74 : decode cX12_back 74 = .ok (.iconst 0, 1) := by decide +kernel
theorem dX12_back_75 : decode cX12_back 75 = .ok (.istore_n 1, 1) := by decide +kernel
theorem dX12_back_76 : decode cX12_back 76 = .ok (.iload_n 1, 1) := by decide +kernel
theorem dX12_back_77 : decode cX12_back 77 = .ok (.aload_n 0, 1) := by decide +kernel
theorem dX12_back_78 : decode cX12_back 78 = .ok (.getfield 410, 3) := by decide +kernel
theorem dX12_back_81 : decode cX12_back 81 = .ok (.if_icmp .ge 33, 3) := by decide +kernel
theorem dX12_back_84 : decode cX12_back 84 = .ok (.aload_n 0, 1) := by decide +kernel
theorem dX12_back_85 : decode cX12_back 85 = .ok (.getfield 50, 3) := by decide +kernel
theorem dX12_back_88 : decode cX12_back 88 = .ok (.iload_n 1, 1) := by decide +kernel
theorem dX12_back_89 : decode cX12_back 89 = .ok (.aload_n 0, 1) := by decide +kernel
theorem dX12_back_90 : decode cX12_back 90 = .ok (.getfield 86, 3) := by decide +kernel
theorem dX12_back_93 : decode cX12_back 93 = .ok (.iload_n 1, 1) := by decide +kernel
theorem dX12_back_94 : decode cX12_back 94 = .ok (.iaload, 1) := by decide +kernel
theorem dX12_back_95 : decode cX12_back 95 = .ok (.iastore, 1) := by decide +kernel
theorem dX12_back_96 : decode cX12_back 96 = .ok (.aload_n 0, 1) := by decide +kernel
theorem dX12_back_97 : decode cX12_back 97 = .ok (.getfield 53, 3) := by decide +kernel
theorem dX12_back_100 : decode cX12_back 100 = .ok (.iload_n 1, 1) := by decide +kernel
theorem dX12_back_101 : decode cX12_back 101 = .ok (.aload_n 0, 1) := by decide +kernel
theorem dX12_back_102 : decode cX12_back 102 = .ok (.getfield 89, 3) := by decide +kernel
theorem dX12_back_105 : decode cX12_back 105 = .ok (.iload_n 1, 1) := by decide +kernel
theorem dX12_back_106 : decode cX12_back 106 = .ok (.iaload, 1) := by decide +kernel
theorem dX12_back_107 : decode cX12_back 107 = .ok (.iastore, 1) := by decide +kernel
theorem dX12_back_108 : decode cX12_back 108 = .ok (.iinc 1 1, 3) := by decide +kernel
theorem dX12_back_111 : decode cX12_back 111 = .ok (.goto (-35), 3) := by decide +kernel
theorem dX12_back_114 : decode cX12_back 114 = .ok (.iconst 0, 1) := by decide +kernel
theorem dX12_back_115 : decode cX12_back 115 = .ok (.istore_n 1, 1) := by decide +kernel
theorem dX12_back_116 : decode cX12_back 116 = .ok (.iload_n 1, 1) := by decide +kernel
theorem dX12_back_117 : decode cX12_back 117 = .ok (.bipush 100, 2) := by decide +kernel
theorem dX12_back_119 : decode cX12_back 119 = .ok (.if_icmp .ge 21, 3) := by decide +kernel
theorem dX12_back_122 : decode cX12_back 122 = .ok (.aload_n 0, 1) := by decide +kernel
theorem dX12_back_123 : decode cX12_back 123 = .ok (.getfield 71, 3) := by decide +kernel
theorem dX12_back_126 : decode cX12_back 126 = .ok (.iload_n 1, 1) := by decide +kernel
theorem dX12_back_127 : decode cX12_back 127 = .ok (.aload_n 0, 1) := by decide +kernel
theorem dX12_back_128 : decode cX12_back 128 = .ok (.getfield 92, 3) := by decide +kernel
theorem dX12_back_131 : decode cX12_back 131 = .ok (.iload_n 1, 1) := by decide +kernel
theorem dX12_back_132 : decode cX12_back 132 = .ok (.iaload, 1) := by decide +kernel
theorem dX12_back_133 : decode cX12_back 133 = .ok (.iastore, 1) := by decide +kernel
theorem dX12_back_134 : decode cX12_back 134 = .ok (.iinc 1 1, 3) := by decide +kernel
theorem dX12_back_137 : decode cX12_back 137 = .ok (.goto (-21), 3) := by decide +kernel
theorem dX12_back_140 : decode cX12_back 140 = .ok (.aload_n 0, 1) := by decide +kernel
theorem dX12_back_141 : decode cX12_back 141 = .ok (.getfield 138, 3) := by decide +kernel
theorem dX12_back_144 : decode cX12_back 144 = .ok (.ireturn, 1) := by decide +kernel
theorem dX12_count_0 : decode cX12_count 0 = .ok (.iconst 0, 1) := by decide +kernel
theorem dX12_count_1 : decode cX12_count 1 = .ok (.istore_n 2, 1) := by decide +kernel
theorem dX12_count_2 : decode cX12_count 2 = .ok (.iload_n 1, 1) := by decide +kernel
theorem dX12_count_3 : decode cX12_count 3 = .ok (.tableswitch 151 0 7 #[45, 50, 55, 82, 109, 136, 141, 146], 45) := by decide +kernel
theorem dX12_count_48 : decode cX12_count 48 = .ok (.aload_n 0, 1) := by decide +kernel
theorem dX12_count_49 : decode cX12_count 49 = .ok (.getfield 131, 3) := by decide +kernel
theorem dX12_count_52 : decode cX12_count 52 = .ok (.ireturn, 1) := by decide +kernel
theorem dX12_count_53 : decode cX12_count 53 = .ok (.aload_n 0, 1) := by decide +kernel
theorem dX12_count_54 : decode cX12_count 54 = .ok (.getfield 138, 3) := by decide +kernel
theorem dX12_count_57 : decode cX12_count 57 = .ok (.ireturn, 1) := by decide +kernel
theorem dX12_count_58 : decode cX12_count 58 = .ok (.iconst 0, 1) := by decide +kernel
theorem dX12_count_59 : decode cX12_count 59 = .ok (.istore_n 3, 1) := by decide +kernel
theorem dX12_count_60 : decode cX12_count 60 = .ok (.iload_n 3, 1) := by decide +kernel
theorem dX12_count_61 : decode cX12_count 61 = .ok (.aload_n 0, 1) := by decide +kernel
theorem dX12_count_62 : decode cX12_count 62 = .ok (.getfield 131, 3) := by decide +kernel
theorem dX12_count_65 : decode cX12_count 65 = .ok (.if_icmp .ge 18, 3) := by decide +kernel
theorem dX12_count_68 : decode cX12_count 68 = .ok (.iload_n 2, 1) := by decide +kernel
theorem dX12_count_69 : decode cX12_count 69 = .ok (.aload_n 0, 1) := by decide +kernel
theorem dX12_count_70 : decode cX12_count 70 = .ok (.getfield 29, 3) := by decide +kernel
theorem dX12_count_73 : decode cX12_count 73 = .ok (.iload_n 3, 1) := by decide +kernel
theorem dX12_count_74 : decode cX12_count 74 = .ok (.iaload, 1) := by decide +kernel
theorem dX12_count_75 : decode cX12_count 75 = .ok (.iadd, 1) := by decide +kernel
theorem dX12_count_76 : decode cX12_count 76 = .ok (.istore_n 2, 1) := by decide +kernel
theorem dX12_count_77 : decode cX12_count 77 = .ok (.iinc 3 1, 3) := by decide +kernel
theorem dX12_count_80 : decode cX12_count 80 = .ok (.goto (-20), 3) := by decide +kernel
theorem dX12_count_83 : decode cX12_count 83 = .ok (.iload_n 2, 1) := by decide +kernel
theorem dX12_count_84 : decode cX12_count 84 = .ok (.ireturn, 1) := by decide +kernel
theorem dX12_count_85 : decode cX12_count 85 = .ok (.iconst 0, 1) := by decide +kernel
theorem dX12_count_86 : decode cX12_count 86 = .ok (.istore_n 3, 1) := by decide +kernel
theorem dX12_count_87 : decode cX12_count 87 = .ok (.iload_n 3, 1) := by decide +kernel
theorem dX12_count_88 : decode cX12_count 88 = .ok (.aload_n 0, 1) := by decide +kernel
theorem dX12_count_89 : decode cX12_count 89 = .ok (.getfield 138, 3) := by decide +kernel
theorem dX12_count_92 : decode cX12_count 92 = .ok (.if_icmp .ge 18, 3) := by decide +kernel
theorem dX12_count_95 : decode cX12_count 95 = .ok (.iload_n 2, 1) := by decide +kernel
theorem dX12_count_96 : decode cX12_count 96 = .ok (.aload_n 0, 1) := by decide +kernel
theorem dX12_count_97 : decode cX12_count 97 = .ok (.getfield 50, 3) := by decide +kernel
theorem dX12_count_100 : decode cX12_count 100 = .ok (.iload_n 3, 1) := by decide +kernel
theorem dX12_count_101 : decode cX12_count 101 = .ok (.iaload, 1) := by decide +kernel
theorem dX12_count_102 : decode cX12_count 102 = .ok (.iadd, 1) := by decide +kernel
theorem dX12_count_103 : decode cX12_count 103 = .ok (.istore_n 2, 1) := by decide +kernel
theorem dX12_count_104 : decode cX12_count 104 = .ok (.iinc 3 1, 3) := by decide +kernel
theorem dX12_count_107 : decode cX12_count 107 = .ok (.goto (-20), 3) := by decide +kernel
theorem dX12_count_110 : decode cX12_count 110 = .ok (.iload_n 2, 1) := by decide +kernel
theorem dX12_count_111 : decode cX12_count 111 = .ok (.ireturn, 1) := by decide +kernel
theorem dX12_count_112 : decode cX12_count 112 = .ok (.iconst 0, 1) := by decide +kernel
theorem dX12_count_113 : decode cX12_count 113 = .ok (.istore_n 3, 1) := by decide +kernel
theorem dX12_count_114 : decode cX12_count 114 = .ok (.iload_n 3, 1) := by decide +kernel
theorem dX12_count_115 : decode cX12_count 115 = .ok (.aload_n 0, 1) := by decide +kernel
theorem dX12_count_116 : decode cX12_count 116 = .ok (.getfield 138, 3) := by decide +kernel
theorem dX12_count_119 : decode cX12_count 119 = .ok (.if_icmp .ge 18, 3) := by decide +kernel
theorem dX12_count_122 : decode cX12_count 122 = .ok (.iload_n 2, 1) := by decide +kernel
theorem dX12_count_123 : decode cX12_count 123 = .ok (.aload_n 0, 1) := by decide +kernel
theorem dX12_count_124 : decode cX12_count 124 = .ok (.getfield 53, 3) := by decide +kernel
theorem dX12_count_127 : decode cX12_count 127 = .ok (.iload_n 3, 1) := by decide +kernel
theorem dX12_count_128 : decode cX12_count 128 = .ok (.iaload, 1) := by decide +kernel
theorem dX12_count_129 : decode cX12_count 129 = .ok (.iadd, 1) := by decide +kernel
theorem dX12_count_130 : decode cX12_count 130 = .ok (.istore_n 2, 1) := by decide +kernel
theorem dX12_count_131 : decode cX12_count 131 = .ok (.iinc 3 1, 3) := by decide +kernel
theorem dX12_count_134 : decode cX12_count 134 = .ok (.goto (-20), 3) := by decide +kernel
theorem dX12_count_137 : decode cX12_count 137 = .ok (.iload_n 2, 1) := by decide +kernel
theorem dX12_count_138 : decode cX12_count 138 = .ok (.ireturn, 1) := by decide +kernel
theorem dX12_count_139 : decode cX12_count 139 = .ok (.aload_n 0, 1) := by decide +kernel
theorem dX12_count_140 : decode cX12_count 140 = .ok (.getfield 126, 3) := by decide +kernel
theorem dX12_count_143 : decode cX12_count 143 = .ok (.ireturn, 1) := by decide +kernel
theorem dX12_count_144 : decode cX12_count 144 = .ok (.aload_n 0, 1) := by decide +kernel
theorem dX12_count_145 : decode cX12_count 145 = .ok (.getfield 200, 3) := by decide +kernel
theorem dX12_count_148 : decode cX12_count 148 = .ok (.ireturn, 1) := by decide +kernel
theorem dX12_count_149 : decode cX12_count 149 = .ok (.aload_n 0, 1) := by decide +kernel
theorem dX12_count_150 : decode cX12_count 150 = .ok (.getfield 332, 3) := by decide +kernel
theorem dX12_count_153 : decode cX12_count 153 = .ok (.ireturn, 1) := by decide +kernel
theorem dX12_count_154 : decode cX12_count 154 = .ok (.bipush (-2), 2) := by decide +kernel
theorem dX12_count_156 : decode cX12_count 156 = .ok (.ireturn, 1) := by decide +kernel
theorem dX12_isSheet_0 : decode cX12_isSheet 0 = .ok (.iload_n 0, 1) := by decide +kernel
theorem dX12_isSheet_1 : decode cX12_isSheet 1 = .ok (.i2l, 1) := by decide +kernel
theorem dX12_isSheet_2 : decode cX12_isSheet 2 = .ok (.lconst 0, 1) := by decide +kernel
theorem dX12_isSheet_3 : decode cX12_isSheet 3 = .ok (.ldc2_w 374, 3) := by decide +kernel
theorem dX12_isSheet_6 : decode cX12_isSheet 6 = .ok (.invokestatic 134, 3) := by decide +kernel
theorem dX12_isSheet_9 : decode cX12_isSheet 9 = .ok (.ireturn, 1) := by decide +kernel
theorem dX12_sheet_0 : decode cX12_sheet 0 = .ok (.iload_n 1, 1) := by decide +kernel
theorem dX12_sheet_1 : decode cX12_sheet 1 = .ok (.invokestatic 346, 3) := by decide +kernel
theorem dX12_sheet_4 : decode cX12_sheet 4 = .ok (.ifCond .eq 27, 3) := by decide +kernel
theorem dX12_sheet_7 : decode cX12_sheet 7 = .ok (.iload_n 2, 1) := by decide +kernel
theorem dX12_sheet_8 : decode cX12_sheet 8 = .ok (.i2l, 1) := by decide +kernel
theorem dX12_sheet_9 : decode cX12_sheet 9 = .ok (.ldc2_w 233, 3) := by decide +kernel
theorem dX12_sheet_12 : decode cX12_sheet 12 = .ok (.ldc2_w 381, 3) := by decide +kernel
theorem dX12_sheet_15 : decode cX12_sheet 15 = .ok (.invokestatic 134, 3) := by decide +kernel
theorem dX12_sheet_18 : decode cX12_sheet 18 = .ok (.ifCond .eq 13, 3) := by decide +kernel
theorem dX12_sheet_21 : decode cX12_sheet 21 = .ok (.iload_n 2, 1) := by decide +kernel
theorem dX12_sheet_22 : decode cX12_sheet 22 = .ok (.ifCond .lt 12, 3) := by decide +kernel
theorem dX12_sheet_25 : decode cX12_sheet 25 = .ok (.iload_n 3, 1) := by decide +kernel
theorem dX12_sheet_26 : decode cX12_sheet 26 = .ok (.bipush 40, 2) := by decide +kernel
theorem dX12_sheet_28 : decode cX12_sheet 28 = .ok (.if_icmp .le 6, 3) := by decide +kernel
theorem dX12_sheet_31 : decode cX12_sheet 31 = .ok (.bipush (-2), 2) := by decide +kernel
theorem dX12_sheet_33 : decode cX12_sheet 33 = .ok (.ireturn, 1) := by decide +kernel
theorem dX12_sheet_34 : decode cX12_sheet 34 = .ok (.iload_n 2, 1) := by decide +kernel
theorem dX12_sheet_35 : decode cX12_sheet 35 = .ok (.ifCond .lt 10, 3) := by decide +kernel
theorem dX12_sheet_38 : decode cX12_sheet 38 = .ok (.iload_n 3, 1) := by decide +kernel
theorem dX12_sheet_39 : decode cX12_sheet 39 = .ok (.ifCond .ge 6, 3) := by decide +kernel
theorem dX12_sheet_42 : decode cX12_sheet 42 = .ok (.bipush (-14), 2) := by decide +kernel
theorem dX12_sheet_44 : decode cX12_sheet 44 = .ok (.ireturn, 1) := by decide +kernel
theorem dX12_sheet_45 : decode cX12_sheet 45 = .ok (.aload_n 0, 1) := by decide +kernel
theorem dX12_sheet_46 : decode cX12_sheet 46 = .ok (.getfield 95, 3) := by decide +kernel
theorem dX12_sheet_49 : decode cX12_sheet 49 = .ok (.iload_n 1, 1) := by decide +kernel
theorem dX12_sheet_50 : decode cX12_sheet 50 = .ok (.iload_n 2, 1) := by decide +kernel
theorem dX12_sheet_51 : decode cX12_sheet 51 = .ok (.ifCond .lt 7, 3) := by decide +kernel
theorem dX12_sheet_54 : decode cX12_sheet 54 = .ok (.iconst 1, 1) := by decide +kernel
theorem dX12_sheet_55 : decode cX12_sheet 55 = .ok (.goto 4, 3) := by decide +kernel
theorem dX12_sheet_58 : decode cX12_sheet 58 = .ok (.iconst 0, 1) := by decide +kernel
theorem dX12_sheet_59 : decode cX12_sheet 59 = .ok (.bastore, 1) := by decide +kernel
theorem dX12_sheet_60 : decode cX12_sheet 60 = .ok (.aload_n 0, 1) := by decide +kernel
theorem dX12_sheet_61 : decode cX12_sheet 61 = .ok (.getfield 99, 3) := by decide +kernel
theorem dX12_sheet_64 : decode cX12_sheet 64 = .ok (.iload_n 1, 1) := by decide +kernel
theorem dX12_sheet_65 : decode cX12_sheet 65 = .ok (.iload_n 2, 1) := by decide +kernel
theorem dX12_sheet_66 : decode cX12_sheet 66 = .ok (.iastore, 1) := by decide +kernel
theorem dX12_sheet_67 : decode cX12_sheet 67 = .ok (.aload_n 0, 1) := by decide +kernel
theorem dX12_sheet_68 : decode cX12_sheet 68 = .ok (.getfield 102, 3) := by decide +kernel
theorem dX12_sheet_71 : decode cX12_sheet 71 = .ok (.iload_n 1, 1) := by decide +kernel
theorem dX12_sheet_72 : decode cX12_sheet 72 = .ok (.iload_n 3, 1) := by decide +kernel
theorem dX12_sheet_73 : decode cX12_sheet 73 = .ok (.iastore, 1) := by decide +kernel
theorem dX12_sheet_74 : decode cX12_sheet 74 = .ok (.iconst 0, 1) := by decide +kernel
theorem dX12_sheet_75 : decode cX12_sheet 75 = .ok (.istore 4, 2) := by decide +kernel
theorem dX12_sheet_77 : decode cX12_sheet 77 = .ok (.iload 4, 2) := by decide +kernel
theorem dX12_sheet_79 : decode cX12_sheet 79 = .ok (.iload_n 3, 1) := by decide +kernel
theorem dX12_sheet_80 : decode cX12_sheet 80 = .ok (.if_icmp .ge 26, 3) := by decide +kernel
theorem dX12_sheet_83 : decode cX12_sheet 83 = .ok (.iload_n 2, 1) := by decide +kernel
theorem dX12_sheet_84 : decode cX12_sheet 84 = .ok (.ifCond .lt 22, 3) := by decide +kernel
theorem dX12_sheet_87 : decode cX12_sheet 87 = .ok (.aload_n 0, 1) := by decide +kernel
theorem dX12_sheet_88 : decode cX12_sheet 88 = .ok (.getfield 105, 3) := by decide +kernel
theorem dX12_sheet_91 : decode cX12_sheet 91 = .ok (.bipush 40, 2) := by decide +kernel
theorem dX12_sheet_93 : decode cX12_sheet 93 = .ok (.iload_n 1, 1) := by decide +kernel
theorem dX12_sheet_94 : decode cX12_sheet 94 = .ok (.imul, 1) := by decide +kernel
theorem dX12_sheet_95 : decode cX12_sheet 95 = .ok (.iload 4, 2) := by decide +kernel
theorem dX12_sheet_97 : decode cX12_sheet 97 = .ok (.iadd, 1) := by decide +kernel
theorem dX12_sheet_98 : decode cX12_sheet 98 = .ok (.iconst 0, 1) := by decide +kernel
theorem dX12_sheet_99 : decode cX12_sheet 99 = .ok (.iastore, 1) := by decide +kernel
theorem dX12_sheet_100 : decode cX12_sheet 100 = .ok (.iinc 4 1, 3) := by decide +kernel
theorem dX12_sheet_103 : decode cX12_sheet 103 = .ok (.goto (-26), 3) := by decide +kernel
theorem dX12_sheet_106 : decode cX12_sheet 106 = .ok (.iconst 1, 1) := by decide +kernel
theorem dX12_sheet_107 : decode cX12_sheet 107 = .ok (.ireturn, 1) := by decide +kernel
theorem dX12_cell_0 : decode cX12_cell 0 = .ok (.iload_n 1, 1) := by decide +kernel
theorem dX12_cell_1 : decode cX12_cell 1 = .ok (.invokestatic 346, 3) := by decide +kernel
theorem dX12_cell_4 : decode cX12_cell 4 = .ok (.ifCond .ne 6, 3) := by decide +kernel
theorem dX12_cell_7 : decode cX12_cell 7 = .ok (.bipush (-2), 2) := by decide +kernel
theorem dX12_cell_9 : decode cX12_cell 9 = .ok (.ireturn, 1) := by decide +kernel
theorem dX12_cell_10 : decode cX12_cell 10 = .ok (.aload_n 0, 1) := by decide +kernel
theorem dX12_cell_11 : decode cX12_cell 11 = .ok (.getfield 95, 3) := by decide +kernel
theorem dX12_cell_14 : decode cX12_cell 14 = .ok (.iload_n 1, 1) := by decide +kernel
theorem dX12_cell_15 : decode cX12_cell 15 = .ok (.baload, 1) := by decide +kernel
theorem dX12_cell_16 : decode cX12_cell 16 = .ok (.ifCond .ne 6, 3) := by decide +kernel
theorem dX12_cell_19 : decode cX12_cell 19 = .ok (.bipush (-11), 2) := by decide +kernel
theorem dX12_cell_21 : decode cX12_cell 21 = .ok (.ireturn, 1) := by decide +kernel
theorem dX12_cell_22 : decode cX12_cell 22 = .ok (.iload_n 2, 1) := by decide +kernel
theorem dX12_cell_23 : decode cX12_cell 23 = .ok (.i2l, 1) := by decide +kernel
theorem dX12_cell_24 : decode cX12_cell 24 = .ok (.lconst 0, 1) := by decide +kernel
theorem dX12_cell_25 : decode cX12_cell 25 = .ok (.aload_n 0, 1) := by decide +kernel
theorem dX12_cell_26 : decode cX12_cell 26 = .ok (.getfield 102, 3) := by decide +kernel
theorem dX12_cell_29 : decode cX12_cell 29 = .ok (.iload_n 1, 1) := by decide +kernel
theorem dX12_cell_30 : decode cX12_cell 30 = .ok (.iaload, 1) := by decide +kernel
theorem dX12_cell_31 : decode cX12_cell 31 = .ok (.iconst 1, 1) := by decide +kernel
theorem dX12_cell_32 : decode cX12_cell 32 = .ok (.isub, 1) := by decide +kernel
theorem dX12_cell_33 : decode cX12_cell 33 = .ok (.i2l, 1) := by decide +kernel
theorem dX12_cell_34 : decode cX12_cell 34 = .ok (.invokestatic 134, 3) := by decide +kernel
theorem dX12_cell_37 : decode cX12_cell 37 = .ok (.ifCond .ne 6, 3) := by decide +kernel
theorem dX12_cell_40 : decode cX12_cell 40 = .ok (.bipush (-12), 2) := by decide +kernel
theorem dX12_cell_42 : decode cX12_cell 42 = .ok (.ireturn, 1) := by decide +kernel
theorem dX12_cell_43 : decode cX12_cell 43 = .ok (.aload_n 0, 1) := by decide +kernel
theorem dX12_cell_44 : decode cX12_cell 44 = .ok (.getfield 105, 3) := by decide +kernel
theorem dX12_cell_47 : decode cX12_cell 47 = .ok (.bipush 40, 2) := by decide +kernel
theorem dX12_cell_49 : decode cX12_cell 49 = .ok (.iload_n 1, 1) := by decide +kernel
theorem dX12_cell_50 : decode cX12_cell 50 = .ok (.imul, 1) := by decide +kernel
theorem dX12_cell_51 : decode cX12_cell 51 = .ok (.iload_n 2, 1) := by decide +kernel
theorem dX12_cell_52 : decode cX12_cell 52 = .ok (.iadd, 1) := by decide +kernel
theorem dX12_cell_53 : decode cX12_cell 53 = .ok (.aload_n 0, 1) := by decide +kernel
theorem dX12_cell_54 : decode cX12_cell 54 = .ok (.getfield 99, 3) := by decide +kernel
theorem dX12_cell_57 : decode cX12_cell 57 = .ok (.iload_n 1, 1) := by decide +kernel
theorem dX12_cell_58 : decode cX12_cell 58 = .ok (.iaload, 1) := by decide +kernel
theorem dX12_cell_59 : decode cX12_cell 59 = .ok (.ifCond .ne 8, 3) := by decide +kernel
theorem dX12_cell_62 : decode cX12_cell 62 = .ok (.iload_n 3, 1) := by decide +kernel
theorem dX12_cell_63 : decode cX12_cell 63 = .ok (.i2b, 1) := by decide +kernel
theorem dX12_cell_64 : decode cX12_cell 64 = .ok (.goto 19, 3) := by decide +kernel
theorem dX12_cell_67 : decode cX12_cell 67 = .ok (.aload_n 0, 1) := by decide +kernel
theorem dX12_cell_68 : decode cX12_cell 68 = .ok (.getfield 99, 3) := by decide +kernel
theorem dX12_cell_71 : decode cX12_cell 71 = .ok (.iload_n 1, 1) := by decide +kernel
theorem dX12_cell_72 : decode cX12_cell 72 = .ok (.iaload, 1) := by decide +kernel
theorem dX12_cell_73 : decode cX12_cell 73 = .ok (.iconst 1, 1) := by decide +kernel
theorem dX12_cell_74 : decode cX12_cell 74 = .ok (.if_icmp .ne 8, 3) := by decide +kernel
theorem dX12_cell_77 : decode cX12_cell 77 = .ok (.iload_n 3, 1) := by decide +kernel
theorem dX12_cell_78 : decode cX12_cell 78 = .ok (.i2s, 1) := by decide +kernel
theorem dX12_cell_79 : decode cX12_cell 79 = .ok (.goto 4, 3) := by decide +kernel
theorem dX12_cell_82 : decode cX12_cell 82 = .ok (.iload_n 3, 1) := by decide +kernel
theorem dX12_cell_83 : decode cX12_cell 83 = .ok (.iastore, 1) := by decide +kernel
theorem dX12_cell_84 : decode cX12_cell 84 = .ok (.iconst 1, 1) := by decide +kernel
theorem dX12_cell_85 : decode cX12_cell 85 = .ok (.ireturn, 1) := by decide +kernel
theorem dX12_copy_0 : decode cX12_copy 0 = .ok (.iload_n 1, 1) := by decide +kernel
theorem dX12_copy_1 : decode cX12_copy 1 = .ok (.invokestatic 346, 3) := by decide +kernel
theorem dX12_copy_4 : decode cX12_copy 4 = .ok (.ifCond .eq 10, 3) := by decide +kernel
theorem dX12_copy_7 : decode cX12_copy 7 = .ok (.iload_n 3, 1) := by decide +kernel
theorem dX12_copy_8 : decode cX12_copy 8 = .ok (.invokestatic 346, 3) := by decide +kernel
theorem dX12_copy_11 : decode cX12_copy 11 = .ok (.ifCond .ne 6, 3) := by decide +kernel
theorem dX12_copy_14 : decode cX12_copy 14 = .ok (.bipush (-2), 2) := by decide +kernel
theorem dX12_copy_16 : decode cX12_copy 16 = .ok (.ireturn, 1) := by decide +kernel
theorem dX12_copy_17 : decode cX12_copy 17 = .ok (.aload_n 0, 1) := by decide +kernel
theorem dX12_copy_18 : decode cX12_copy 18 = .ok (.getfield 95, 3) := by decide +kernel
theorem dX12_copy_21 : decode cX12_copy 21 = .ok (.iload_n 1, 1) := by decide +kernel
theorem dX12_copy_22 : decode cX12_copy 22 = .ok (.baload, 1) := by decide +kernel
theorem dX12_copy_23 : decode cX12_copy 23 = .ok (.ifCond .eq 12, 3) := by decide +kernel
theorem dX12_copy_26 : decode cX12_copy 26 = .ok (.aload_n 0, 1) := by decide +kernel
theorem dX12_copy_27 : decode cX12_copy 27 = .ok (.getfield 95, 3) := by decide +kernel
theorem dX12_copy_30 : decode cX12_copy 30 = .ok (.iload_n 3, 1) := by decide +kernel
theorem dX12_copy_31 : decode cX12_copy 31 = .ok (.baload, 1) := by decide +kernel
theorem dX12_copy_32 : decode cX12_copy 32 = .ok (.ifCond .ne 6, 3) := by decide +kernel
theorem dX12_copy_35 : decode cX12_copy 35 = .ok (.bipush (-11), 2) := by decide +kernel
theorem dX12_copy_37 : decode cX12_copy 37 = .ok (.ireturn, 1) := by decide +kernel
theorem dX12_copy_38 : decode cX12_copy 38 = .ok (.aload_n 0, 1) := by decide +kernel
theorem dX12_copy_39 : decode cX12_copy 39 = .ok (.getfield 99, 3) := by decide +kernel
theorem dX12_copy_42 : decode cX12_copy 42 = .ok (.iload_n 1, 1) := by decide +kernel
theorem dX12_copy_43 : decode cX12_copy 43 = .ok (.iaload, 1) := by decide +kernel
theorem dX12_copy_44 : decode cX12_copy 44 = .ok (.aload_n 0, 1) := by decide +kernel
theorem dX12_copy_45 : decode cX12_copy 45 = .ok (.getfield 99, 3) := by decide +kernel
theorem dX12_copy_48 : decode cX12_copy 48 = .ok (.iload_n 3, 1) := by decide +kernel
theorem dX12_copy_49 : decode cX12_copy 49 = .ok (.iaload, 1) := by decide +kernel
theorem dX12_copy_50 : decode cX12_copy 50 = .ok (.if_icmp .eq 6, 3) := by decide +kernel
theorem dX12_copy_53 : decode cX12_copy 53 = .ok (.bipush (-13), 2) := by decide +kernel
theorem dX12_copy_55 : decode cX12_copy 55 = .ok (.ireturn, 1) := by decide +kernel
theorem dX12_copy_56 : decode cX12_copy 56 = .ok (.iload 5, 2) := by decide +kernel
theorem dX12_copy_58 : decode cX12_copy 58 = .ok (.ifCond .lt 39, 3) := by decide +kernel
theorem dX12_copy_61 : decode cX12_copy 61 = .ok (.iload_n 2, 1) := by decide +kernel
theorem dX12_copy_62 : decode cX12_copy 62 = .ok (.ifCond .lt 35, 3) := by decide +kernel
theorem dX12_copy_65 : decode cX12_copy 65 = .ok (.iload 4, 2) := by decide +kernel
theorem dX12_copy_67 : decode cX12_copy 67 = .ok (.ifCond .lt 30, 3) := by decide +kernel
theorem dX12_copy_70 : decode cX12_copy 70 = .ok (.iload_n 2, 1) := by decide +kernel
theorem dX12_copy_71 : decode cX12_copy 71 = .ok (.aload_n 0, 1) := by decide +kernel
theorem dX12_copy_72 : decode cX12_copy 72 = .ok (.getfield 102, 3) := by decide +kernel
theorem dX12_copy_75 : decode cX12_copy 75 = .ok (.iload_n 1, 1) := by decide +kernel
theorem dX12_copy_76 : decode cX12_copy 76 = .ok (.iaload, 1) := by decide +kernel
theorem dX12_copy_77 : decode cX12_copy 77 = .ok (.iload 5, 2) := by decide +kernel
theorem dX12_copy_79 : decode cX12_copy 79 = .ok (.isub, 1) := by decide +kernel
theorem dX12_copy_80 : decode cX12_copy 80 = .ok (.if_icmp .gt 17, 3) := by decide +kernel
theorem dX12_copy_83 : decode cX12_copy 83 = .ok (.iload 4, 2) := by decide +kernel
theorem dX12_copy_85 : decode cX12_copy 85 = .ok (.aload_n 0, 1) := by decide +kernel
theorem dX12_copy_86 : decode cX12_copy 86 = .ok (.getfield 102, 3) := by decide +kernel
theorem dX12_copy_89 : decode cX12_copy 89 = .ok (.iload_n 3, 1) := by decide +kernel
theorem dX12_copy_90 : decode cX12_copy 90 = .ok (.iaload, 1) := by decide +kernel
theorem dX12_copy_91 : decode cX12_copy 91 = .ok (.iload 5, 2) := by decide +kernel
theorem dX12_copy_93 : decode cX12_copy 93 = .ok (.isub, 1) := by decide +kernel
theorem dX12_copy_94 : decode cX12_copy 94 = .ok (.if_icmp .le 6, 3) := by decide +kernel
theorem dX12_copy_97 : decode cX12_copy 97 = .ok (.bipush (-12), 2) := by decide +kernel
theorem dX12_copy_99 : decode cX12_copy 99 = .ok (.ireturn, 1) := by decide +kernel
theorem dX12_copy_100 : decode cX12_copy 100 = .ok (.iload_n 1, 1) := by decide +kernel
theorem dX12_copy_101 : decode cX12_copy 101 = .ok (.iload_n 3, 1) := by decide +kernel
theorem dX12_copy_102 : decode cX12_copy 102 = .ok (.if_icmp .ne 13, 3) := by decide +kernel
theorem dX12_copy_105 : decode cX12_copy 105 = .ok (.iload_n 2, 1) := by decide +kernel
theorem dX12_copy_106 : decode cX12_copy 106 = .ok (.iload 4, 2) := by decide +kernel
theorem dX12_copy_108 : decode cX12_copy 108 = .ok (.if_icmp .ge 7, 3) := by decide +kernel
theorem dX12_copy_111 : decode cX12_copy 111 = .ok (.iconst 1, 1) := by decide +kernel
theorem dX12_copy_112 : decode cX12_copy 112 = .ok (.goto 4, 3) := by decide +kernel
theorem dX12_copy_115 : decode cX12_copy 115 = .ok (.iconst 0, 1) := by decide +kernel
theorem dX12_copy_116 : decode cX12_copy 116 = .ok (.istore 6, 2) := by decide +kernel
theorem dX12_copy_118 : decode cX12_copy 118 = .ok (.iconst 0, 1) := by decide +kernel
theorem dX12_copy_119 : decode cX12_copy 119 = .ok (.istore 7, 2) := by decide +kernel
theorem dX12_copy_121 : decode cX12_copy 121 = .ok (.iload 7, 2) := by decide +kernel
theorem dX12_copy_123 : decode cX12_copy 123 = .ok (.iload 5, 2) := by decide +kernel
theorem dX12_copy_125 : decode cX12_copy 125 = .ok (.if_icmp .ge 57, 3) := by decide +kernel
theorem dX12_copy_128 : decode cX12_copy 128 = .ok (.iload 6, 2) := by decide +kernel
theorem dX12_copy_130 : decode cX12_copy 130 = .ok (.ifCond .eq 13, 3) := by decide +kernel
theorem dX12_copy_133 : decode cX12_copy 133 = .ok (.iload 5, 2) := by decide +kernel
theorem dX12_copy_135 : decode cX12_copy 135 = .ok (.iconst 1, 1) := by decide +kernel
theorem dX12_copy_136 : decode cX12_copy 136 = .ok (.isub, 1) := by decide +kernel
theorem dX12_copy_137 : decode cX12_copy 137 = .ok (.iload 7, 2) := by decide +kernel
theorem dX12_copy_139 : decode cX12_copy 139 = .ok (.isub, 1) := by decide +kernel
theorem dX12_copy_140 : decode cX12_copy 140 = .ok (.goto 5, 3) := by decide +kernel
theorem dX12_copy_143 : decode cX12_copy 143 = .ok (.iload 7, 2) := by decide +kernel
theorem dX12_copy_145 : decode cX12_copy 145 = .ok (.istore 8, 2) := by decide +kernel
theorem dX12_copy_147 : decode cX12_copy 147 = .ok (.aload_n 0, 1) := by decide +kernel
theorem dX12_copy_148 : decode cX12_copy 148 = .ok (.getfield 105, 3) := by decide +kernel
theorem dX12_copy_151 : decode cX12_copy 151 = .ok (.bipush 40, 2) := by decide +kernel
theorem dX12_copy_153 : decode cX12_copy 153 = .ok (.iload_n 3, 1) := by decide +kernel
theorem dX12_copy_154 : decode cX12_copy 154 = .ok (.imul, 1) := by decide +kernel
theorem dX12_copy_155 : decode cX12_copy 155 = .ok (.iload 4, 2) := by decide +kernel
theorem dX12_copy_157 : decode cX12_copy 157 = .ok (.iadd, 1) := by decide +kernel
theorem dX12_copy_158 : decode cX12_copy 158 = .ok (.iload 8, 2) := by decide +kernel
theorem dX12_copy_160 : decode cX12_copy 160 = .ok (.iadd, 1) := by decide +kernel
theorem dX12_copy_161 : decode cX12_copy 161 = .ok (.aload_n 0, 1) := by decide +kernel
theorem dX12_copy_162 : decode cX12_copy 162 = .ok (.getfield 105, 3) := by decide +kernel
theorem dX12_copy_165 : decode cX12_copy 165 = .ok (.bipush 40, 2) := by decide +kernel
theorem dX12_copy_167 : decode cX12_copy 167 = .ok (.iload_n 1, 1) := by decide +kernel
theorem dX12_copy_168 : decode cX12_copy 168 = .ok (.imul, 1) := by decide +kernel
theorem dX12_copy_169 : decode cX12_copy 169 = .ok (.iload_n 2, 1) := by decide +kernel
theorem dX12_copy_170 : decode cX12_copy 170 = .ok (.iadd, 1) := by decide +kernel
theorem dX12_copy_171 : decode cX12_copy 171 = .ok (.iload 8, 2) := by decide +kernel
theorem dX12_copy_173 : decode cX12_copy 173 = .ok (.iadd, 1) := by decide +kernel
theorem dX12_copy_174 : decode cX12_copy 174 = .ok (.iaload, 1) := by decide +kernel
theorem dX12_copy_175 : decode cX12_copy 175 = .ok (.iastore, 1) := by decide +kernel
theorem dX12_copy_176 : decode cX12_copy 176 = .ok (.iinc 7 1, 3) := by decide +kernel
theorem dX12_copy_179 : decode cX12_copy 179 = .ok (.goto (-58), 3) := by decide +kernel
theorem dX12_copy_182 : decode cX12_copy 182 = .ok (.iload 5, 2) := by decide +kernel
theorem dX12_copy_184 : decode cX12_copy 184 = .ok (.ireturn, 1) := by decide +kernel
theorem dX12_rowers_0 : decode cX12_rowers 0 = .ok (.iload_n 1, 1) := by decide +kernel
theorem dX12_rowers_1 : decode cX12_rowers 1 = .ok (.invokestatic 346, 3) := by decide +kernel
theorem dX12_rowers_4 : decode cX12_rowers 4 = .ok (.ifCond .eq 28, 3) := by decide +kernel
theorem dX12_rowers_7 : decode cX12_rowers 7 = .ok (.iload_n 2, 1) := by decide +kernel
theorem dX12_rowers_8 : decode cX12_rowers 8 = .ok (.i2l, 1) := by decide +kernel
theorem dX12_rowers_9 : decode cX12_rowers 9 = .ok (.lconst 0, 1) := by decide +kernel
theorem dX12_rowers_10 : decode cX12_rowers 10 = .ok (.ldc2_w 381, 3) := by decide +kernel
theorem dX12_rowers_13 : decode cX12_rowers 13 = .ok (.invokestatic 134, 3) := by decide +kernel
theorem dX12_rowers_16 : decode cX12_rowers 16 = .ok (.ifCond .eq 16, 3) := by decide +kernel
theorem dX12_rowers_19 : decode cX12_rowers 19 = .ok (.iload 4, 2) := by decide +kernel
theorem dX12_rowers_21 : decode cX12_rowers 21 = .ok (.i2l, 1) := by decide +kernel
theorem dX12_rowers_22 : decode cX12_rowers 22 = .ok (.lconst 0, 1) := by decide +kernel
theorem dX12_rowers_23 : decode cX12_rowers 23 = .ok (.ldc2_w 422, 3) := by decide +kernel
theorem dX12_rowers_26 : decode cX12_rowers 26 = .ok (.invokestatic 134, 3) := by decide +kernel
theorem dX12_rowers_29 : decode cX12_rowers 29 = .ok (.ifCond .ne 6, 3) := by decide +kernel
theorem dX12_rowers_32 : decode cX12_rowers 32 = .ok (.bipush (-2), 2) := by decide +kernel
theorem dX12_rowers_34 : decode cX12_rowers 34 = .ok (.ireturn, 1) := by decide +kernel
theorem dX12_rowers_35 : decode cX12_rowers 35 = .ok (.aload_n 0, 1) := by decide +kernel
theorem dX12_rowers_36 : decode cX12_rowers 36 = .ok (.getfield 95, 3) := by decide +kernel
theorem dX12_rowers_39 : decode cX12_rowers 39 = .ok (.iload_n 1, 1) := by decide +kernel
theorem dX12_rowers_40 : decode cX12_rowers 40 = .ok (.baload, 1) := by decide +kernel
theorem dX12_rowers_41 : decode cX12_rowers 41 = .ok (.ifCond .eq 16, 3) := by decide +kernel
theorem dX12_rowers_44 : decode cX12_rowers 44 = .ok (.aload_n 0, 1) := by decide +kernel
theorem dX12_rowers_45 : decode cX12_rowers 45 = .ok (.getfield 99, 3) := by decide +kernel
theorem dX12_rowers_48 : decode cX12_rowers 48 = .ok (.iload_n 1, 1) := by decide +kernel
theorem dX12_rowers_49 : decode cX12_rowers 49 = .ok (.iaload, 1) := by decide +kernel
theorem dX12_rowers_50 : decode cX12_rowers 50 = .ok (.iload_n 2, 1) := by decide +kernel
theorem dX12_rowers_51 : decode cX12_rowers 51 = .ok (.if_icmp .eq 6, 3) := by decide +kernel
theorem dX12_rowers_54 : decode cX12_rowers 54 = .ok (.bipush (-13), 2) := by decide +kernel
theorem dX12_rowers_56 : decode cX12_rowers 56 = .ok (.ireturn, 1) := by decide +kernel
theorem dX12_rowers_57 : decode cX12_rowers 57 = .ok (.aload_n 0, 1) := by decide +kernel
theorem dX12_rowers_58 : decode cX12_rowers 58 = .ok (.getfield 95, 3) := by decide +kernel
theorem dX12_rowers_61 : decode cX12_rowers 61 = .ok (.iload_n 1, 1) := by decide +kernel
theorem dX12_rowers_62 : decode cX12_rowers 62 = .ok (.baload, 1) := by decide +kernel
theorem dX12_rowers_63 : decode cX12_rowers 63 = .ok (.ifCond .ne 6, 3) := by decide +kernel
theorem dX12_rowers_66 : decode cX12_rowers 66 = .ok (.bipush (-11), 2) := by decide +kernel
theorem dX12_rowers_68 : decode cX12_rowers 68 = .ok (.ireturn, 1) := by decide +kernel
theorem dX12_rowers_69 : decode cX12_rowers 69 = .ok (.iconst 0, 1) := by decide +kernel
theorem dX12_rowers_70 : decode cX12_rowers 70 = .ok (.istore 5, 2) := by decide +kernel
theorem dX12_rowers_72 : decode cX12_rowers 72 = .ok (.iconst 0, 1) := by decide +kernel
theorem dX12_rowers_73 : decode cX12_rowers 73 = .ok (.istore 6, 2) := by decide +kernel
theorem dX12_rowers_75 : decode cX12_rowers 75 = .ok (.iload 6, 2) := by decide +kernel
theorem dX12_rowers_77 : decode cX12_rowers 77 = .ok (.iload 4, 2) := by decide +kernel
theorem dX12_rowers_79 : decode cX12_rowers 79 = .ok (.if_icmp .ge 88, 3) := by decide +kernel
theorem dX12_rowers_82 : decode cX12_rowers 82 = .ok (.iload_n 3, 1) := by decide +kernel
theorem dX12_rowers_83 : decode cX12_rowers 83 = .ok (.ifCond .lt 20, 3) := by decide +kernel
theorem dX12_rowers_86 : decode cX12_rowers 86 = .ok (.iload_n 3, 1) := by decide +kernel
theorem dX12_rowers_87 : decode cX12_rowers 87 = .ok (.aload_n 0, 1) := by decide +kernel
theorem dX12_rowers_88 : decode cX12_rowers 88 = .ok (.getfield 102, 3) := by decide +kernel
theorem dX12_rowers_91 : decode cX12_rowers 91 = .ok (.iload_n 1, 1) := by decide +kernel
theorem dX12_rowers_92 : decode cX12_rowers 92 = .ok (.iaload, 1) := by decide +kernel
theorem dX12_rowers_93 : decode cX12_rowers 93 = .ok (.iconst 3, 1) := by decide +kernel
theorem dX12_rowers_94 : decode cX12_rowers 94 = .ok (.iload 6, 2) := by decide +kernel
theorem dX12_rowers_96 : decode cX12_rowers 96 = .ok (.imul, 1) := by decide +kernel
theorem dX12_rowers_97 : decode cX12_rowers 97 = .ok (.isub, 1) := by decide +kernel
theorem dX12_rowers_98 : decode cX12_rowers 98 = .ok (.iconst 3, 1) := by decide +kernel
theorem dX12_rowers_99 : decode cX12_rowers 99 = .ok (.isub, 1) := by decide +kernel
theorem dX12_rowers_100 : decode cX12_rowers 100 = .ok (.if_icmp .le 6, 3) := by decide +kernel
theorem dX12_rowers_103 : decode cX12_rowers 103 = .ok (.bipush (-12), 2) := by decide +kernel
theorem dX12_rowers_105 : decode cX12_rowers 105 = .ok (.ireturn, 1) := by decide +kernel
theorem dX12_rowers_106 : decode cX12_rowers 106 = .ok (.bipush 40, 2) := by decide +kernel
theorem dX12_rowers_108 : decode cX12_rowers 108 = .ok (.iload_n 1, 1) := by decide +kernel
theorem dX12_rowers_109 : decode cX12_rowers 109 = .ok (.imul, 1) := by decide +kernel
theorem dX12_rowers_110 : decode cX12_rowers 110 = .ok (.iload_n 3, 1) := by decide +kernel
theorem dX12_rowers_111 : decode cX12_rowers 111 = .ok (.iadd, 1) := by decide +kernel
theorem dX12_rowers_112 : decode cX12_rowers 112 = .ok (.iconst 3, 1) := by decide +kernel
theorem dX12_rowers_113 : decode cX12_rowers 113 = .ok (.iload 6, 2) := by decide +kernel
theorem dX12_rowers_115 : decode cX12_rowers 115 = .ok (.imul, 1) := by decide +kernel
theorem dX12_rowers_116 : decode cX12_rowers 116 = .ok (.iadd, 1) := by decide +kernel
theorem dX12_rowers_117 : decode cX12_rowers 117 = .ok (.istore 7, 2) := by decide +kernel
theorem dX12_rowers_119 : decode cX12_rowers 119 = .ok (.iload 5, 2) := by decide +kernel
theorem dX12_rowers_121 : decode cX12_rowers 121 = .ok (.aload_n 0, 1) := by decide +kernel
theorem dX12_rowers_122 : decode cX12_rowers 122 = .ok (.aload_n 0, 1) := by decide +kernel
theorem dX12_rowers_123 : decode cX12_rowers 123 = .ok (.getfield 105, 3) := by decide +kernel
theorem dX12_rowers_126 : decode cX12_rowers 126 = .ok (.iload 7, 2) := by decide +kernel
theorem dX12_rowers_128 : decode cX12_rowers 128 = .ok (.iaload, 1) := by decide +kernel
theorem dX12_rowers_129 : decode cX12_rowers 129 = .ok (.aload_n 0, 1) := by decide +kernel
theorem dX12_rowers_130 : decode cX12_rowers 130 = .ok (.getfield 105, 3) := by decide +kernel
theorem dX12_rowers_133 : decode cX12_rowers 133 = .ok (.iload 7, 2) := by decide +kernel
theorem dX12_rowers_135 : decode cX12_rowers 135 = .ok (.iconst 1, 1) := by decide +kernel
theorem dX12_rowers_136 : decode cX12_rowers 136 = .ok (.iadd, 1) := by decide +kernel
theorem dX12_rowers_137 : decode cX12_rowers 137 = .ok (.iaload, 1) := by decide +kernel
theorem dX12_rowers_138 : decode cX12_rowers 138 = .ok (.aload_n 0, 1) := by decide +kernel
theorem dX12_rowers_139 : decode cX12_rowers 139 = .ok (.getfield 105, 3) := by decide +kernel
theorem dX12_rowers_142 : decode cX12_rowers 142 = .ok (.iload 7, 2) := by decide +kernel
theorem dX12_rowers_144 : decode cX12_rowers 144 = .ok (.iconst 2, 1) := by decide +kernel
theorem dX12_rowers_145 : decode cX12_rowers 145 = .ok (.iadd, 1) := by decide +kernel
theorem dX12_rowers_146 : decode cX12_rowers 146 = .ok (.iaload, 1) := by decide +kernel
theorem dX12_rowers_147 : decode cX12_rowers 147 = .ok (.invokevirtual 424, 3) := by decide +kernel
theorem dX12_rowers_150 : decode cX12_rowers 150 = .ok (.ifCond .lt 7, 3) := by decide +kernel
theorem dX12_rowers_153 : decode cX12_rowers 153 = .ok (.iconst 1, 1) := by decide +kernel
theorem dX12_rowers_154 : decode cX12_rowers 154 = .ok (.goto 4, 3) := by decide +kernel
theorem dX12_rowers_157 : decode cX12_rowers 157 = .ok (.iconst 0, 1) := by decide +kernel
theorem dX12_rowers_158 : decode cX12_rowers 158 = .ok (.iadd, 1) := by decide +kernel
theorem dX12_rowers_159 : decode cX12_rowers 159 = .ok (.istore 5, 2) := by decide +kernel
theorem dX12_rowers_161 : decode cX12_rowers 161 = .ok (.iinc 6 1, 3) := by decide +kernel
theorem dX12_rowers_164 : decode cX12_rowers 164 = .ok (.goto (-89), 3) := by decide +kernel
theorem dX12_rowers_167 : decode cX12_rowers 167 = .ok (.iload 5, 2) := by decide +kernel
theorem dX12_rowers_169 : decode cX12_rowers 169 = .ok (.ireturn, 1) := by decide +kernel
theorem dX12_over_0 : decode cX12_over 0 = .ok (.iload_n 0, 1) := by decide +kernel
theorem dX12_over_1 : decode cX12_over 1 = .ok (.ifCond .ne 7, 3) := by decide +kernel
theorem dX12_over_4 : decode cX12_over 4 = .ok (.iconst (-1), 1) := by decide +kernel
theorem dX12_over_5 : decode cX12_over 5 = .ok (.goto 22, 3) := by decide +kernel
theorem dX12_over_8 : decode cX12_over 8 = .ok (.iload_n 0, 1) := by decide +kernel
theorem dX12_over_9 : decode cX12_over 9 = .ok (.iconst 3, 1) := by decide +kernel
theorem dX12_over_10 : decode cX12_over 10 = .ok (.if_icmp .ne 7, 3) := by decide +kernel
theorem dX12_over_13 : decode cX12_over 13 = .ok (.iconst 1, 1) := by decide +kernel
theorem dX12_over_14 : decode cX12_over 14 = .ok (.goto 13, 3) := by decide +kernel
theorem dX12_over_17 : decode cX12_over 17 = .ok (.iload_n 0, 1) := by decide +kernel
theorem dX12_over_18 : decode cX12_over 18 = .ok (.iconst 5, 1) := by decide +kernel
theorem dX12_over_19 : decode cX12_over 19 = .ok (.if_icmp .ne 7, 3) := by decide +kernel
theorem dX12_over_22 : decode cX12_over 22 = .ok (.iconst 2, 1) := by decide +kernel
theorem dX12_over_23 : decode cX12_over 23 = .ok (.goto 4, 3) := by decide +kernel
theorem dX12_over_26 : decode cX12_over 26 = .ok (.iconst 0, 1) := by decide +kernel
theorem dX12_over_27 : decode cX12_over 27 = .ok (.ireturn, 1) := by decide +kernel
theorem dX12_taken_0 : decode cX12_taken 0 = .ok (.iload_n 2, 1) := by decide +kernel
theorem dX12_taken_1 : decode cX12_taken 1 = .ok (.i2l, 1) := by decide +kernel
theorem dX12_taken_2 : decode cX12_taken 2 = .ok (.lconst 0, 1) := by decide +kernel
theorem dX12_taken_3 : decode cX12_taken 3 = .ok (.ldc2_w 164, 3) := by decide +kernel
theorem dX12_taken_6 : decode cX12_taken 6 = .ok (.invokestatic 134, 3) := by decide +kernel
theorem dX12_taken_9 : decode cX12_taken 9 = .ok (.ifCond .ne 6, 3) := by decide +kernel
theorem dX12_taken_12 : decode cX12_taken 12 = .ok (.bipush (-2), 2) := by decide +kernel
theorem dX12_taken_14 : decode cX12_taken 14 = .ok (.ireturn, 1) := by decide +kernel
theorem dX12_taken_15 : decode cX12_taken 15 = .ok (.aload_n 0, 1) := by decide +kernel
theorem dX12_taken_16 : decode cX12_taken 16 = .ok (.iload_n 1, 1) := by decide +kernel
theorem dX12_taken_17 : decode cX12_taken 17 = .ok (.invokevirtual 170, 3) := by decide +kernel
theorem dX12_taken_20 : decode cX12_taken 20 = .ok (.ifCond .ne 6, 3) := by decide +kernel
theorem dX12_taken_23 : decode cX12_taken 23 = .ok (.bipush (-11), 2) := by decide +kernel
theorem dX12_taken_25 : decode cX12_taken 25 = .ok (.ireturn, 1) := by decide +kernel
theorem dX12_taken_26 : decode cX12_taken 26 = .ok (.aload_n 0, 1) := by decide +kernel
theorem dX12_taken_27 : decode cX12_taken 27 = .ok (.getfield 35, 3) := by decide +kernel
theorem dX12_taken_30 : decode cX12_taken 30 = .ok (.iload_n 1, 1) := by decide +kernel
theorem dX12_taken_31 : decode cX12_taken 31 = .ok (.iaload, 1) := by decide +kernel
theorem dX12_taken_32 : decode cX12_taken 32 = .ok (.istore_n 3, 1) := by decide +kernel
theorem dX12_taken_33 : decode cX12_taken 33 = .ok (.iload_n 3, 1) := by decide +kernel
theorem dX12_taken_34 : decode cX12_taken 34 = .ok (.iconst (-1), 1) := by decide +kernel
theorem dX12_taken_35 : decode cX12_taken 35 = .ok (.if_icmp .eq 16, 3) := by decide +kernel
theorem dX12_taken_38 : decode cX12_taken 38 = .ok (.iload_n 3, 1) := by decide +kernel
theorem dX12_taken_39 : decode cX12_taken 39 = .ok (.iload_n 2, 1) := by decide +kernel
theorem dX12_taken_40 : decode cX12_taken 40 = .ok (.if_icmp .eq 11, 3) := by decide +kernel
theorem dX12_taken_43 : decode cX12_taken 43 = .ok (.iload_n 3, 1) := by decide +kernel
theorem dX12_taken_44 : decode cX12_taken 44 = .ok (.invokestatic 427, 3) := by decide +kernel
theorem dX12_taken_47 : decode cX12_taken 47 = .ok (.istore_n 3, 1) := by decide +kernel
theorem dX12_taken_48 : decode cX12_taken 48 = .ok (.goto (-15), 3) := by decide +kernel
theorem dX12_taken_51 : decode cX12_taken 51 = .ok (.iload_n 3, 1) := by decide +kernel
theorem dX12_taken_52 : decode cX12_taken 52 = .ok (.iload_n 2, 1) := by decide +kernel
theorem dX12_taken_53 : decode cX12_taken 53 = .ok (.if_icmp .ne 12, 3) := by decide +kernel
theorem dX12_taken_56 : decode cX12_taken 56 = .ok (.aload_n 0, 1) := by decide +kernel
theorem dX12_taken_57 : decode cX12_taken 57 = .ok (.getfield 41, 3) := by decide +kernel
theorem dX12_taken_60 : decode cX12_taken 60 = .ok (.iload_n 1, 1) := by decide +kernel
theorem dX12_taken_61 : decode cX12_taken 61 = .ok (.iaload, 1) := by decide +kernel
theorem dX12_taken_62 : decode cX12_taken 62 = .ok (.goto 5, 3) := by decide +kernel
theorem dX12_taken_65 : decode cX12_taken 65 = .ok (.bipush (-13), 2) := by decide +kernel
theorem dX12_taken_67 : decode cX12_taken 67 = .ok (.ireturn, 1) := by decide +kernel
