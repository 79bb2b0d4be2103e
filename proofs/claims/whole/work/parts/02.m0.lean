theorem dX12_init_0 : decode cX12_init 0 = .ok (.aload_n 0, 1) := by decide +kernel
theorem dX12_init_1 : decode cX12_init 1 = .ok (.invokespecial 3, 3) := by decide +kernel
theorem dX12_init_4 : decode cX12_init 4 = .ok (.aload_n 0, 1) := by decide +kernel
theorem dX12_init_5 : decode cX12_init 5 = .ok (.iconst 2, 1) := by decide +kernel
theorem dX12_init_6 : decode cX12_init 6 = .ok (.anewarray 9, 3) := by decide +kernel
theorem dX12_init_9 : decode cX12_init 9 = .ok (.dup, 1) := by decide +kernel
theorem dX12_init_10 : decode cX12_init 10 = .ok (.iconst 0, 1) := by decide +kernel
theorem dX12_init_11 : decode cX12_init 11 = .ok (.ldc 11, 2) := by decide +kernel
theorem dX12_init_13 : decode cX12_init 13 = .ok (.aastore, 1) := by decide +kernel
theorem dX12_init_14 : decode cX12_init 14 = .ok (.dup, 1) := by decide +kernel
theorem dX12_init_15 : decode cX12_init 15 = .ok (.iconst 1, 1) := by decide +kernel
theorem dX12_init_16 : decode cX12_init 16 = .ok (.ldc 13, 2) := by decide +kernel
theorem dX12_init_18 : decode cX12_init 18 = .ok (.aastore, 1) := by decide +kernel
theorem dX12_init_19 : decode cX12_init 19 = .ok (.putfield 15, 3) := by decide +kernel
theorem dX12_init_22 : decode cX12_init 22 = .ok (.aload_n 0, 1) := by decide +kernel
theorem dX12_init_23 : decode cX12_init 23 = .ok (.bipush 6, 2) := by decide +kernel
theorem dX12_init_25 : decode cX12_init 25 = .ok (.anewarray 9, 3) := by decide +kernel
theorem dX12_init_28 : decode cX12_init 28 = .ok (.dup, 1) := by decide +kernel
theorem dX12_init_29 : decode cX12_init 29 = .ok (.iconst 0, 1) := by decide +kernel
theorem dX12_init_30 : decode cX12_init 30 = .ok (.ldc 19, 2) := by decide +kernel
theorem dX12_init_32 : decode cX12_init 32 = .ok (.aastore, 1) := by decide +kernel
theorem dX12_init_33 : decode cX12_init 33 = .ok (.dup, 1) := by decide +kernel
theorem dX12_init_34 : decode cX12_init 34 = .ok (.iconst 1, 1) := by decide +kernel
theorem dX12_init_35 : decode cX12_init 35 = .ok (.ldc 21, 2) := by decide +kernel
theorem dX12_init_37 : decode cX12_init 37 = .ok (.aastore, 1) := by decide +kernel
theorem dX12_init_38 : decode cX12_init 38 = .ok (.dup, 1) := by decide +kernel
theorem dX12_init_39 : decode cX12_init 39 = .ok (.iconst 2, 1) := by decide +kernel
theorem dX12_init_40 : decode cX12_init 40 = .ok (.ldc 23, 2) := by decide +kernel
theorem dX12_init_42 : decode cX12_init 42 = .ok (.aastore, 1) := by decide +kernel
theorem dX12_init_43 : decode cX12_init 43 = .ok (.dup, 1) := by decide +kernel
theorem dX12_init_44 : decode cX12_init 44 = .ok (.iconst 3, 1) := by decide +kernel
theorem dX12_init_45 : decode cX12_init 45 = .ok (.ldc 25, 2) := by decide +kernel
theorem dX12_init_47 : decode cX12_init 47 = .ok (.aastore, 1) := by decide +kernel
theorem dX12_init_48 : decode cX12_init 48 = .ok (.dup, 1) := by decide +kernel
theorem dX12_init_49 : decode cX12_init 49 = .ok (.iconst 4, 1) := by decide +kernel
theorem dX12_init_50 : decode cX12_init 50 = .ok (.ldc 27, 2) := by decide +kernel
theorem dX12_init_52 : decode cX12_init 52 = .ok (.aastore, 1) := by decide +kernel
theorem dX12_init_53 : decode cX12_init 53 = .ok (.dup, 1) := by decide +kernel
theorem dX12_init_54 : decode cX12_init 54 = .ok (.iconst 5, 1) := by decide +kernel
theorem dX12_init_55 : decode cX12_init 55 = .ok (.ldc 29, 2) := by decide +kernel
theorem dX12_init_57 : decode cX12_init 57 = .ok (.aastore, 1) := by decide +kernel
theorem dX12_init_58 : decode cX12_init 58 = .ok (.putfield 31, 3) := by decide +kernel
theorem dX12_init_61 : decode cX12_init 61 = .ok (.aload_n 0, 1) := by decide +kernel
theorem dX12_init_62 : decode cX12_init 62 = .ok (.bipush 10, 2) := by decide +kernel
theorem dX12_init_64 : decode cX12_init 64 = .ok (.newarray .int, 2) := by decide +kernel
theorem dX12_init_66 : decode cX12_init 66 = .ok (.putfield 34, 3) := by decide +kernel
theorem dX12_init_69 : decode cX12_init 69 = .ok (.aload_n 0, 1) := by decide +kernel
theorem dX12_init_70 : decode cX12_init 70 = .ok (.bipush 18, 2) := by decide +kernel
theorem dX12_init_72 : decode cX12_init 72 = .ok (.newarray .int, 2) := by decide +kernel
theorem dX12_init_74 : decode cX12_init 74 = .ok (.putfield 38, 3) := by decide +kernel
theorem dX12_init_77 : decode cX12_init 77 = .ok (.aload_n 0, 1) := by decide +kernel
theorem dX12_init_78 : decode cX12_init 78 = .ok (.bipush 18, 2) := by decide +kernel
theorem dX12_init_80 : decode cX12_init 80 = .ok (.newarray .int, 2) := by decide +kernel
theorem dX12_init_82 : decode cX12_init 82 = .ok (.putfield 41, 3) := by decide +kernel
theorem dX12_init_85 : decode cX12_init 85 = .ok (.aload_n 0, 1) := by decide +kernel
theorem dX12_init_86 : decode cX12_init 86 = .ok (.bipush 18, 2) := by decide +kernel
theorem dX12_init_88 : decode cX12_init 88 = .ok (.newarray .int, 2) := by decide +kernel
theorem dX12_init_90 : decode cX12_init 90 = .ok (.putfield 44, 3) := by decide +kernel
theorem dX12_init_93 : decode cX12_init 93 = .ok (.aload_n 0, 1) := by decide +kernel
theorem dX12_init_94 : decode cX12_init 94 = .ok (.bipush 18, 2) := by decide +kernel
theorem dX12_init_96 : decode cX12_init 96 = .ok (.newarray .int, 2) := by decide +kernel
theorem dX12_init_98 : decode cX12_init 98 = .ok (.putfield 47, 3) := by decide +kernel
theorem dX12_init_101 : decode cX12_init 101 = .ok (.aload_n 0, 1) := by decide +kernel
theorem dX12_init_102 : decode cX12_init 102 = .ok (.bipush 18, 2) := by decide +kernel
theorem dX12_init_104 : decode cX12_init 104 = .ok (.newarray .int, 2) := by decide +kernel
theorem dX12_init_106 : decode cX12_init 106 = .ok (.putfield 50, 3) := by decide +kernel
theorem dX12_init_109 : decode cX12_init 109 = .ok (.aload_n 0, 1) := by decide +kernel
theorem dX12_init_110 : decode cX12_init 110 = .ok (.bipush 16, 2) := by decide +kernel
theorem dX12_init_112 : decode cX12_init 112 = .ok (.newarray .int, 2) := by decide +kernel
theorem dX12_init_114 : decode cX12_init 114 = .ok (.putfield 53, 3) := by decide +kernel
theorem dX12_init_117 : decode cX12_init 117 = .ok (.aload_n 0, 1) := by decide +kernel
theorem dX12_init_118 : decode cX12_init 118 = .ok (.sipush 1400, 3) := by decide +kernel
theorem dX12_init_121 : decode cX12_init 121 = .ok (.newarray .int, 2) := by decide +kernel
theorem dX12_init_123 : decode cX12_init 123 = .ok (.putfield 56, 3) := by decide +kernel
theorem dX12_init_126 : decode cX12_init 126 = .ok (.aload_n 0, 1) := by decide +kernel
theorem dX12_init_127 : decode cX12_init 127 = .ok (.iconst 3, 1) := by decide +kernel
theorem dX12_init_128 : decode cX12_init 128 = .ok (.newarray .int, 2) := by decide +kernel
theorem dX12_init_130 : decode cX12_init 130 = .ok (.putfield 59, 3) := by decide +kernel
theorem dX12_init_133 : decode cX12_init 133 = .ok (.aload_n 0, 1) := by decide +kernel
theorem dX12_init_134 : decode cX12_init 134 = .ok (.sipush 700, 3) := by decide +kernel
theorem dX12_init_137 : decode cX12_init 137 = .ok (.newarray .int, 2) := by decide +kernel
theorem dX12_init_139 : decode cX12_init 139 = .ok (.putfield 62, 3) := by decide +kernel
theorem dX12_init_142 : decode cX12_init 142 = .ok (.aload_n 0, 1) := by decide +kernel
theorem dX12_init_143 : decode cX12_init 143 = .ok (.iconst (-1), 1) := by decide +kernel
theorem dX12_init_144 : decode cX12_init 144 = .ok (.putfield 65, 3) := by decide +kernel
theorem dX12_init_147 : decode cX12_init 147 = .ok (.aload_n 0, 1) := by decide +kernel
theorem dX12_init_148 : decode cX12_init 148 = .ok (.bipush 9, 2) := by decide +kernel
theorem dX12_init_150 : decode cX12_init 150 = .ok (.newarray .int, 2) := by decide +kernel
theorem dX12_init_152 : decode cX12_init 152 = .ok (.putfield 69, 3) := by decide +kernel
theorem dX12_init_155 : decode cX12_init 155 = .ok (.aload_n 0, 1) := by decide +kernel
theorem dX12_init_156 : decode cX12_init 156 = .ok (.bipush 9, 2) := by decide +kernel
theorem dX12_init_158 : decode cX12_init 158 = .ok (.newarray .int, 2) := by decide +kernel
theorem dX12_init_160 : decode cX12_init 160 = .ok (.putfield 72, 3) := by decide +kernel
theorem dX12_init_163 : decode cX12_init 163 = .ok (.aload_n 0, 1) := by decide +kernel
theorem dX12_init_164 : decode cX12_init 164 = .ok (.bipush 9, 2) := by decide +kernel
theorem dX12_init_166 : decode cX12_init 166 = .ok (.newarray .int, 2) := by decide +kernel
theorem dX12_init_168 : decode cX12_init 168 = .ok (.putfield 75, 3) := by decide +kernel
theorem dX12_init_171 : decode cX12_init 171 = .ok (.aload_n 0, 1) := by decide +kernel
theorem dX12_init_172 : decode cX12_init 172 = .ok (.bipush 9, 2) := by decide +kernel
theorem dX12_init_174 : decode cX12_init 174 = .ok (.newarray .int, 2) := by decide +kernel
theorem dX12_init_176 : decode cX12_init 176 = .ok (.putfield 78, 3) := by decide +kernel
theorem dX12_init_179 : decode cX12_init 179 = .ok (.aload_n 0, 1) := by decide +kernel
theorem dX12_init_180 : decode cX12_init 180 = .ok (.sipush 1520, 3) := by decide +kernel
theorem dX12_init_183 : decode cX12_init 183 = .ok (.newarray .int, 2) := by decide +kernel
theorem dX12_init_185 : decode cX12_init 185 = .ok (.putfield 81, 3) := by decide +kernel
theorem dX12_init_188 : decode cX12_init 188 = .ok (.aload_n 0, 1) := by decide +kernel
theorem dX12_init_189 : decode cX12_init 189 = .ok (.iconst (-1), 1) := by decide +kernel
theorem dX12_init_190 : decode cX12_init 190 = .ok (.putfield 84, 3) := by decide +kernel
theorem dX12_init_193 : decode cX12_init 193 = .ok (.aload_n 0, 1) := by decide +kernel
theorem dX12_init_194 : decode cX12_init 194 = .ok (.bipush 6, 2) := by decide +kernel
theorem dX12_init_196 : decode cX12_init 196 = .ok (.newarray .int, 2) := by decide +kernel
theorem dX12_init_198 : decode cX12_init 198 = .ok (.putfield 87, 3) := by decide +kernel
theorem dX12_init_201 : decode cX12_init 201 = .ok (.aload_n 0, 1) := by decide +kernel
theorem dX12_init_202 : decode cX12_init 202 = .ok (.bipush 64, 2) := by decide +kernel
theorem dX12_init_204 : decode cX12_init 204 = .ok (.newarray .int, 2) := by decide +kernel
theorem dX12_init_206 : decode cX12_init 206 = .ok (.putfield 90, 3) := by decide +kernel
theorem dX12_init_209 : decode cX12_init 209 = .ok (.aload_n 0, 1) := by decide +kernel
theorem dX12_init_210 : decode cX12_init 210 = .ok (.bipush 9, 2) := by decide +kernel
theorem dX12_init_212 : decode cX12_init 212 = .ok (.newarray .int, 2) := by decide +kernel
theorem dX12_init_214 : decode cX12_init 214 = .ok (.putfield 93, 3) := by decide +kernel
theorem dX12_init_217 : decode cX12_init 217 = .ok (.aload_n 0, 1) := by decide +kernel
theorem dX12_init_218 : decode cX12_init 218 = .ok (.bipush 38, 2) := by decide +kernel
theorem dX12_init_220 : decode cX12_init 220 = .ok (.newarray .int, 2) := by decide +kernel
theorem dX12_init_222 : decode cX12_init 222 = .ok (.putfield 96, 3) := by decide +kernel
theorem dX12_init_225 : decode cX12_init 225 = .ok (.aload_n 0, 1) := by decide +kernel
theorem dX12_init_226 : decode cX12_init 226 = .ok (.bipush 9, 2) := by decide +kernel
theorem dX12_init_228 : decode cX12_init 228 = .ok (.newarray .int, 2) := by decide +kernel
theorem dX12_init_230 : decode cX12_init 230 = .ok (.putfield 99, 3) := by decide +kernel
theorem dX12_init_233 : decode cX12_init 233 = .ok (.aload_n 0, 1) := by decide +kernel
theorem dX12_init_234 : decode cX12_init 234 = .ok (.bipush 38, 2) := by decide +kernel
theorem dX12_init_236 : decode cX12_init 236 = .ok (.newarray .int, 2) := by decide +kernel
theorem dX12_init_238 : decode cX12_init 238 = .ok (.putfield 102, 3) := by decide +kernel
theorem dX12_init_241 : decode cX12_init 241 = .ok (.aload_n 0, 1) := by decide +kernel
theorem dX12_init_242 : decode cX12_init 242 = .ok (.bipush 8, 2) := by decide +kernel
theorem dX12_init_244 : decode cX12_init 244 = .ok (.newarray .int, 2) := by decide +kernel
theorem dX12_init_246 : decode cX12_init 246 = .ok (.putfield 105, 3) := by decide +kernel
theorem dX12_init_249 : decode cX12_init 249 = .ok (.aload_n 0, 1) := by decide +kernel
theorem dX12_init_250 : decode cX12_init 250 = .ok (.bipush 8, 2) := by decide +kernel
theorem dX12_init_252 : decode cX12_init 252 = .ok (.newarray .int, 2) := by decide +kernel
theorem dX12_init_254 : decode cX12_init 254 = .ok (.putfield 108, 3) := by decide +kernel
theorem dX12_init_257 : decode cX12_init 257 = .ok (.aload_n 0, 1) := by decide +kernel
theorem dX12_init_258 : decode cX12_init 258 = .ok (.bipush 38, 2) := by decide +kernel
theorem dX12_init_260 : decode cX12_init 260 = .ok (.newarray .int, 2) := by decide +kernel
theorem dX12_init_262 : decode cX12_init 262 = .ok (.putfield 111, 3) := by decide +kernel
theorem dX12_init_265 : decode cX12_init 265 = .ok (.aload_n 0, 1) := by decide +kernel
theorem dX12_init_266 : decode cX12_init 266 = .ok (.bipush 8, 2) := by decide +kernel
theorem dX12_init_268 : decode cX12_init 268 = .ok (.newarray .boolean, 2) := by decide +kernel
theorem dX12_init_270 : decode cX12_init 270 = .ok (.putfield 114, 3) := by decide +kernel
theorem dX12_init_273 : decode cX12_init 273 = .ok (.aload_n 0, 1) := by decide +kernel
theorem dX12_init_274 : decode cX12_init 274 = .ok (.sipush 180, 3) := by decide +kernel
theorem dX12_init_277 : decode cX12_init 277 = .ok (.newarray .int, 2) := by decide +kernel
theorem dX12_init_279 : decode cX12_init 279 = .ok (.putfield 118, 3) := by decide +kernel
theorem dX12_init_282 : decode cX12_init 282 = .ok (.aload_n 0, 1) := by decide +kernel
theorem dX12_init_283 : decode cX12_init 283 = .ok (.bipush 8, 2) := by decide +kernel
theorem dX12_init_285 : decode cX12_init 285 = .ok (.newarray .int, 2) := by decide +kernel
theorem dX12_init_287 : decode cX12_init 287 = .ok (.putfield 121, 3) := by decide +kernel
theorem dX12_init_290 : decode cX12_init 290 = .ok (.aload_n 0, 1) := by decide +kernel
theorem dX12_init_291 : decode cX12_init 291 = .ok (.bipush 38, 2) := by decide +kernel
theorem dX12_init_293 : decode cX12_init 293 = .ok (.newarray .int, 2) := by decide +kernel
theorem dX12_init_295 : decode cX12_init 295 = .ok (.putfield 124, 3) := by decide +kernel
theorem dX12_init_298 : decode cX12_init 298 = .ok (.aload_n 0, 1) := by decide +kernel
theorem dX12_init_299 : decode cX12_init 299 = .ok (.sipush 1520, 3) := by decide +kernel
theorem dX12_init_302 : decode cX12_init 302 = .ok (.newarray .int, 2) := by decide +kernel
theorem dX12_init_304 : decode cX12_init 304 = .ok (.putfield 127, 3) := by decide +kernel
theorem dX12_init_307 : decode cX12_init 307 = .ok (.aload_n 0, 1) := by decide +kernel
theorem dX12_init_308 : decode cX12_init 308 = .ok (.bipush 8, 2) := by decide +kernel
theorem dX12_init_310 : decode cX12_init 310 = .ok (.newarray .int, 2) := by decide +kernel
theorem dX12_init_312 : decode cX12_init 312 = .ok (.putfield 130, 3) := by decide +kernel
theorem dX12_init_315 : decode cX12_init 315 = .ok (.aload_n 0, 1) := by decide +kernel
theorem dX12_init_316 : decode cX12_init 316 = .ok (.bipush 8, 2) := by decide +kernel
theorem dX12_init_318 : decode cX12_init 318 = .ok (.newarray .int, 2) := by decide +kernel
theorem dX12_init_320 : decode cX12_init 320 = .ok (.putfield 133, 3) := by decide +kernel
theorem dX12_init_323 : decode cX12_init 323 = .ok (.aload_n 0, 1) := by decide +kernel
theorem dX12_init_324 : decode cX12_init 324 = .ok (.iconst 3, 1) := by decide +kernel
theorem dX12_init_325 : decode cX12_init 325 = .ok (.newarray .int, 2) := by decide +kernel
theorem dX12_init_327 : decode cX12_init 327 = .ok (.putfield 136, 3) := by decide +kernel
theorem dX12_init_330 : decode cX12_init 330 = .ok (.aload_n 0, 1) := by decide +kernel
theorem dX12_init_331 : decode cX12_init 331 = .ok (.bipush 8, 2) := by decide +kernel
theorem dX12_init_333 : decode cX12_init 333 = .ok (.newarray .boolean, 2) := by decide +kernel
theorem dX12_init_335 : decode cX12_init 335 = .ok (.putfield 139, 3) := by decide +kernel
theorem dX12_init_338 : decode cX12_init 338 = .ok (.aload_n 0, 1) := by decide +kernel
theorem dX12_init_339 : decode cX12_init 339 = .ok (.getfield 34, 3) := by decide +kernel
theorem dX12_init_342 : decode cX12_init 342 = .ok (.iconst 1, 1) := by decide +kernel
theorem dX12_init_343 : decode cX12_init 343 = .ok (.bipush 60, 2) := by decide +kernel
theorem dX12_init_345 : decode cX12_init 345 = .ok (.iastore, 1) := by decide +kernel
theorem dX12_init_346 : decode cX12_init 346 = .ok (.aload_n 0, 1) := by decide +kernel
theorem dX12_init_347 : decode cX12_init 347 = .ok (.getfield 34, 3) := by decide +kernel
theorem dX12_init_350 : decode cX12_init 350 = .ok (.iconst 2, 1) := by decide +kernel
theorem dX12_init_351 : decode cX12_init 351 = .ok (.iconst 3, 1) := by decide +kernel
theorem dX12_init_352 : decode cX12_init 352 = .ok (.iastore, 1) := by decide +kernel
theorem dX12_init_353 : decode cX12_init 353 = .ok (.return_, 1) := by decide +kernel
theorem dX12_thrown_0 : decode cX12_thrown 0 = .ok (.aload_n 0, 1) := by decide +kernel
theorem dX12_thrown_1 : decode cX12_thrown 1 = .ok (.getfield 142, 3) := by decide +kernel
theorem dX12_thrown_4 : decode cX12_thrown 4 = .ok (.ireturn, 1) := by decide +kernel
theorem dX12_fail_0 : decode cX12_fail 0 = .ok (.aload_n 0, 1) := by decide +kernel
theorem dX12_fail_1 : decode cX12_fail 1 = .ok (.iload_n 1, 1) := by decide +kernel
theorem dX12_fail_2 : decode cX12_fail 2 = .ok (.putfield 142, 3) := by decide +kernel
theorem dX12_fail_5 : decode cX12_fail 5 = .ok (.iconst 0, 1) := by decide +kernel
theorem dX12_fail_6 : decode cX12_fail 6 = .ok (.ireturn, 1) := by decide +kernel
theorem dX12_failing_0 : decode cX12_failing 0 = .ok (.aload_n 0, 1) := by decide +kernel
theorem dX12_failing_1 : decode cX12_failing 1 = .ok (.iload_n 1, 1) := by decide +kernel
theorem dX12_failing_2 : decode cX12_failing 2 = .ok (.putfield 142, 3) := by decide +kernel
theorem dX12_failing_5 : decode cX12_failing 5 = .ok (.iconst 0, 1) := by decide +kernel
theorem dX12_failing_6 : decode cX12_failing 6 = .ok (.ireturn, 1) := by decide +kernel
theorem dX12_isIn_0 : decode cX12_isIn 0 = .ok (.lload_n 0, 1) := by decide +kernel
theorem dX12_isIn_1 : decode cX12_isIn 1 = .ok (.lload_n 2, 1) := by decide +kernel
theorem dX12_isIn_2 : decode cX12_isIn 2 = .ok (.lcmp, 1) := by decide +kernel
theorem dX12_isIn_3 : decode cX12_isIn 3 = .ok (.ifCond .lt 14, 3) := by decide +kernel
theorem dX12_isIn_6 : decode cX12_isIn 6 = .ok (.lload_n 0, 1) := by decide +kernel
theorem dX12_isIn_7 : decode cX12_isIn 7 = .ok (.lload 4, 2) := by decide +kernel
theorem dX12_isIn_9 : decode cX12_isIn 9 = .ok (.lcmp, 1) := by decide +kernel
theorem dX12_isIn_10 : decode cX12_isIn 10 = .ok (.ifCond .gt 7, 3) := by decide +kernel
theorem dX12_isIn_13 : decode cX12_isIn 13 = .ok (.iconst 1, 1) := by decide +kernel
theorem dX12_isIn_14 : decode cX12_isIn 14 = .ok (.goto 4, 3) := by decide +kernel
theorem dX12_isIn_17 : decode cX12_isIn 17 = .ok (.iconst 0, 1) := by decide +kernel
theorem dX12_isIn_18 : decode cX12_isIn 18 = .ok (.ireturn, 1) := by decide +kernel
theorem dX12_isOf_0 : decode cX12_isOf 0 = .ok (.iload_n 0, 1) := by decide +kernel
theorem dX12_isOf_1 : decode cX12_isOf 1 = .ok (.iload_n 1, 1) := by decide +kernel
theorem dX12_isOf_2 : decode cX12_isOf 2 = .ok (.ishr, 1) := by decide +kernel
theorem dX12_isOf_3 : decode cX12_isOf 3 = .ok (.iconst 1, 1) := by decide +kernel
theorem dX12_isOf_4 : decode cX12_isOf 4 = .ok (.iand, 1) := by decide +kernel
theorem dX12_isOf_5 : decode cX12_isOf 5 = .ok (.iconst 1, 1) := by decide +kernel
theorem dX12_isOf_6 : decode cX12_isOf 6 = .ok (.if_icmp .ne 7, 3) := by decide +kernel
theorem dX12_isOf_9 : decode cX12_isOf 9 = .ok (.iconst 1, 1) := by decide +kernel
theorem dX12_isOf_10 : decode cX12_isOf 10 = .ok (.goto 4, 3) := by decide +kernel
theorem dX12_isOf_13 : decode cX12_isOf 13 = .ok (.iconst 0, 1) := by decide +kernel
theorem dX12_isOf_14 : decode cX12_isOf 14 = .ok (.ireturn, 1) := by decide +kernel
theorem dX12_bitsOf_0 : decode cX12_bitsOf 0 = .ok (.iconst 0, 1) := by decide +kernel
theorem dX12_bitsOf_1 : decode cX12_bitsOf 1 = .ok (.istore_n 1, 1) := by decide +kernel
theorem dX12_bitsOf_2 : decode cX12_bitsOf 2 = .ok (.iload_n 0, 1) := by decide +kernel
theorem dX12_bitsOf_3 : decode cX12_bitsOf 3 = .ok (.istore_n 2, 1) := by decide +kernel
theorem dX12_bitsOf_4 : decode cX12_bitsOf 4 = .ok (.iload_n 2, 1) := by decide +kernel
theorem dX12_bitsOf_5 : decode cX12_bitsOf 5 = .ok (.ifCond .eq 15, 3) := by decide +kernel
theorem dX12_bitsOf_8 : decode cX12_bitsOf 8 = .ok (.iinc 1 1, 3) := by decide +kernel
theorem dX12_bitsOf_11 : decode cX12_bitsOf 11 = .ok (.iload_n 2, 1) := by decide +kernel
theorem dX12_bitsOf_12 : decode cX12_bitsOf 12 = .ok (.iload_n 2, 1) := by decide +kernel
theorem dX12_bitsOf_13 : decode cX12_bitsOf 13 = .ok (.iconst 1, 1) := by decide +kernel
theorem dX12_bitsOf_14 : decode cX12_bitsOf 14 = .ok (.isub, 1) := by decide +kernel
theorem dX12_bitsOf_15 : decode cX12_bitsOf 15 = .ok (.iand, 1) := by decide +kernel
theorem dX12_bitsOf_16 : decode cX12_bitsOf 16 = .ok (.istore_n 2, 1) := by decide +kernel
theorem dX12_bitsOf_17 : decode cX12_bitsOf 17 = .ok (.goto (-13), 3) := by decide +kernel
theorem dX12_bitsOf_20 : decode cX12_bitsOf 20 = .ok (.iload_n 1, 1) := by decide +kernel
theorem dX12_bitsOf_21 : decode cX12_bitsOf 21 = .ok (.ireturn, 1) := by decide +kernel
theorem dX12_isFarm_0 : decode cX12_isFarm 0 = .ok (.iload_n 1, 1) := by decide +kernel
theorem dX12_isFarm_1 : decode cX12_isFarm 1 = .ok (.i2l, 1) := by decide +kernel
theorem dX12_isFarm_2 : decode cX12_isFarm 2 = .ok (.lconst 0, 1) := by decide +kernel
theorem dX12_isFarm_3 : decode cX12_isFarm 3 = .ok (.aload_n 0, 1) := by decide +kernel
theorem dX12_isFarm_4 : decode cX12_isFarm 4 = .ok (.getfield 34, 3) := by decide +kernel
theorem dX12_isFarm_7 : decode cX12_isFarm 7 = .ok (.iconst 0, 1) := by decide +kernel
theorem dX12_isFarm_8 : decode cX12_isFarm 8 = .ok (.iaload, 1) := by decide +kernel
theorem dX12_isFarm_9 : decode cX12_isFarm 9 = .ok (.iconst 1, 1) := by decide +kernel
theorem dX12_isFarm_10 : decode cX12_isFarm 10 = .ok (.isub, 1) := by decide +kernel
theorem dX12_isFarm_11 : decode cX12_isFarm 11 = .ok (.i2l, 1) := by decide +kernel
theorem dX12_isFarm_12 : decode cX12_isFarm 12 = .ok (.invokestatic 145, 3) := by decide +kernel
theorem dX12_isFarm_15 : decode cX12_isFarm 15 = .ok (.ireturn, 1) := by decide +kernel
theorem dX12_all_0 : decode cX12_all 0 = .ok (.iconst 1, 1) := by decide +kernel
theorem dX12_all_1 : decode cX12_all 1 = .ok (.aload_n 0, 1) := by decide +kernel
theorem dX12_all_2 : decode cX12_all 2 = .ok (.getfield 34, 3) := by decide +kernel
theorem dX12_all_5 : decode cX12_all 5 = .ok (.iconst 0, 1) := by decide +kernel
theorem dX12_all_6 : decode cX12_all 6 = .ok (.iaload, 1) := by decide +kernel
theorem dX12_all_7 : decode cX12_all 7 = .ok (.ishl, 1) := by decide +kernel
theorem dX12_all_8 : decode cX12_all 8 = .ok (.iconst 1, 1) := by decide +kernel
theorem dX12_all_9 : decode cX12_all 9 = .ok (.isub, 1) := by decide +kernel
theorem dX12_all_10 : decode cX12_all 10 = .ok (.ireturn, 1) := by decide +kernel
theorem dX12_feed_0 : decode cX12_feed 0 = .ok (.aload_n 0, 1) := by decide +kernel
theorem dX12_feed_1 : decode cX12_feed 1 = .ok (.iconst 0, 1) := by decide +kernel
theorem dX12_feed_2 : decode cX12_feed 2 = .ok (.putfield 142, 3) := by decide +kernel
theorem dX12_feed_5 : decode cX12_feed 5 = .ok (.aload_n 0, 1) := by decide +kernel
theorem dX12_feed_6 : decode cX12_feed 6 = .ok (.getfield 149, 3) := by decide +kernel
theorem dX12_feed_9 : decode cX12_feed 9 = .ok (.bipush 20, 2) := by decide +kernel
theorem dX12_feed_11 : decode cX12_feed 11 = .ok (.iadd, 1) := by decide +kernel
theorem dX12_feed_12 : decode cX12_feed 12 = .ok (.sipush 700, 3) := by decide +kernel
theorem dX12_feed_15 : decode cX12_feed 15 = .ok (.if_icmp .le 5, 3) := by decide +kernel
theorem dX12_feed_18 : decode cX12_feed 18 = .ok (.iconst (-1), 1) := by decide +kernel
theorem dX12_feed_19 : decode cX12_feed 19 = .ok (.ireturn, 1) := by decide +kernel
theorem dX12_feed_20 : decode cX12_feed 20 = .ok (.iconst 0, 1) := by decide +kernel
theorem dX12_feed_21 : decode cX12_feed 21 = .ok (.istore 6, 2) := by decide +kernel
theorem dX12_feed_23 : decode cX12_feed 23 = .ok (.iload 6, 2) := by decide +kernel
theorem dX12_feed_25 : decode cX12_feed 25 = .ok (.bipush 20, 2) := by decide +kernel
theorem dX12_feed_27 : decode cX12_feed 27 = .ok (.if_icmp .ge 93, 3) := by decide +kernel
theorem dX12_feed_30 : decode cX12_feed 30 = .ok (.iload 6, 2) := by decide +kernel
theorem dX12_feed_32 : decode cX12_feed 32 = .ok (.iconst 4, 1) := by decide +kernel
theorem dX12_feed_33 : decode cX12_feed 33 = .ok (.if_icmp .ge 7, 3) := by decide +kernel
theorem dX12_feed_36 : decode cX12_feed 36 = .ok (.iload_n 1, 1) := by decide +kernel
theorem dX12_feed_37 : decode cX12_feed 37 = .ok (.goto 39, 3) := by decide +kernel
theorem dX12_feed_40 : decode cX12_feed 40 = .ok (.iload 6, 2) := by decide +kernel
theorem dX12_feed_42 : decode cX12_feed 42 = .ok (.bipush 8, 2) := by decide +kernel
theorem dX12_feed_44 : decode cX12_feed 44 = .ok (.if_icmp .ge 7, 3) := by decide +kernel
theorem dX12_feed_47 : decode cX12_feed 47 = .ok (.iload_n 2, 1) := by decide +kernel
theorem dX12_feed_48 : decode cX12_feed 48 = .ok (.goto 28, 3) := by decide +kernel
theorem dX12_feed_51 : decode cX12_feed 51 = .ok (.iload 6, 2) := by decide +kernel
theorem dX12_feed_53 : decode cX12_feed 53 = .ok (.bipush 12, 2) := by decide +kernel
theorem dX12_feed_55 : decode cX12_feed 55 = .ok (.if_icmp .ge 7, 3) := by decide +kernel
theorem dX12_feed_58 : decode cX12_feed 58 = .ok (.iload_n 3, 1) := by decide +kernel
theorem dX12_feed_59 : decode cX12_feed 59 = .ok (.goto 17, 3) := by decide +kernel
theorem dX12_feed_62 : decode cX12_feed 62 = .ok (.iload 6, 2) := by decide +kernel
theorem dX12_feed_64 : decode cX12_feed 64 = .ok (.bipush 16, 2) := by decide +kernel
theorem dX12_feed_66 : decode cX12_feed 66 = .ok (.if_icmp .ge 8, 3) := by decide +kernel
theorem dX12_feed_69 : decode cX12_feed 69 = .ok (.iload 4, 2) := by decide +kernel
theorem dX12_feed_71 : decode cX12_feed 71 = .ok (.goto 5, 3) := by decide +kernel
theorem dX12_feed_74 : decode cX12_feed 74 = .ok (.iload 5, 2) := by decide +kernel
theorem dX12_feed_76 : decode cX12_feed 76 = .ok (.istore 7, 2) := by decide +kernel
theorem dX12_feed_78 : decode cX12_feed 78 = .ok (.aload_n 0, 1) := by decide +kernel
theorem dX12_feed_79 : decode cX12_feed 79 = .ok (.getfield 62, 3) := by decide +kernel
theorem dX12_feed_82 : decode cX12_feed 82 = .ok (.aload_n 0, 1) := by decide +kernel
theorem dX12_feed_83 : decode cX12_feed 83 = .ok (.getfield 149, 3) := by decide +kernel
theorem dX12_feed_86 : decode cX12_feed 86 = .ok (.iload 7, 2) := by decide +kernel
theorem dX12_feed_88 : decode cX12_feed 88 = .ok (.bipush 24, 2) := by decide +kernel
theorem dX12_feed_90 : decode cX12_feed 90 = .ok (.bipush 8, 2) := by decide +kernel
theorem dX12_feed_92 : decode cX12_feed 92 = .ok (.iload 6, 2) := by decide +kernel
theorem dX12_feed_94 : decode cX12_feed 94 = .ok (.iconst 4, 1) := by decide +kernel
theorem dX12_feed_95 : decode cX12_feed 95 = .ok (.irem, 1) := by decide +kernel
theorem dX12_feed_96 : decode cX12_feed 96 = .ok (.imul, 1) := by decide +kernel
theorem dX12_feed_97 : decode cX12_feed 97 = .ok (.isub, 1) := by decide +kernel
theorem dX12_feed_98 : decode cX12_feed 98 = .ok (.ishr, 1) := by decide +kernel
theorem dX12_feed_99 : decode cX12_feed 99 = .ok (.sipush 255, 3) := by decide +kernel
theorem dX12_feed_102 : decode cX12_feed 102 = .ok (.iand, 1) := by decide +kernel
theorem dX12_feed_103 : decode cX12_feed 103 = .ok (.iastore, 1) := by decide +kernel
theorem dX12_feed_104 : decode cX12_feed 104 = .ok (.aload_n 0, 1) := by decide +kernel
theorem dX12_feed_105 : decode cX12_feed 105 = .ok (.dup, 1) := by decide +kernel
theorem dX12_feed_106 : decode cX12_feed 106 = .ok (.getfield 149, 3) := by decide +kernel
theorem dX12_feed_109 : decode cX12_feed 109 = .ok (.iconst 1, 1) := by decide +kernel
theorem dX12_feed_110 : decode cX12_feed 110 = .ok (.iadd, 1) := by decide +kernel
theorem dX12_feed_111 : decode cX12_feed 111 = .ok (.putfield 149, 3) := by decide +kernel
theorem dX12_feed_114 : decode cX12_feed 114 = .ok (.iinc 6 1, 3) := by decide +kernel
theorem dX12_feed_117 : decode cX12_feed 117 = .ok (.goto (-94), 3) := by decide +kernel
theorem dX12_feed_120 : decode cX12_feed 120 = .ok (.aload_n 0, 1) := by decide +kernel
theorem dX12_feed_121 : decode cX12_feed 121 = .ok (.getfield 149, 3) := by decide +kernel
theorem dX12_feed_124 : decode cX12_feed 124 = .ok (.ireturn, 1) := by decide +kernel
theorem dX12_byteAt_0 : decode cX12_byteAt 0 = .ok (.iload_n 1, 1) := by decide +kernel
theorem dX12_byteAt_1 : decode cX12_byteAt 1 = .ok (.aload_n 0, 1) := by decide +kernel
theorem dX12_byteAt_2 : decode cX12_byteAt 2 = .ok (.getfield 152, 3) := by decide +kernel
theorem dX12_byteAt_5 : decode cX12_byteAt 5 = .ok (.if_icmp .ge 12, 3) := by decide +kernel
theorem dX12_byteAt_8 : decode cX12_byteAt 8 = .ok (.aload_n 0, 1) := by decide +kernel
theorem dX12_byteAt_9 : decode cX12_byteAt 9 = .ok (.getfield 62, 3) := by decide +kernel
theorem dX12_byteAt_12 : decode cX12_byteAt 12 = .ok (.iload_n 1, 1) := by decide +kernel
theorem dX12_byteAt_13 : decode cX12_byteAt 13 = .ok (.iaload, 1) := by decide +kernel
theorem dX12_byteAt_14 : decode cX12_byteAt 14 = .ok (.goto 4, 3) := by decide +kernel
theorem dX12_byteAt_17 : decode cX12_byteAt 17 = .ok (.iconst (-1), 1) := by decide +kernel
theorem dX12_byteAt_18 : decode cX12_byteAt 18 = .ok (.ireturn, 1) := by decide +kernel
theorem dX12_isLetter_0 : decode cX12_isLetter 0 = .ok (.iload_n 0, 1) := by decide +kernel
theorem dX12_isLetter_1 : decode cX12_isLetter 1 = .ok (.bipush 97, 2) := by decide +kernel
theorem dX12_isLetter_3 : decode cX12_isLetter 3 = .ok (.if_icmp .lt 13, 3) := by decide +kernel
theorem dX12_isLetter_6 : decode cX12_isLetter 6 = .ok (.iload_n 0, 1) := by decide +kernel
theorem dX12_isLetter_7 : decode cX12_isLetter 7 = .ok (.bipush 122, 2) := by decide +kernel
theorem dX12_isLetter_9 : decode cX12_isLetter 9 = .ok (.if_icmp .gt 7, 3) := by decide +kernel
theorem dX12_isLetter_12 : decode cX12_isLetter 12 = .ok (.iconst 1, 1) := by decide +kernel
theorem dX12_isLetter_13 : decode cX12_isLetter 13 = .ok (.goto 4, 3) := by decide +kernel
theorem dX12_isLetter_16 : decode cX12_isLetter 16 = .ok (.iconst 0, 1) := by decide +kernel
theorem dX12_isLetter_17 : decode cX12_isLetter 17 = .ok (.ireturn, 1) := by decide +kernel
theorem dX12_isDigit_0 : decode cX12_isDigit 0 = .ok (.iload_n 0, 1) := by decide +kernel
theorem dX12_isDigit_1 : decode cX12_isDigit 1 = .ok (.bipush 48, 2) := by decide +kernel
theorem dX12_isDigit_3 : decode cX12_isDigit 3 = .ok (.if_icmp .lt 13, 3) := by decide +kernel
theorem dX12_isDigit_6 : decode cX12_isDigit 6 = .ok (.iload_n 0, 1) := by decide +kernel
theorem dX12_isDigit_7 : decode cX12_isDigit 7 = .ok (.bipush 57, 2) := by decide +kernel
theorem dX12_isDigit_9 : decode cX12_isDigit 9 = .ok (.if_icmp .gt 7, 3) := by decide +kernel
theorem dX12_isDigit_12 : decode cX12_isDigit 12 = .ok (.iconst 1, 1) := by decide +kernel
theorem dX12_isDigit_13 : decode cX12_isDigit 13 = .ok (.goto 4, 3) := by decide +kernel
theorem dX12_isDigit_16 : decode cX12_isDigit 16 = .ok (.iconst 0, 1) := by decide +kernel
theorem dX12_isDigit_17 : decode cX12_isDigit 17 = .ok (.ireturn, 1) := by decide +kernel
theorem dX12_isMark_0 : decode cX12_isMark 0 = .ok (.iload_n 0, 1) := by decide +kernel
theorem dX12_isMark_1 : decode cX12_isMark 1 = .ok (.bipush 59, 2) := by decide +kernel
theorem dX12_isMark_3 : decode cX12_isMark 3 = .ok (.if_icmp .eq 51, 3) := by decide +kernel
theorem dX12_isMark_6 : decode cX12_isMark 6 = .ok (.iload_n 0, 1) := by decide +kernel
theorem dX12_isMark_7 : decode cX12_isMark 7 = .ok (.bipush 40, 2) := by decide +kernel
theorem dX12_isMark_9 : decode cX12_isMark 9 = .ok (.if_icmp .eq 45, 3) := by decide +kernel
theorem dX12_isMark_12 : decode cX12_isMark 12 = .ok (.iload_n 0, 1) := by decide +kernel
theorem dX12_isMark_13 : decode cX12_isMark 13 = .ok (.bipush 41, 2) := by decide +kernel
theorem dX12_isMark_15 : decode cX12_isMark 15 = .ok (.if_icmp .eq 39, 3) := by decide +kernel
theorem dX12_isMark_18 : decode cX12_isMark 18 = .ok (.iload_n 0, 1) := by decide +kernel
theorem dX12_isMark_19 : decode cX12_isMark 19 = .ok (.bipush 43, 2) := by decide +kernel
theorem dX12_isMark_21 : decode cX12_isMark 21 = .ok (.if_icmp .eq 33, 3) := by decide +kernel
theorem dX12_isMark_24 : decode cX12_isMark 24 = .ok (.iload_n 0, 1) := by decide +kernel
theorem dX12_isMark_25 : decode cX12_isMark 25 = .ok (.bipush 45, 2) := by decide +kernel
theorem dX12_isMark_27 : decode cX12_isMark 27 = .ok (.if_icmp .eq 27, 3) := by decide +kernel
theorem dX12_isMark_30 : decode cX12_isMark 30 = .ok (.iload_n 0, 1) := by decide +kernel
theorem dX12_isMark_31 : decode cX12_isMark 31 = .ok (.bipush 42, 2) := by decide +kernel
theorem dX12_isMark_33 : decode cX12_isMark 33 = .ok (.if_icmp .eq 21, 3) := by decide +kernel
theorem dX12_isMark_36 : decode cX12_isMark 36 = .ok (.iload_n 0, 1) := by decide +kernel
theorem dX12_isMark_37 : decode cX12_isMark 37 = .ok (.bipush 47, 2) := by decide +kernel
theorem dX12_isMark_39 : decode cX12_isMark 39 = .ok (.if_icmp .eq 15, 3) := by decide +kernel
theorem dX12_isMark_42 : decode cX12_isMark 42 = .ok (.iload_n 0, 1) := by decide +kernel
theorem dX12_isMark_43 : decode cX12_isMark 43 = .ok (.bipush 60, 2) := by decide +kernel
theorem dX12_isMark_45 : decode cX12_isMark 45 = .ok (.if_icmp .eq 9, 3) := by decide +kernel
theorem dX12_isMark_48 : decode cX12_isMark 48 = .ok (.iload_n 0, 1) := by decide +kernel
theorem dX12_isMark_49 : decode cX12_isMark 49 = .ok (.bipush 61, 2) := by decide +kernel
theorem dX12_isMark_51 : decode cX12_isMark 51 = .ok (.if_icmp .ne 7, 3) := by decide +kernel
theorem dX12_isMark_54 : decode cX12_isMark 54 = .ok (.iconst 1, 1) := by decide +kernel
theorem dX12_isMark_55 : decode cX12_isMark 55 = .ok (.goto 4, 3) := by decide +kernel
theorem dX12_isMark_58 : decode cX12_isMark 58 = .ok (.iconst 0, 1) := by decide +kernel
theorem dX12_isMark_59 : decode cX12_isMark 59 = .ok (.ireturn, 1) := by decide +kernel
theorem dX12_stepOn_0 : decode cX12_stepOn 0 = .ok (.aload_n 0, 1) := by decide +kernel
theorem dX12_stepOn_1 : decode cX12_stepOn 1 = .ok (.aload_n 0, 1) := by decide +kernel
theorem dX12_stepOn_2 : decode cX12_stepOn 2 = .ok (.getfield 155, 3) := by decide +kernel
theorem dX12_stepOn_5 : decode cX12_stepOn 5 = .ok (.invokevirtual 158, 3) := by decide +kernel
theorem dX12_stepOn_8 : decode cX12_stepOn 8 = .ok (.bipush 32, 2) := by decide +kernel
theorem dX12_stepOn_10 : decode cX12_stepOn 10 = .ok (.if_icmp .eq 16, 3) := by decide +kernel
theorem dX12_stepOn_13 : decode cX12_stepOn 13 = .ok (.aload_n 0, 1) := by decide +kernel
theorem dX12_stepOn_14 : decode cX12_stepOn 14 = .ok (.aload_n 0, 1) := by decide +kernel
theorem dX12_stepOn_15 : decode cX12_stepOn 15 = .ok (.getfield 155, 3) := by decide +kernel
theorem dX12_stepOn_18 : decode cX12_stepOn 18 = .ok (.invokevirtual 158, 3) := by decide +kernel
theorem dX12_stepOn_21 : decode cX12_stepOn 21 = .ok (.bipush 10, 2) := by decide +kernel
theorem dX12_stepOn_23 : decode cX12_stepOn 23 = .ok (.if_icmp .ne 16, 3) := by decide +kernel
theorem dX12_stepOn_26 : decode cX12_stepOn 26 = .ok (.aload_n 0, 1) := by decide +kernel
theorem dX12_stepOn_27 : decode cX12_stepOn 27 = .ok (.dup, 1) := by decide +kernel
theorem dX12_stepOn_28 : decode cX12_stepOn 28 = .ok (.getfield 155, 3) := by decide +kernel
theorem dX12_stepOn_31 : decode cX12_stepOn 31 = .ok (.iconst 1, 1) := by decide +kernel
theorem dX12_stepOn_32 : decode cX12_stepOn 32 = .ok (.iadd, 1) := by decide +kernel
theorem dX12_stepOn_33 : decode cX12_stepOn 33 = .ok (.putfield 155, 3) := by decide +kernel
theorem dX12_stepOn_36 : decode cX12_stepOn 36 = .ok (.goto (-36), 3) := by decide +kernel
theorem dX12_stepOn_39 : decode cX12_stepOn 39 = .ok (.aload_n 0, 1) := by decide +kernel
theorem dX12_stepOn_40 : decode cX12_stepOn 40 = .ok (.aload_n 0, 1) := by decide +kernel
theorem dX12_stepOn_41 : decode cX12_stepOn 41 = .ok (.getfield 155, 3) := by decide +kernel
theorem dX12_stepOn_44 : decode cX12_stepOn 44 = .ok (.putfield 162, 3) := by decide +kernel
theorem dX12_stepOn_47 : decode cX12_stepOn 47 = .ok (.aload_n 0, 1) := by decide +kernel
theorem dX12_stepOn_48 : decode cX12_stepOn 48 = .ok (.aload_n 0, 1) := by decide +kernel
theorem dX12_stepOn_49 : decode cX12_stepOn 49 = .ok (.getfield 155, 3) := by decide +kernel
theorem dX12_stepOn_52 : decode cX12_stepOn 52 = .ok (.invokevirtual 158, 3) := by decide +kernel
theorem dX12_stepOn_55 : decode cX12_stepOn 55 = .ok (.istore_n 1, 1) := by decide +kernel
theorem dX12_stepOn_56 : decode cX12_stepOn 56 = .ok (.iload_n 1, 1) := by decide +kernel
theorem dX12_stepOn_57 : decode cX12_stepOn 57 = .ok (.iconst (-1), 1) := by decide +kernel
theorem dX12_stepOn_58 : decode cX12_stepOn 58 = .ok (.if_icmp .ne 11, 3) := by decide +kernel
theorem dX12_stepOn_61 : decode cX12_stepOn 61 = .ok (.aload_n 0, 1) := by decide +kernel
theorem dX12_stepOn_62 : decode cX12_stepOn 62 = .ok (.iconst 0, 1) := by decide +kernel
theorem dX12_stepOn_63 : decode cX12_stepOn 63 = .ok (.putfield 165, 3) := by decide +kernel
theorem dX12_stepOn_66 : decode cX12_stepOn 66 = .ok (.goto 146, 3) := by decide +kernel
theorem dX12_stepOn_69 : decode cX12_stepOn 69 = .ok (.iload_n 1, 1) := by decide +kernel
theorem dX12_stepOn_70 : decode cX12_stepOn 70 = .ok (.invokestatic 168, 3) := by decide +kernel
theorem dX12_stepOn_73 : decode cX12_stepOn 73 = .ok (.ifCond .eq 38, 3) := by decide +kernel
theorem dX12_stepOn_76 : decode cX12_stepOn 76 = .ok (.aload_n 0, 1) := by decide +kernel
theorem dX12_stepOn_77 : decode cX12_stepOn 77 = .ok (.aload_n 0, 1) := by decide +kernel
theorem dX12_stepOn_78 : decode cX12_stepOn 78 = .ok (.getfield 155, 3) := by decide +kernel
theorem dX12_stepOn_81 : decode cX12_stepOn 81 = .ok (.invokevirtual 158, 3) := by decide +kernel
theorem dX12_stepOn_84 : decode cX12_stepOn 84 = .ok (.invokestatic 168, 3) := by decide +kernel
theorem dX12_stepOn_87 : decode cX12_stepOn 87 = .ok (.ifCond .eq 16, 3) := by decide +kernel
theorem dX12_stepOn_90 : decode cX12_stepOn 90 = .ok (.aload_n 0, 1) := by decide +kernel
theorem dX12_stepOn_91 : decode cX12_stepOn 91 = .ok (.dup, 1) := by decide +kernel
theorem dX12_stepOn_92 : decode cX12_stepOn 92 = .ok (.getfield 155, 3) := by decide +kernel
theorem dX12_stepOn_95 : decode cX12_stepOn 95 = .ok (.iconst 1, 1) := by decide +kernel
theorem dX12_stepOn_96 : decode cX12_stepOn 96 = .ok (.iadd, 1) := by decide +kernel
theorem dX12_stepOn_97 : decode cX12_stepOn 97 = .ok (.putfield 155, 3) := by decide +kernel
theorem dX12_stepOn_100 : decode cX12_stepOn 100 = .ok (.goto (-24), 3) := by decide +kernel
theorem dX12_stepOn_103 : decode cX12_stepOn 103 = .ok (.aload_n 0, 1) := by decide +kernel
theorem dX12_stepOn_104 : decode cX12_stepOn 104 = .ok (.iconst 1, 1) := by decide +kernel
theorem dX12_stepOn_105 : decode cX12_stepOn 105 = .ok (.putfield 165, 3) := by decide +kernel
theorem dX12_stepOn_108 : decode cX12_stepOn 108 = .ok (.goto 104, 3) := by decide +kernel
theorem dX12_stepOn_111 : decode cX12_stepOn 111 = .ok (.iload_n 1, 1) := by decide +kernel
theorem dX12_stepOn_112 : decode cX12_stepOn 112 = .ok (.invokestatic 172, 3) := by decide +kernel
theorem dX12_stepOn_115 : decode cX12_stepOn 115 = .ok (.ifCond .eq 71, 3) := by decide +kernel
theorem dX12_stepOn_118 : decode cX12_stepOn 118 = .ok (.aload_n 0, 1) := by decide +kernel
theorem dX12_stepOn_119 : decode cX12_stepOn 119 = .ok (.iconst 0, 1) := by decide +kernel
theorem dX12_stepOn_120 : decode cX12_stepOn 120 = .ok (.putfield 175, 3) := by decide +kernel
theorem dX12_stepOn_123 : decode cX12_stepOn 123 = .ok (.aload_n 0, 1) := by decide +kernel
theorem dX12_stepOn_124 : decode cX12_stepOn 124 = .ok (.aload_n 0, 1) := by decide +kernel
theorem dX12_stepOn_125 : decode cX12_stepOn 125 = .ok (.getfield 155, 3) := by decide +kernel
theorem dX12_stepOn_128 : decode cX12_stepOn 128 = .ok (.invokevirtual 158, 3) := by decide +kernel
theorem dX12_stepOn_131 : decode cX12_stepOn 131 = .ok (.invokestatic 172, 3) := by decide +kernel
theorem dX12_stepOn_134 : decode cX12_stepOn 134 = .ok (.ifCond .eq 44, 3) := by decide +kernel
theorem dX12_stepOn_137 : decode cX12_stepOn 137 = .ok (.aload_n 0, 1) := by decide +kernel
theorem dX12_stepOn_138 : decode cX12_stepOn 138 = .ok (.ldc 178, 2) := by decide +kernel
theorem dX12_stepOn_140 : decode cX12_stepOn 140 = .ok (.bipush 10, 2) := by decide +kernel
theorem dX12_stepOn_142 : decode cX12_stepOn 142 = .ok (.aload_n 0, 1) := by decide +kernel
theorem dX12_stepOn_143 : decode cX12_stepOn 143 = .ok (.getfield 175, 3) := by decide +kernel
theorem dX12_stepOn_146 : decode cX12_stepOn 146 = .ok (.imul, 1) := by decide +kernel
theorem dX12_stepOn_147 : decode cX12_stepOn 147 = .ok (.aload_n 0, 1) := by decide +kernel
theorem dX12_stepOn_148 : decode cX12_stepOn 148 = .ok (.aload_n 0, 1) := by decide +kernel
theorem dX12_stepOn_149 : decode cX12_stepOn 149 = .ok (.getfield 155, 3) := by decide +kernel
theorem dX12_stepOn_152 : decode cX12_stepOn 152 = .ok (.invokevirtual 158, 3) := by decide +kernel
theorem dX12_stepOn_155 : decode cX12_stepOn 155 = .ok (.iadd, 1) := by decide +kernel
theorem dX12_stepOn_156 : decode cX12_stepOn 156 = .ok (.bipush 48, 2) := by decide +kernel
theorem dX12_stepOn_158 : decode cX12_stepOn 158 = .ok (.isub, 1) := by decide +kernel
theorem dX12_stepOn_159 : decode cX12_stepOn 159 = .ok (.invokestatic 179, 3) := by decide +kernel
theorem dX12_stepOn_162 : decode cX12_stepOn 162 = .ok (.putfield 175, 3) := by decide +kernel
theorem dX12_stepOn_165 : decode cX12_stepOn 165 = .ok (.aload_n 0, 1) := by decide +kernel
theorem dX12_stepOn_166 : decode cX12_stepOn 166 = .ok (.dup, 1) := by decide +kernel
theorem dX12_stepOn_167 : decode cX12_stepOn 167 = .ok (.getfield 155, 3) := by decide +kernel
theorem dX12_stepOn_170 : decode cX12_stepOn 170 = .ok (.iconst 1, 1) := by decide +kernel
theorem dX12_stepOn_171 : decode cX12_stepOn 171 = .ok (.iadd, 1) := by decide +kernel
theorem dX12_stepOn_172 : decode cX12_stepOn 172 = .ok (.putfield 155, 3) := by decide +kernel
theorem dX12_stepOn_175 : decode cX12_stepOn 175 = .ok (.goto (-52), 3) := by decide +kernel
theorem dX12_stepOn_178 : decode cX12_stepOn 178 = .ok (.aload_n 0, 1) := by decide +kernel
theorem dX12_stepOn_179 : decode cX12_stepOn 179 = .ok (.iconst 2, 1) := by decide +kernel
theorem dX12_stepOn_180 : decode cX12_stepOn 180 = .ok (.putfield 165, 3) := by decide +kernel
theorem dX12_stepOn_183 : decode cX12_stepOn 183 = .ok (.goto 29, 3) := by decide +kernel
theorem dX12_stepOn_186 : decode cX12_stepOn 186 = .ok (.aload_n 0, 1) := by decide +kernel
theorem dX12_stepOn_187 : decode cX12_stepOn 187 = .ok (.dup, 1) := by decide +kernel
theorem dX12_stepOn_188 : decode cX12_stepOn 188 = .ok (.getfield 155, 3) := by decide +kernel
theorem dX12_stepOn_191 : decode cX12_stepOn 191 = .ok (.iconst 1, 1) := by decide +kernel
theorem dX12_stepOn_192 : decode cX12_stepOn 192 = .ok (.iadd, 1) := by decide +kernel
theorem dX12_stepOn_193 : decode cX12_stepOn 193 = .ok (.putfield 155, 3) := by decide +kernel
theorem dX12_stepOn_196 : decode cX12_stepOn 196 = .ok (.aload_n 0, 1) := by decide +kernel
theorem dX12_stepOn_197 : decode cX12_stepOn 197 = .ok (.iload_n 1, 1) := by decide +kernel
theorem dX12_stepOn_198 : decode cX12_stepOn 198 = .ok (.invokestatic 185, 3) := by decide +kernel
theorem dX12_stepOn_201 : decode cX12_stepOn 201 = .ok (.ifCond .eq 7, 3) := by decide +kernel
theorem dX12_stepOn_204 : decode cX12_stepOn 204 = .ok (.iconst 3, 1) := by decide +kernel
theorem dX12_stepOn_205 : decode cX12_stepOn 205 = .ok (.goto 4, 3) := by decide +kernel
theorem dX12_stepOn_208 : decode cX12_stepOn 208 = .ok (.iconst 4, 1) := by decide +kernel
theorem dX12_stepOn_209 : decode cX12_stepOn 209 = .ok (.putfield 165, 3) := by decide +kernel
theorem dX12_stepOn_212 : decode cX12_stepOn 212 = .ok (.aload_n 0, 1) := by decide +kernel
theorem dX12_stepOn_213 : decode cX12_stepOn 213 = .ok (.aload_n 0, 1) := by decide +kernel
theorem dX12_stepOn_214 : decode cX12_stepOn 214 = .ok (.getfield 155, 3) := by decide +kernel
theorem dX12_stepOn_217 : decode cX12_stepOn 217 = .ok (.putfield 188, 3) := by decide +kernel
theorem dX12_stepOn_220 : decode cX12_stepOn 220 = .ok (.return_, 1) := by decide +kernel
theorem dX12_wrong_0 : decode cX12_wrong 0 = .ok (.aload_n 0, 1) := by decide +kernel
theorem dX12_wrong_1 : decode cX12_wrong 1 = .ok (.getfield 191, 3) := by decide +kernel
theorem dX12_wrong_4 : decode cX12_wrong 4 = .ok (.ifCond .eq 4, 3) := by decide +kernel
theorem dX12_wrong_7 : decode cX12_wrong 7 = .ok (.return_, 1) := by decide +kernel
theorem dX12_wrong_8 : decode cX12_wrong 8 = .ok (.aload_n 0, 1) := by decide +kernel
theorem dX12_wrong_9 : decode cX12_wrong 9 = .ok (.iload_n 1, 1) := by decide +kernel
theorem dX12_wrong_10 : decode cX12_wrong 10 = .ok (.putfield 191, 3) := by decide +kernel
theorem dX12_wrong_13 : decode cX12_wrong 13 = .ok (.aload_n 0, 1) := by decide +kernel
theorem dX12_wrong_14 : decode cX12_wrong 14 = .ok (.aload_n 0, 1) := by decide +kernel
theorem dX12_wrong_15 : decode cX12_wrong 15 = .ok (.getfield 162, 3) := by decide +kernel
theorem dX12_wrong_18 : decode cX12_wrong 18 = .ok (.putfield 194, 3) := by decide +kernel
theorem dX12_wrong_21 : decode cX12_wrong 21 = .ok (.return_, 1) := by decide +kernel
theorem dX12_is_0 : decode cX12_is 0 = .ok (.aload_n 0, 1) := by decide +kernel
theorem dX12_is_1 : decode cX12_is 1 = .ok (.getfield 191, 3) := by decide +kernel
theorem dX12_is_4 : decode cX12_is 4 = .ok (.ifCond .ne 31, 3) := by decide +kernel
theorem dX12_is_7 : decode cX12_is 7 = .ok (.aload_n 0, 1) := by decide +kernel
theorem dX12_is_8 : decode cX12_is 8 = .ok (.getfield 165, 3) := by decide +kernel
theorem dX12_is_11 : decode cX12_is 11 = .ok (.iconst 1, 1) := by decide +kernel
theorem dX12_is_12 : decode cX12_is 12 = .ok (.if_icmp .ne 23, 3) := by decide +kernel
theorem dX12_is_15 : decode cX12_is 15 = .ok (.aload_n 1, 1) := by decide +kernel
theorem dX12_is_16 : decode cX12_is 16 = .ok (.invokevirtual 197, 3) := by decide +kernel
theorem dX12_is_19 : decode cX12_is 19 = .ok (.aload_n 0, 1) := by decide +kernel
theorem dX12_is_20 : decode cX12_is 20 = .ok (.getfield 188, 3) := by decide +kernel
theorem dX12_is_23 : decode cX12_is 23 = .ok (.aload_n 0, 1) := by decide +kernel
theorem dX12_is_24 : decode cX12_is 24 = .ok (.getfield 162, 3) := by decide +kernel
theorem dX12_is_27 : decode cX12_is 27 = .ok (.isub, 1) := by decide +kernel
theorem dX12_is_28 : decode cX12_is 28 = .ok (.if_icmp .ne 7, 3) := by decide +kernel
theorem dX12_is_31 : decode cX12_is 31 = .ok (.iconst 1, 1) := by decide +kernel
theorem dX12_is_32 : decode cX12_is 32 = .ok (.goto 4, 3) := by decide +kernel
theorem dX12_is_35 : decode cX12_is 35 = .ok (.iconst 0, 1) := by decide +kernel
theorem dX12_is_36 : decode cX12_is 36 = .ok (.istore_n 2, 1) := by decide +kernel
theorem dX12_is_37 : decode cX12_is 37 = .ok (.iconst 0, 1) := by decide +kernel
theorem dX12_is_38 : decode cX12_is 38 = .ok (.istore_n 3, 1) := by decide +kernel
theorem dX12_is_39 : decode cX12_is 39 = .ok (.iload_n 2, 1) := by decide +kernel
theorem dX12_is_40 : decode cX12_is 40 = .ok (.ifCond .eq 42, 3) := by decide +kernel
theorem dX12_is_43 : decode cX12_is 43 = .ok (.iload_n 3, 1) := by decide +kernel
theorem dX12_is_44 : decode cX12_is 44 = .ok (.aload_n 1, 1) := by decide +kernel
theorem dX12_is_45 : decode cX12_is 45 = .ok (.invokevirtual 197, 3) := by decide +kernel
theorem dX12_is_48 : decode cX12_is 48 = .ok (.if_icmp .ge 34, 3) := by decide +kernel
theorem dX12_is_51 : decode cX12_is 51 = .ok (.aload_n 1, 1) := by decide +kernel
theorem dX12_is_52 : decode cX12_is 52 = .ok (.iload_n 3, 1) := by decide +kernel
theorem dX12_is_53 : decode cX12_is 53 = .ok (.invokevirtual 201, 3) := by decide +kernel
theorem dX12_is_56 : decode cX12_is 56 = .ok (.aload_n 0, 1) := by decide +kernel
theorem dX12_is_57 : decode cX12_is 57 = .ok (.getfield 62, 3) := by decide +kernel
theorem dX12_is_60 : decode cX12_is 60 = .ok (.aload_n 0, 1) := by decide +kernel
theorem dX12_is_61 : decode cX12_is 61 = .ok (.getfield 162, 3) := by decide +kernel
theorem dX12_is_64 : decode cX12_is 64 = .ok (.iload_n 3, 1) := by decide +kernel
theorem dX12_is_65 : decode cX12_is 65 = .ok (.iadd, 1) := by decide +kernel
theorem dX12_is_66 : decode cX12_is 66 = .ok (.iaload, 1) := by decide +kernel
theorem dX12_is_67 : decode cX12_is 67 = .ok (.if_icmp .ne 7, 3) := by decide +kernel
theorem dX12_is_70 : decode cX12_is 70 = .ok (.iconst 1, 1) := by decide +kernel
theorem dX12_is_71 : decode cX12_is 71 = .ok (.goto 4, 3) := by decide +kernel
theorem dX12_is_74 : decode cX12_is 74 = .ok (.iconst 0, 1) := by decide +kernel
theorem dX12_is_75 : decode cX12_is 75 = .ok (.istore_n 2, 1) := by decide +kernel
theorem dX12_is_76 : decode cX12_is 76 = .ok (.iinc 3 1, 3) := by decide +kernel
theorem dX12_is_79 : decode cX12_is 79 = .ok (.goto (-40), 3) := by decide +kernel
theorem dX12_is_82 : decode cX12_is 82 = .ok (.iload_n 2, 1) := by decide +kernel
theorem dX12_is_83 : decode cX12_is 83 = .ok (.ireturn, 1) := by decide +kernel
theorem dX12_which_0 : decode cX12_which 0 = .ok (.iconst 0, 1) := by decide +kernel
theorem dX12_which_1 : decode cX12_which 1 = .ok (.istore_n 2, 1) := by decide +kernel
theorem dX12_which_2 : decode cX12_which 2 = .ok (.iload_n 2, 1) := by decide +kernel
theorem dX12_which_3 : decode cX12_which 3 = .ok (.aload_n 1, 1) := by decide +kernel
theorem dX12_which_4 : decode cX12_which 4 = .ok (.arraylength, 1) := by decide +kernel
theorem dX12_which_5 : decode cX12_which 5 = .ok (.if_icmp .ge 21, 3) := by decide +kernel
theorem dX12_which_8 : decode cX12_which 8 = .ok (.aload_n 0, 1) := by decide +kernel
theorem dX12_which_9 : decode cX12_which 9 = .ok (.aload_n 1, 1) := by decide +kernel
theorem dX12_which_10 : decode cX12_which 10 = .ok (.iload_n 2, 1) := by decide +kernel
theorem dX12_which_11 : decode cX12_which 11 = .ok (.aaload, 1) := by decide +kernel
theorem dX12_which_12 : decode cX12_which 12 = .ok (.invokevirtual 205, 3) := by decide +kernel
theorem dX12_which_15 : decode cX12_which 15 = .ok (.ifCond .eq 5, 3) := by decide +kernel
theorem dX12_which_18 : decode cX12_which 18 = .ok (.iload_n 2, 1) := by decide +kernel
theorem dX12_which_19 : decode cX12_which 19 = .ok (.ireturn, 1) := by decide +kernel
theorem dX12_which_20 : decode cX12_which 20 = .ok (.iinc 2 1, 3) := by decide +kernel
theorem dX12_which_23 : decode cX12_which 23 = .ok (.goto (-21), 3) := by decide +kernel
theorem dX12_which_26 : decode cX12_which 26 = .ok (.iconst (-1), 1) := by decide +kernel
theorem dX12_which_27 : decode cX12_which 27 = .ok (.ireturn, 1) := by decide +kernel
theorem dX12_isMarked_0 : decode cX12_isMarked 0 = .ok (.aload_n 0, 1) := by decide +kernel
theorem dX12_isMarked_1 : decode cX12_isMarked 1 = .ok (.getfield 191, 3) := by decide +kernel
theorem dX12_isMarked_4 : decode cX12_isMarked 4 = .ok (.ifCond .ne 28, 3) := by decide +kernel
theorem dX12_isMarked_7 : decode cX12_isMarked 7 = .ok (.aload_n 0, 1) := by decide +kernel
theorem dX12_isMarked_8 : decode cX12_isMarked 8 = .ok (.getfield 165, 3) := by decide +kernel
theorem dX12_isMarked_11 : decode cX12_isMarked 11 = .ok (.iconst 3, 1) := by decide +kernel
theorem dX12_isMarked_12 : decode cX12_isMarked 12 = .ok (.if_icmp .ne 20, 3) := by decide +kernel
theorem dX12_isMarked_15 : decode cX12_isMarked 15 = .ok (.aload_n 0, 1) := by decide +kernel
theorem dX12_isMarked_16 : decode cX12_isMarked 16 = .ok (.getfield 62, 3) := by decide +kernel
theorem dX12_isMarked_19 : decode cX12_isMarked 19 = .ok (.aload_n 0, 1) := by decide +kernel
theorem dX12_isMarked_20 : decode cX12_isMarked 20 = .ok (.getfield 162, 3) := by decide +kernel
theorem dX12_isMarked_23 : decode cX12_isMarked 23 = .ok (.iaload, 1) := by decide +kernel
theorem dX12_isMarked_24 : decode cX12_isMarked 24 = .ok (.iload_n 1, 1) := by decide +kernel
theorem dX12_isMarked_25 : decode cX12_isMarked 25 = .ok (.if_icmp .ne 7, 3) := by decide +kernel
theorem dX12_isMarked_28 : decode cX12_isMarked 28 = .ok (.iconst 1, 1) := by decide +kernel
theorem dX12_isMarked_29 : decode cX12_isMarked 29 = .ok (.goto 4, 3) := by decide +kernel
theorem dX12_isMarked_32 : decode cX12_isMarked 32 = .ok (.iconst 0, 1) := by decide +kernel
theorem dX12_isMarked_33 : decode cX12_isMarked 33 = .ok (.ireturn, 1) := by decide +kernel
theorem dX12_mark_0 : decode cX12_mark 0 = .ok (.aload_n 0, 1) := by decide +kernel
theorem dX12_mark_1 : decode cX12_mark 1 = .ok (.getfield 191, 3) := by decide +kernel
theorem dX12_mark_4 : decode cX12_mark 4 = .ok (.ifCond .ne 16, 3) := by decide +kernel
theorem dX12_mark_7 : decode cX12_mark 7 = .ok (.aload_n 0, 1) := by decide +kernel
theorem dX12_mark_8 : decode cX12_mark 8 = .ok (.iload_n 1, 1) := by decide +kernel
theorem dX12_mark_9 : decode cX12_mark 9 = .ok (.invokevirtual 209, 3) := by decide +kernel
theorem dX12_mark_12 : decode cX12_mark 12 = .ok (.ifCond .ne 8, 3) := by decide +kernel
theorem dX12_mark_15 : decode cX12_mark 15 = .ok (.aload_n 0, 1) := by decide +kernel
theorem dX12_mark_16 : decode cX12_mark 16 = .ok (.iconst 1, 1) := by decide +kernel
theorem dX12_mark_17 : decode cX12_mark 17 = .ok (.invokevirtual 212, 3) := by decide +kernel
theorem dX12_mark_20 : decode cX12_mark 20 = .ok (.aload_n 0, 1) := by decide +kernel
theorem dX12_mark_21 : decode cX12_mark 21 = .ok (.getfield 191, 3) := by decide +kernel
theorem dX12_mark_24 : decode cX12_mark 24 = .ok (.ifCond .ne 7, 3) := by decide +kernel
theorem dX12_mark_27 : decode cX12_mark 27 = .ok (.aload_n 0, 1) := by decide +kernel
theorem dX12_mark_28 : decode cX12_mark 28 = .ok (.invokevirtual 216, 3) := by decide +kernel
theorem dX12_mark_31 : decode cX12_mark 31 = .ok (.return_, 1) := by decide +kernel
theorem dX12_numberNow_0 : decode cX12_numberNow 0 = .ok (.aload_n 0, 1) := by decide +kernel
theorem dX12_numberNow_1 : decode cX12_numberNow 1 = .ok (.getfield 191, 3) := by decide +kernel
theorem dX12_numberNow_4 : decode cX12_numberNow 4 = .ok (.ifCond .eq 5, 3) := by decide +kernel
theorem dX12_numberNow_7 : decode cX12_numberNow 7 = .ok (.iconst 0, 1) := by decide +kernel
theorem dX12_numberNow_8 : decode cX12_numberNow 8 = .ok (.ireturn, 1) := by decide +kernel
theorem dX12_numberNow_9 : decode cX12_numberNow 9 = .ok (.aload_n 0, 1) := by decide +kernel
theorem dX12_numberNow_10 : decode cX12_numberNow 10 = .ok (.getfield 165, 3) := by decide +kernel
theorem dX12_numberNow_13 : decode cX12_numberNow 13 = .ok (.iconst 2, 1) := by decide +kernel
theorem dX12_numberNow_14 : decode cX12_numberNow 14 = .ok (.if_icmp .eq 11, 3) := by decide +kernel
theorem dX12_numberNow_17 : decode cX12_numberNow 17 = .ok (.aload_n 0, 1) := by decide +kernel
theorem dX12_numberNow_18 : decode cX12_numberNow 18 = .ok (.iconst 1, 1) := by decide +kernel
theorem dX12_numberNow_19 : decode cX12_numberNow 19 = .ok (.invokevirtual 212, 3) := by decide +kernel
theorem dX12_numberNow_22 : decode cX12_numberNow 22 = .ok (.goto 37, 3) := by decide +kernel
theorem dX12_numberNow_25 : decode cX12_numberNow 25 = .ok (.aload_n 0, 1) := by decide +kernel
theorem dX12_numberNow_26 : decode cX12_numberNow 26 = .ok (.getfield 188, 3) := by decide +kernel
theorem dX12_numberNow_29 : decode cX12_numberNow 29 = .ok (.aload_n 0, 1) := by decide +kernel
theorem dX12_numberNow_30 : decode cX12_numberNow 30 = .ok (.getfield 162, 3) := by decide +kernel
theorem dX12_numberNow_33 : decode cX12_numberNow 33 = .ok (.isub, 1) := by decide +kernel
theorem dX12_numberNow_34 : decode cX12_numberNow 34 = .ok (.iconst 4, 1) := by decide +kernel
theorem dX12_numberNow_35 : decode cX12_numberNow 35 = .ok (.if_icmp .gt 19, 3) := by decide +kernel
theorem dX12_numberNow_38 : decode cX12_numberNow 38 = .ok (.aload_n 0, 1) := by decide +kernel
theorem dX12_numberNow_39 : decode cX12_numberNow 39 = .ok (.getfield 175, 3) := by decide +kernel
theorem dX12_numberNow_42 : decode cX12_numberNow 42 = .ok (.iload_n 1, 1) := by decide +kernel
theorem dX12_numberNow_43 : decode cX12_numberNow 43 = .ok (.if_icmp .lt 11, 3) := by decide +kernel
theorem dX12_numberNow_46 : decode cX12_numberNow 46 = .ok (.aload_n 0, 1) := by decide +kernel
theorem dX12_numberNow_47 : decode cX12_numberNow 47 = .ok (.getfield 175, 3) := by decide +kernel
theorem dX12_numberNow_50 : decode cX12_numberNow 50 = .ok (.iload_n 2, 1) := by decide +kernel
theorem dX12_numberNow_51 : decode cX12_numberNow 51 = .ok (.if_icmp .le 8, 3) := by decide +kernel
theorem dX12_numberNow_54 : decode cX12_numberNow 54 = .ok (.aload_n 0, 1) := by decide +kernel
theorem dX12_numberNow_55 : decode cX12_numberNow 55 = .ok (.iconst 2, 1) := by decide +kernel
theorem dX12_numberNow_56 : decode cX12_numberNow 56 = .ok (.invokevirtual 212, 3) := by decide +kernel
theorem dX12_numberNow_59 : decode cX12_numberNow 59 = .ok (.aload_n 0, 1) := by decide +kernel
theorem dX12_numberNow_60 : decode cX12_numberNow 60 = .ok (.getfield 191, 3) := by decide +kernel
theorem dX12_numberNow_63 : decode cX12_numberNow 63 = .ok (.ifCond .ne 10, 3) := by decide +kernel
theorem dX12_numberNow_66 : decode cX12_numberNow 66 = .ok (.aload_n 0, 1) := by decide +kernel
theorem dX12_numberNow_67 : decode cX12_numberNow 67 = .ok (.getfield 175, 3) := by decide +kernel
theorem dX12_numberNow_70 : decode cX12_numberNow 70 = .ok (.goto 4, 3) := by decide +kernel
theorem dX12_numberNow_73 : decode cX12_numberNow 73 = .ok (.iconst 0, 1) := by decide +kernel
theorem dX12_numberNow_74 : decode cX12_numberNow 74 = .ok (.ireturn, 1) := by decide +kernel
theorem dX12_readNumber_0 : decode cX12_readNumber 0 = .ok (.aload_n 0, 1) := by decide +kernel
theorem dX12_readNumber_1 : decode cX12_readNumber 1 = .ok (.iload_n 1, 1) := by decide +kernel
theorem dX12_readNumber_2 : decode cX12_readNumber 2 = .ok (.iload_n 2, 1) := by decide +kernel
theorem dX12_readNumber_3 : decode cX12_readNumber 3 = .ok (.invokevirtual 219, 3) := by decide +kernel
theorem dX12_readNumber_6 : decode cX12_readNumber 6 = .ok (.istore_n 3, 1) := by decide +kernel
theorem dX12_readNumber_7 : decode cX12_readNumber 7 = .ok (.aload_n 0, 1) := by decide +kernel
theorem dX12_readNumber_8 : decode cX12_readNumber 8 = .ok (.getfield 191, 3) := by decide +kernel
theorem dX12_readNumber_11 : decode cX12_readNumber 11 = .ok (.ifCond .ne 7, 3) := by decide +kernel
theorem dX12_readNumber_14 : decode cX12_readNumber 14 = .ok (.aload_n 0, 1) := by decide +kernel
theorem dX12_readNumber_15 : decode cX12_readNumber 15 = .ok (.invokevirtual 216, 3) := by decide +kernel
theorem dX12_readNumber_18 : decode cX12_readNumber 18 = .ok (.iload_n 3, 1) := by decide +kernel
theorem dX12_readNumber_19 : decode cX12_readNumber 19 = .ok (.ireturn, 1) := by decide +kernel
theorem dX12_lay_0 : decode cX12_lay 0 = .ok (.aload_n 0, 1) := by decide +kernel
theorem dX12_lay_1 : decode cX12_lay 1 = .ok (.getfield 191, 3) := by decide +kernel
theorem dX12_lay_4 : decode cX12_lay 4 = .ok (.ifCond .eq 4, 3) := by decide +kernel
theorem dX12_lay_7 : decode cX12_lay 7 = .ok (.return_, 1) := by decide +kernel
theorem dX12_lay_8 : decode cX12_lay 8 = .ok (.aload_n 0, 1) := by decide +kernel
theorem dX12_lay_9 : decode cX12_lay 9 = .ok (.getfield 56, 3) := by decide +kernel
theorem dX12_lay_12 : decode cX12_lay 12 = .ok (.sipush 700, 3) := by decide +kernel
theorem dX12_lay_15 : decode cX12_lay 15 = .ok (.aload_n 0, 1) := by decide +kernel
theorem dX12_lay_16 : decode cX12_lay 16 = .ok (.getfield 34, 3) := by decide +kernel
theorem dX12_lay_19 : decode cX12_lay 19 = .ok (.bipush 9, 2) := by decide +kernel
theorem dX12_lay_21 : decode cX12_lay 21 = .ok (.iaload, 1) := by decide +kernel
theorem dX12_lay_22 : decode cX12_lay 22 = .ok (.iadd, 1) := by decide +kernel
theorem dX12_lay_23 : decode cX12_lay 23 = .ok (.iload_n 1, 1) := by decide +kernel
theorem dX12_lay_24 : decode cX12_lay 24 = .ok (.iastore, 1) := by decide +kernel
theorem dX12_lay_25 : decode cX12_lay 25 = .ok (.aload_n 0, 1) := by decide +kernel
theorem dX12_lay_26 : decode cX12_lay 26 = .ok (.getfield 34, 3) := by decide +kernel
theorem dX12_lay_29 : decode cX12_lay 29 = .ok (.bipush 9, 2) := by decide +kernel
theorem dX12_lay_31 : decode cX12_lay 31 = .ok (.dup2, 1) := by decide +kernel
theorem dX12_lay_32 : decode cX12_lay 32 = .ok (.iaload, 1) := by decide +kernel
theorem dX12_lay_33 : decode cX12_lay 33 = .ok (.iconst 1, 1) := by decide +kernel
theorem dX12_lay_34 : decode cX12_lay 34 = .ok (.iadd, 1) := by decide +kernel
theorem dX12_lay_35 : decode cX12_lay 35 = .ok (.iastore, 1) := by decide +kernel
theorem dX12_lay_36 : decode cX12_lay 36 = .ok (.return_, 1) := by decide +kernel
theorem dX12_readPart_0 : decode cX12_readPart 0 = .ok (.aload_n 0, 1) := by decide +kernel
theorem dX12_readPart_1 : decode cX12_readPart 1 = .ok (.getfield 191, 3) := by decide +kernel
theorem dX12_readPart_4 : decode cX12_readPart 4 = .ok (.ifCond .eq 4, 3) := by decide +kernel
theorem dX12_readPart_7 : decode cX12_readPart 7 = .ok (.return_, 1) := by decide +kernel
theorem dX12_readPart_8 : decode cX12_readPart 8 = .ok (.aload_n 0, 1) := by decide +kernel
theorem dX12_readPart_9 : decode cX12_readPart 9 = .ok (.getfield 165, 3) := by decide +kernel
theorem dX12_readPart_12 : decode cX12_readPart 12 = .ok (.iconst 2, 1) := by decide +kernel
theorem dX12_readPart_13 : decode cX12_readPart 13 = .ok (.if_icmp .ne 16, 3) := by decide +kernel
theorem dX12_readPart_16 : decode cX12_readPart 16 = .ok (.aload_n 0, 1) := by decide +kernel
theorem dX12_readPart_17 : decode cX12_readPart 17 = .ok (.aload_n 0, 1) := by decide +kernel
theorem dX12_readPart_18 : decode cX12_readPart 18 = .ok (.iconst 0, 1) := by decide +kernel
theorem dX12_readPart_19 : decode cX12_readPart 19 = .ok (.sipush 9999, 3) := by decide +kernel
theorem dX12_readPart_22 : decode cX12_readPart 22 = .ok (.invokevirtual 222, 3) := by decide +kernel
theorem dX12_readPart_25 : decode cX12_readPart 25 = .ok (.invokevirtual 225, 3) := by decide +kernel
theorem dX12_readPart_28 : decode cX12_readPart 28 = .ok (.return_, 1) := by decide +kernel
theorem dX12_readPart_29 : decode cX12_readPart 29 = .ok (.aload_n 0, 1) := by decide +kernel
theorem dX12_readPart_30 : decode cX12_readPart 30 = .ok (.getfield 165, 3) := by decide +kernel
theorem dX12_readPart_33 : decode cX12_readPart 33 = .ok (.iconst 1, 1) := by decide +kernel
theorem dX12_readPart_34 : decode cX12_readPart 34 = .ok (.if_icmp .ne 41, 3) := by decide +kernel
theorem dX12_readPart_37 : decode cX12_readPart 37 = .ok (.aload_n 0, 1) := by decide +kernel
theorem dX12_readPart_38 : decode cX12_readPart 38 = .ok (.aload_n 0, 1) := by decide +kernel
theorem dX12_readPart_39 : decode cX12_readPart 39 = .ok (.getfield 31, 3) := by decide +kernel
theorem dX12_readPart_42 : decode cX12_readPart 42 = .ok (.invokevirtual 228, 3) := by decide +kernel
theorem dX12_readPart_45 : decode cX12_readPart 45 = .ok (.istore_n 2, 1) := by decide +kernel
theorem dX12_readPart_46 : decode cX12_readPart 46 = .ok (.iload_n 2, 1) := by decide +kernel
theorem dX12_readPart_47 : decode cX12_readPart 47 = .ok (.iconst (-1), 1) := by decide +kernel
theorem dX12_readPart_48 : decode cX12_readPart 48 = .ok (.if_icmp .ne 8, 3) := by decide +kernel
theorem dX12_readPart_51 : decode cX12_readPart 51 = .ok (.aload_n 0, 1) := by decide +kernel
theorem dX12_readPart_52 : decode cX12_readPart 52 = .ok (.iconst 3, 1) := by decide +kernel
theorem dX12_readPart_53 : decode cX12_readPart 53 = .ok (.invokevirtual 212, 3) := by decide +kernel
theorem dX12_readPart_56 : decode cX12_readPart 56 = .ok (.aload_n 0, 1) := by decide +kernel
theorem dX12_readPart_57 : decode cX12_readPart 57 = .ok (.iconst (-1), 1) := by decide +kernel
theorem dX12_readPart_58 : decode cX12_readPart 58 = .ok (.iload_n 2, 1) := by decide +kernel
theorem dX12_readPart_59 : decode cX12_readPart 59 = .ok (.isub, 1) := by decide +kernel
theorem dX12_readPart_60 : decode cX12_readPart 60 = .ok (.invokevirtual 225, 3) := by decide +kernel
theorem dX12_readPart_63 : decode cX12_readPart 63 = .ok (.aload_n 0, 1) := by decide +kernel
theorem dX12_readPart_64 : decode cX12_readPart 64 = .ok (.getfield 191, 3) := by decide +kernel
theorem dX12_readPart_67 : decode cX12_readPart 67 = .ok (.ifCond .ne 7, 3) := by decide +kernel
theorem dX12_readPart_70 : decode cX12_readPart 70 = .ok (.aload_n 0, 1) := by decide +kernel
theorem dX12_readPart_71 : decode cX12_readPart 71 = .ok (.invokevirtual 216, 3) := by decide +kernel
theorem dX12_readPart_74 : decode cX12_readPart 74 = .ok (.return_, 1) := by decide +kernel
theorem dX12_readPart_75 : decode cX12_readPart 75 = .ok (.aload_n 0, 1) := by decide +kernel
theorem dX12_readPart_76 : decode cX12_readPart 76 = .ok (.bipush 40, 2) := by decide +kernel
theorem dX12_readPart_78 : decode cX12_readPart 78 = .ok (.invokevirtual 232, 3) := by decide +kernel
theorem dX12_readPart_81 : decode cX12_readPart 81 = .ok (.aload_n 0, 1) := by decide +kernel
theorem dX12_readPart_82 : decode cX12_readPart 82 = .ok (.iload_n 1, 1) := by decide +kernel
theorem dX12_readPart_83 : decode cX12_readPart 83 = .ok (.iconst 1, 1) := by decide +kernel
theorem dX12_readPart_84 : decode cX12_readPart 84 = .ok (.iadd, 1) := by decide +kernel
theorem dX12_readPart_85 : decode cX12_readPart 85 = .ok (.invokevirtual 235, 3) := by decide +kernel
theorem dX12_readPart_88 : decode cX12_readPart 88 = .ok (.aload_n 0, 1) := by decide +kernel
theorem dX12_readPart_89 : decode cX12_readPart 89 = .ok (.bipush 41, 2) := by decide +kernel
theorem dX12_readPart_91 : decode cX12_readPart 91 = .ok (.invokevirtual 232, 3) := by decide +kernel
theorem dX12_readPart_94 : decode cX12_readPart 94 = .ok (.return_, 1) := by decide +kernel
theorem dX12_readProduct_0 : decode cX12_readProduct 0 = .ok (.aload_n 0, 1) := by decide +kernel
theorem dX12_readProduct_1 : decode cX12_readProduct 1 = .ok (.iload_n 1, 1) := by decide +kernel
theorem dX12_readProduct_2 : decode cX12_readProduct 2 = .ok (.invokevirtual 238, 3) := by decide +kernel
theorem dX12_readProduct_5 : decode cX12_readProduct 5 = .ok (.aload_n 0, 1) := by decide +kernel
theorem dX12_readProduct_6 : decode cX12_readProduct 6 = .ok (.bipush 42, 2) := by decide +kernel
theorem dX12_readProduct_8 : decode cX12_readProduct 8 = .ok (.invokevirtual 209, 3) := by decide +kernel
theorem dX12_readProduct_11 : decode cX12_readProduct 11 = .ok (.ifCond .ne 12, 3) := by decide +kernel
theorem dX12_readProduct_14 : decode cX12_readProduct 14 = .ok (.aload_n 0, 1) := by decide +kernel
theorem dX12_readProduct_15 : decode cX12_readProduct 15 = .ok (.bipush 47, 2) := by decide +kernel
theorem dX12_readProduct_17 : decode cX12_readProduct 17 = .ok (.invokevirtual 209, 3) := by decide +kernel
theorem dX12_readProduct_20 : decode cX12_readProduct 20 = .ok (.ifCond .eq 37, 3) := by decide +kernel
theorem dX12_readProduct_23 : decode cX12_readProduct 23 = .ok (.aload_n 0, 1) := by decide +kernel
theorem dX12_readProduct_24 : decode cX12_readProduct 24 = .ok (.bipush 42, 2) := by decide +kernel
theorem dX12_readProduct_26 : decode cX12_readProduct 26 = .ok (.invokevirtual 209, 3) := by decide +kernel
theorem dX12_readProduct_29 : decode cX12_readProduct 29 = .ok (.ifCond .eq 8, 3) := by decide +kernel
theorem dX12_readProduct_32 : decode cX12_readProduct 32 = .ok (.bipush (-22), 2) := by decide +kernel
theorem dX12_readProduct_34 : decode cX12_readProduct 34 = .ok (.goto 5, 3) := by decide +kernel
theorem dX12_readProduct_37 : decode cX12_readProduct 37 = .ok (.bipush (-23), 2) := by decide +kernel
theorem dX12_readProduct_39 : decode cX12_readProduct 39 = .ok (.istore_n 2, 1) := by decide +kernel
theorem dX12_readProduct_40 : decode cX12_readProduct 40 = .ok (.aload_n 0, 1) := by decide +kernel
theorem dX12_readProduct_41 : decode cX12_readProduct 41 = .ok (.invokevirtual 216, 3) := by decide +kernel
theorem dX12_readProduct_44 : decode cX12_readProduct 44 = .ok (.aload_n 0, 1) := by decide +kernel
theorem dX12_readProduct_45 : decode cX12_readProduct 45 = .ok (.iload_n 1, 1) := by decide +kernel
theorem dX12_readProduct_46 : decode cX12_readProduct 46 = .ok (.invokevirtual 238, 3) := by decide +kernel
theorem dX12_readProduct_49 : decode cX12_readProduct 49 = .ok (.aload_n 0, 1) := by decide +kernel
theorem dX12_readProduct_50 : decode cX12_readProduct 50 = .ok (.iload_n 2, 1) := by decide +kernel
theorem dX12_readProduct_51 : decode cX12_readProduct 51 = .ok (.invokevirtual 225, 3) := by decide +kernel
theorem dX12_readProduct_54 : decode cX12_readProduct 54 = .ok (.goto (-49), 3) := by decide +kernel
theorem dX12_readProduct_57 : decode cX12_readProduct 57 = .ok (.return_, 1) := by decide +kernel
theorem dX12_readSum_0 : decode cX12_readSum 0 = .ok (.aload_n 0, 1) := by decide +kernel
theorem dX12_readSum_1 : decode cX12_readSum 1 = .ok (.iload_n 1, 1) := by decide +kernel
theorem dX12_readSum_2 : decode cX12_readSum 2 = .ok (.invokevirtual 241, 3) := by decide +kernel
theorem dX12_readSum_5 : decode cX12_readSum 5 = .ok (.aload_n 0, 1) := by decide +kernel
theorem dX12_readSum_6 : decode cX12_readSum 6 = .ok (.bipush 43, 2) := by decide +kernel
theorem dX12_readSum_8 : decode cX12_readSum 8 = .ok (.invokevirtual 209, 3) := by decide +kernel
theorem dX12_readSum_11 : decode cX12_readSum 11 = .ok (.ifCond .ne 12, 3) := by decide +kernel
theorem dX12_readSum_14 : decode cX12_readSum 14 = .ok (.aload_n 0, 1) := by decide +kernel
theorem dX12_readSum_15 : decode cX12_readSum 15 = .ok (.bipush 45, 2) := by decide +kernel
theorem dX12_readSum_17 : decode cX12_readSum 17 = .ok (.invokevirtual 209, 3) := by decide +kernel
theorem dX12_readSum_20 : decode cX12_readSum 20 = .ok (.ifCond .eq 37, 3) := by decide +kernel
theorem dX12_readSum_23 : decode cX12_readSum 23 = .ok (.aload_n 0, 1) := by decide +kernel
theorem dX12_readSum_24 : decode cX12_readSum 24 = .ok (.bipush 43, 2) := by decide +kernel
theorem dX12_readSum_26 : decode cX12_readSum 26 = .ok (.invokevirtual 209, 3) := by decide +kernel
theorem dX12_readSum_29 : decode cX12_readSum 29 = .ok (.ifCond .eq 8, 3) := by decide +kernel
theorem dX12_readSum_32 : decode cX12_readSum 32 = .ok (.bipush (-20), 2) := by decide +kernel
theorem dX12_readSum_34 : decode cX12_readSum 34 = .ok (.goto 5, 3) := by decide +kernel
theorem dX12_readSum_37 : decode cX12_readSum 37 = .ok (.bipush (-21), 2) := by decide +kernel
theorem dX12_readSum_39 : decode cX12_readSum 39 = .ok (.istore_n 2, 1) := by decide +kernel
theorem dX12_readSum_40 : decode cX12_readSum 40 = .ok (.aload_n 0, 1) := by decide +kernel
theorem dX12_readSum_41 : decode cX12_readSum 41 = .ok (.invokevirtual 216, 3) := by decide +kernel
theorem dX12_readSum_44 : decode cX12_readSum 44 = .ok (.aload_n 0, 1) := by decide +kernel
theorem dX12_readSum_45 : decode cX12_readSum 45 = .ok (.iload_n 1, 1) := by decide +kernel
theorem dX12_readSum_46 : decode cX12_readSum 46 = .ok (.invokevirtual 241, 3) := by decide +kernel
theorem dX12_readSum_49 : decode cX12_readSum 49 = .ok (.aload_n 0, 1) := by decide +kernel
theorem dX12_readSum_50 : decode cX12_readSum 50 = .ok (.iload_n 2, 1) := by decide +kernel
theorem dX12_readSum_51 : decode cX12_readSum 51 = .ok (.invokevirtual 225, 3) := by decide +kernel
theorem dX12_readSum_54 : decode cX12_readSum 54 = .ok (.goto (-49), 3) := by decide +kernel
theorem dX12_readSum_57 : decode cX12_readSum 57 = .ok (.return_, 1) := by decide +kernel
theorem dX12_readNot_0 : decode cX12_readNot 0 = .ok (.iconst 0, 1) := by decide +kernel
theorem dX12_readNot_1 : decode cX12_readNot 1 = .ok (.istore_n 2, 1) := by decide +kernel
theorem dX12_readNot_2 : decode cX12_readNot 2 = .ok (.aload_n 0, 1) := by decide +kernel
theorem dX12_readNot_3 : decode cX12_readNot 3 = .ok (.ldc 244, 2) := by decide +kernel
theorem dX12_readNot_5 : decode cX12_readNot 5 = .ok (.invokevirtual 205, 3) := by decide +kernel
theorem dX12_readNot_8 : decode cX12_readNot 8 = .ok (.ifCond .eq 31, 3) := by decide +kernel
theorem dX12_readNot_11 : decode cX12_readNot 11 = .ok (.iload_n 2, 1) := by decide +kernel
theorem dX12_readNot_12 : decode cX12_readNot 12 = .ok (.bipush 6, 2) := by decide +kernel
theorem dX12_readNot_14 : decode cX12_readNot 14 = .ok (.if_icmp .ne 8, 3) := by decide +kernel
theorem dX12_readNot_17 : decode cX12_readNot 17 = .ok (.aload_n 0, 1) := by decide +kernel
theorem dX12_readNot_18 : decode cX12_readNot 18 = .ok (.iconst 2, 1) := by decide +kernel
theorem dX12_readNot_19 : decode cX12_readNot 19 = .ok (.invokevirtual 212, 3) := by decide +kernel
theorem dX12_readNot_22 : decode cX12_readNot 22 = .ok (.iinc 2 1, 3) := by decide +kernel
theorem dX12_readNot_25 : decode cX12_readNot 25 = .ok (.aload_n 0, 1) := by decide +kernel
theorem dX12_readNot_26 : decode cX12_readNot 26 = .ok (.getfield 191, 3) := by decide +kernel
theorem dX12_readNot_29 : decode cX12_readNot 29 = .ok (.ifCond .ne (-27), 3) := by decide +kernel
theorem dX12_readNot_32 : decode cX12_readNot 32 = .ok (.aload_n 0, 1) := by decide +kernel
theorem dX12_readNot_33 : decode cX12_readNot 33 = .ok (.invokevirtual 216, 3) := by decide +kernel
theorem dX12_readNot_36 : decode cX12_readNot 36 = .ok (.goto (-34), 3) := by decide +kernel
theorem dX12_readNot_39 : decode cX12_readNot 39 = .ok (.aload_n 0, 1) := by decide +kernel
theorem dX12_readNot_40 : decode cX12_readNot 40 = .ok (.iload_n 1, 1) := by decide +kernel
theorem dX12_readNot_41 : decode cX12_readNot 41 = .ok (.invokevirtual 246, 3) := by decide +kernel
theorem dX12_readNot_44 : decode cX12_readNot 44 = .ok (.aload_n 0, 1) := by decide +kernel
theorem dX12_readNot_45 : decode cX12_readNot 45 = .ok (.bipush 60, 2) := by decide +kernel
theorem dX12_readNot_47 : decode cX12_readNot 47 = .ok (.invokevirtual 209, 3) := by decide +kernel
theorem dX12_readNot_50 : decode cX12_readNot 50 = .ok (.ifCond .ne 12, 3) := by decide +kernel
theorem dX12_readNot_53 : decode cX12_readNot 53 = .ok (.aload_n 0, 1) := by decide +kernel
theorem dX12_readNot_54 : decode cX12_readNot 54 = .ok (.bipush 61, 2) := by decide +kernel
theorem dX12_readNot_56 : decode cX12_readNot 56 = .ok (.invokevirtual 209, 3) := by decide +kernel
theorem dX12_readNot_59 : decode cX12_readNot 59 = .ok (.ifCond .eq 34, 3) := by decide +kernel
theorem dX12_readNot_62 : decode cX12_readNot 62 = .ok (.aload_n 0, 1) := by decide +kernel
theorem dX12_readNot_63 : decode cX12_readNot 63 = .ok (.bipush 60, 2) := by decide +kernel
theorem dX12_readNot_65 : decode cX12_readNot 65 = .ok (.invokevirtual 209, 3) := by decide +kernel
theorem dX12_readNot_68 : decode cX12_readNot 68 = .ok (.ifCond .eq 8, 3) := by decide +kernel
theorem dX12_readNot_71 : decode cX12_readNot 71 = .ok (.bipush (-24), 2) := by decide +kernel
theorem dX12_readNot_73 : decode cX12_readNot 73 = .ok (.goto 5, 3) := by decide +kernel
theorem dX12_readNot_76 : decode cX12_readNot 76 = .ok (.bipush (-25), 2) := by decide +kernel
theorem dX12_readNot_78 : decode cX12_readNot 78 = .ok (.istore_n 3, 1) := by decide +kernel
theorem dX12_readNot_79 : decode cX12_readNot 79 = .ok (.aload_n 0, 1) := by decide +kernel
theorem dX12_readNot_80 : decode cX12_readNot 80 = .ok (.invokevirtual 216, 3) := by decide +kernel
theorem dX12_readNot_83 : decode cX12_readNot 83 = .ok (.aload_n 0, 1) := by decide +kernel
theorem dX12_readNot_84 : decode cX12_readNot 84 = .ok (.iload_n 1, 1) := by decide +kernel
theorem dX12_readNot_85 : decode cX12_readNot 85 = .ok (.invokevirtual 246, 3) := by decide +kernel
theorem dX12_readNot_88 : decode cX12_readNot 88 = .ok (.aload_n 0, 1) := by decide +kernel
theorem dX12_readNot_89 : decode cX12_readNot 89 = .ok (.iload_n 3, 1) := by decide +kernel
theorem dX12_readNot_90 : decode cX12_readNot 90 = .ok (.invokevirtual 225, 3) := by decide +kernel
theorem dX12_readNot_93 : decode cX12_readNot 93 = .ok (.iconst 0, 1) := by decide +kernel
theorem dX12_readNot_94 : decode cX12_readNot 94 = .ok (.istore_n 3, 1) := by decide +kernel
theorem dX12_readNot_95 : decode cX12_readNot 95 = .ok (.iload_n 3, 1) := by decide +kernel
theorem dX12_readNot_96 : decode cX12_readNot 96 = .ok (.iload_n 2, 1) := by decide +kernel
theorem dX12_readNot_97 : decode cX12_readNot 97 = .ok (.if_icmp .ge 15, 3) := by decide +kernel
theorem dX12_readNot_100 : decode cX12_readNot 100 = .ok (.aload_n 0, 1) := by decide +kernel
theorem dX12_readNot_101 : decode cX12_readNot 101 = .ok (.bipush (-28), 2) := by decide +kernel
theorem dX12_readNot_103 : decode cX12_readNot 103 = .ok (.invokevirtual 225, 3) := by decide +kernel
theorem dX12_readNot_106 : decode cX12_readNot 106 = .ok (.iinc 3 1, 3) := by decide +kernel
theorem dX12_readNot_109 : decode cX12_readNot 109 = .ok (.goto (-14), 3) := by decide +kernel
theorem dX12_readNot_112 : decode cX12_readNot 112 = .ok (.return_, 1) := by decide +kernel
theorem dX12_readAnd_0 : decode cX12_readAnd 0 = .ok (.aload_n 0, 1) := by decide +kernel
theorem dX12_readAnd_1 : decode cX12_readAnd 1 = .ok (.iload_n 1, 1) := by decide +kernel
theorem dX12_readAnd_2 : decode cX12_readAnd 2 = .ok (.invokevirtual 249, 3) := by decide +kernel
theorem dX12_readAnd_5 : decode cX12_readAnd 5 = .ok (.aload_n 0, 1) := by decide +kernel
theorem dX12_readAnd_6 : decode cX12_readAnd 6 = .ok (.ldc 252, 2) := by decide +kernel
theorem dX12_readAnd_8 : decode cX12_readAnd 8 = .ok (.invokevirtual 205, 3) := by decide +kernel
theorem dX12_readAnd_11 : decode cX12_readAnd 11 = .ok (.ifCond .eq 21, 3) := by decide +kernel
theorem dX12_readAnd_14 : decode cX12_readAnd 14 = .ok (.aload_n 0, 1) := by decide +kernel
theorem dX12_readAnd_15 : decode cX12_readAnd 15 = .ok (.invokevirtual 216, 3) := by decide +kernel
theorem dX12_readAnd_18 : decode cX12_readAnd 18 = .ok (.aload_n 0, 1) := by decide +kernel
theorem dX12_readAnd_19 : decode cX12_readAnd 19 = .ok (.iload_n 1, 1) := by decide +kernel
theorem dX12_readAnd_20 : decode cX12_readAnd 20 = .ok (.invokevirtual 249, 3) := by decide +kernel
theorem dX12_readAnd_23 : decode cX12_readAnd 23 = .ok (.aload_n 0, 1) := by decide +kernel
theorem dX12_readAnd_24 : decode cX12_readAnd 24 = .ok (.bipush (-26), 2) := by decide +kernel
theorem dX12_readAnd_26 : decode cX12_readAnd 26 = .ok (.invokevirtual 225, 3) := by decide +kernel
theorem dX12_readAnd_29 : decode cX12_readAnd 29 = .ok (.goto (-24), 3) := by decide +kernel
theorem dX12_readAnd_32 : decode cX12_readAnd 32 = .ok (.return_, 1) := by decide +kernel
theorem dX12_readExpression_0 : decode cX12_readExpression 0 = .ok (.aload_n 0, 1) := by decide +kernel
theorem dX12_readExpression_1 : decode cX12_readExpression 1 = .ok (.getfield 191, 3) := by decide +kernel
theorem dX12_readExpression_4 : decode cX12_readExpression 4 = .ok (.ifCond .eq 4, 3) := by decide +kernel
theorem dX12_readExpression_7 : decode cX12_readExpression 7 = .ok (.return_, 1) := by decide +kernel
theorem dX12_readExpression_8 : decode cX12_readExpression 8 = .ok (.aload_n 0, 1) := by decide +kernel
theorem dX12_readExpression_9 : decode cX12_readExpression 9 = .ok (.getfield 165, 3) := by decide +kernel
theorem dX12_readExpression_12 : decode cX12_readExpression 12 = .ok (.iconst 2, 1) := by decide +kernel
theorem dX12_readExpression_13 : decode cX12_readExpression 13 = .ok (.if_icmp .eq 20, 3) := by decide +kernel
theorem dX12_readExpression_16 : decode cX12_readExpression 16 = .ok (.aload_n 0, 1) := by decide +kernel
theorem dX12_readExpression_17 : decode cX12_readExpression 17 = .ok (.getfield 165, 3) := by decide +kernel
theorem dX12_readExpression_20 : decode cX12_readExpression 20 = .ok (.iconst 1, 1) := by decide +kernel
theorem dX12_readExpression_21 : decode cX12_readExpression 21 = .ok (.if_icmp .eq 12, 3) := by decide +kernel
theorem dX12_readExpression_24 : decode cX12_readExpression 24 = .ok (.aload_n 0, 1) := by decide +kernel
theorem dX12_readExpression_25 : decode cX12_readExpression 25 = .ok (.bipush 40, 2) := by decide +kernel
theorem dX12_readExpression_27 : decode cX12_readExpression 27 = .ok (.invokevirtual 209, 3) := by decide +kernel
theorem dX12_readExpression_30 : decode cX12_readExpression 30 = .ok (.ifCond .eq 7, 3) := by decide +kernel
theorem dX12_readExpression_33 : decode cX12_readExpression 33 = .ok (.iconst 1, 1) := by decide +kernel
theorem dX12_readExpression_34 : decode cX12_readExpression 34 = .ok (.goto 4, 3) := by decide +kernel
theorem dX12_readExpression_37 : decode cX12_readExpression 37 = .ok (.iconst 0, 1) := by decide +kernel
theorem dX12_readExpression_38 : decode cX12_readExpression 38 = .ok (.istore_n 2, 1) := by decide +kernel
theorem dX12_readExpression_39 : decode cX12_readExpression 39 = .ok (.iload_n 2, 1) := by decide +kernel
theorem dX12_readExpression_40 : decode cX12_readExpression 40 = .ok (.ifCond .ne 11, 3) := by decide +kernel
theorem dX12_readExpression_43 : decode cX12_readExpression 43 = .ok (.aload_n 0, 1) := by decide +kernel
theorem dX12_readExpression_44 : decode cX12_readExpression 44 = .ok (.iconst 1, 1) := by decide +kernel
theorem dX12_readExpression_45 : decode cX12_readExpression 45 = .ok (.invokevirtual 212, 3) := by decide +kernel
theorem dX12_readExpression_48 : decode cX12_readExpression 48 = .ok (.goto 14, 3) := by decide +kernel
theorem dX12_readExpression_51 : decode cX12_readExpression 51 = .ok (.iload_n 1, 1) := by decide +kernel
theorem dX12_readExpression_52 : decode cX12_readExpression 52 = .ok (.bipush 6, 2) := by decide +kernel
theorem dX12_readExpression_54 : decode cX12_readExpression 54 = .ok (.if_icmp .ne 8, 3) := by decide +kernel
theorem dX12_readExpression_57 : decode cX12_readExpression 57 = .ok (.aload_n 0, 1) := by decide +kernel
theorem dX12_readExpression_58 : decode cX12_readExpression 58 = .ok (.iconst 2, 1) := by decide +kernel
theorem dX12_readExpression_59 : decode cX12_readExpression 59 = .ok (.invokevirtual 212, 3) := by decide +kernel
theorem dX12_readExpression_62 : decode cX12_readExpression 62 = .ok (.aload_n 0, 1) := by decide +kernel
theorem dX12_readExpression_63 : decode cX12_readExpression 63 = .ok (.iload_n 1, 1) := by decide +kernel
theorem dX12_readExpression_64 : decode cX12_readExpression 64 = .ok (.invokevirtual 254, 3) := by decide +kernel
theorem dX12_readExpression_67 : decode cX12_readExpression 67 = .ok (.aload_n 0, 1) := by decide +kernel
theorem dX12_readExpression_68 : decode cX12_readExpression 68 = .ok (.ldc_w 257, 3) := by decide +kernel
theorem dX12_readExpression_71 : decode cX12_readExpression 71 = .ok (.invokevirtual 205, 3) := by decide +kernel
theorem dX12_readExpression_74 : decode cX12_readExpression 74 = .ok (.ifCond .eq 21, 3) := by decide +kernel
theorem dX12_readExpression_77 : decode cX12_readExpression 77 = .ok (.aload_n 0, 1) := by decide +kernel
theorem dX12_readExpression_78 : decode cX12_readExpression 78 = .ok (.invokevirtual 216, 3) := by decide +kernel
theorem dX12_readExpression_81 : decode cX12_readExpression 81 = .ok (.aload_n 0, 1) := by decide +kernel
theorem dX12_readExpression_82 : decode cX12_readExpression 82 = .ok (.iload_n 1, 1) := by decide +kernel
theorem dX12_readExpression_83 : decode cX12_readExpression 83 = .ok (.invokevirtual 254, 3) := by decide +kernel
theorem dX12_readExpression_86 : decode cX12_readExpression 86 = .ok (.aload_n 0, 1) := by decide +kernel
theorem dX12_readExpression_87 : decode cX12_readExpression 87 = .ok (.bipush (-27), 2) := by decide +kernel
theorem dX12_readExpression_89 : decode cX12_readExpression 89 = .ok (.invokevirtual 225, 3) := by decide +kernel
theorem dX12_readExpression_92 : decode cX12_readExpression 92 = .ok (.goto (-25), 3) := by decide +kernel
theorem dX12_readExpression_95 : decode cX12_readExpression 95 = .ok (.return_, 1) := by decide +kernel
theorem dX12_sayFarm_0 : decode cX12_sayFarm 0 = .ok (.aload_n 0, 1) := by decide +kernel
theorem dX12_sayFarm_1 : decode cX12_sayFarm 1 = .ok (.getfield 34, 3) := by decide +kernel
theorem dX12_sayFarm_4 : decode cX12_sayFarm 4 = .ok (.iconst 5, 1) := by decide +kernel
theorem dX12_sayFarm_5 : decode cX12_sayFarm 5 = .ok (.iaload, 1) := by decide +kernel
theorem dX12_sayFarm_6 : decode cX12_sayFarm 6 = .ok (.bipush 9, 2) := by decide +kernel
theorem dX12_sayFarm_8 : decode cX12_sayFarm 8 = .ok (.if_icmp .ne 8, 3) := by decide +kernel
theorem dX12_sayFarm_11 : decode cX12_sayFarm 11 = .ok (.aload_n 0, 1) := by decide +kernel
theorem dX12_sayFarm_12 : decode cX12_sayFarm 12 = .ok (.iconst 2, 1) := by decide +kernel
theorem dX12_sayFarm_13 : decode cX12_sayFarm 13 = .ok (.invokevirtual 212, 3) := by decide +kernel
theorem dX12_sayFarm_16 : decode cX12_sayFarm 16 = .ok (.aload_n 0, 1) := by decide +kernel
theorem dX12_sayFarm_17 : decode cX12_sayFarm 17 = .ok (.getfield 191, 3) := by decide +kernel
theorem dX12_sayFarm_20 : decode cX12_sayFarm 20 = .ok (.ifCond .eq 4, 3) := by decide +kernel
theorem dX12_sayFarm_23 : decode cX12_sayFarm 23 = .ok (.return_, 1) := by decide +kernel
theorem dX12_sayFarm_24 : decode cX12_sayFarm 24 = .ok (.aload_n 0, 1) := by decide +kernel
theorem dX12_sayFarm_25 : decode cX12_sayFarm 25 = .ok (.invokevirtual 216, 3) := by decide +kernel
theorem dX12_sayFarm_28 : decode cX12_sayFarm 28 = .ok (.bipush 9, 2) := by decide +kernel
theorem dX12_sayFarm_30 : decode cX12_sayFarm 30 = .ok (.aload_n 0, 1) := by decide +kernel
theorem dX12_sayFarm_31 : decode cX12_sayFarm 31 = .ok (.getfield 34, 3) := by decide +kernel
theorem dX12_sayFarm_34 : decode cX12_sayFarm 34 = .ok (.iconst 5, 1) := by decide +kernel
theorem dX12_sayFarm_35 : decode cX12_sayFarm 35 = .ok (.iaload, 1) := by decide +kernel
theorem dX12_sayFarm_36 : decode cX12_sayFarm 36 = .ok (.iadd, 1) := by decide +kernel
theorem dX12_sayFarm_37 : decode cX12_sayFarm 37 = .ok (.istore_n 2, 1) := by decide +kernel
theorem dX12_sayFarm_38 : decode cX12_sayFarm 38 = .ok (.aload_n 0, 1) := by decide +kernel
theorem dX12_sayFarm_39 : decode cX12_sayFarm 39 = .ok (.getfield 38, 3) := by decide +kernel
theorem dX12_sayFarm_42 : decode cX12_sayFarm 42 = .ok (.iload_n 2, 1) := by decide +kernel
theorem dX12_sayFarm_43 : decode cX12_sayFarm 43 = .ok (.iload_n 1, 1) := by decide +kernel
theorem dX12_sayFarm_44 : decode cX12_sayFarm 44 = .ok (.iastore, 1) := by decide +kernel
theorem dX12_sayFarm_45 : decode cX12_sayFarm 45 = .ok (.aload_n 0, 1) := by decide +kernel
theorem dX12_sayFarm_46 : decode cX12_sayFarm 46 = .ok (.iconst 0, 1) := by decide +kernel
theorem dX12_sayFarm_47 : decode cX12_sayFarm 47 = .ok (.bipush 99, 2) := by decide +kernel
theorem dX12_sayFarm_49 : decode cX12_sayFarm 49 = .ok (.invokevirtual 219, 3) := by decide +kernel
theorem dX12_sayFarm_52 : decode cX12_sayFarm 52 = .ok (.istore_n 3, 1) := by decide +kernel
theorem dX12_sayFarm_53 : decode cX12_sayFarm 53 = .ok (.bipush 9, 2) := by decide +kernel
theorem dX12_sayFarm_55 : decode cX12_sayFarm 55 = .ok (.istore 4, 2) := by decide +kernel
theorem dX12_sayFarm_57 : decode cX12_sayFarm 57 = .ok (.iload 4, 2) := by decide +kernel
theorem dX12_sayFarm_59 : decode cX12_sayFarm 59 = .ok (.iload_n 2, 1) := by decide +kernel
theorem dX12_sayFarm_60 : decode cX12_sayFarm 60 = .ok (.if_icmp .ge 25, 3) := by decide +kernel
theorem dX12_sayFarm_63 : decode cX12_sayFarm 63 = .ok (.aload_n 0, 1) := by decide +kernel
theorem dX12_sayFarm_64 : decode cX12_sayFarm 64 = .ok (.getfield 41, 3) := by decide +kernel
theorem dX12_sayFarm_67 : decode cX12_sayFarm 67 = .ok (.iload 4, 2) := by decide +kernel
theorem dX12_sayFarm_69 : decode cX12_sayFarm 69 = .ok (.iaload, 1) := by decide +kernel
theorem dX12_sayFarm_70 : decode cX12_sayFarm 70 = .ok (.iload_n 3, 1) := by decide +kernel
theorem dX12_sayFarm_71 : decode cX12_sayFarm 71 = .ok (.if_icmp .ne 8, 3) := by decide +kernel
theorem dX12_sayFarm_74 : decode cX12_sayFarm 74 = .ok (.aload_n 0, 1) := by decide +kernel
theorem dX12_sayFarm_75 : decode cX12_sayFarm 75 = .ok (.iconst 4, 1) := by decide +kernel
theorem dX12_sayFarm_76 : decode cX12_sayFarm 76 = .ok (.invokevirtual 212, 3) := by decide +kernel
theorem dX12_sayFarm_79 : decode cX12_sayFarm 79 = .ok (.iinc 4 1, 3) := by decide +kernel
theorem dX12_sayFarm_82 : decode cX12_sayFarm 82 = .ok (.goto (-25), 3) := by decide +kernel
theorem dX12_sayFarm_85 : decode cX12_sayFarm 85 = .ok (.aload_n 0, 1) := by decide +kernel
theorem dX12_sayFarm_86 : decode cX12_sayFarm 86 = .ok (.getfield 191, 3) := by decide +kernel
theorem dX12_sayFarm_89 : decode cX12_sayFarm 89 = .ok (.ifCond .ne 7, 3) := by decide +kernel
theorem dX12_sayFarm_92 : decode cX12_sayFarm 92 = .ok (.aload_n 0, 1) := by decide +kernel
theorem dX12_sayFarm_93 : decode cX12_sayFarm 93 = .ok (.invokevirtual 216, 3) := by decide +kernel
theorem dX12_sayFarm_96 : decode cX12_sayFarm 96 = .ok (.aload_n 0, 1) := by decide +kernel
theorem dX12_sayFarm_97 : decode cX12_sayFarm 97 = .ok (.getfield 41, 3) := by decide +kernel
theorem dX12_sayFarm_100 : decode cX12_sayFarm 100 = .ok (.iload_n 2, 1) := by decide +kernel
theorem dX12_sayFarm_101 : decode cX12_sayFarm 101 = .ok (.iload_n 3, 1) := by decide +kernel
theorem dX12_sayFarm_102 : decode cX12_sayFarm 102 = .ok (.iastore, 1) := by decide +kernel
theorem dX12_sayFarm_103 : decode cX12_sayFarm 103 = .ok (.aload_n 0, 1) := by decide +kernel
theorem dX12_sayFarm_104 : decode cX12_sayFarm 104 = .ok (.getfield 44, 3) := by decide +kernel
theorem dX12_sayFarm_107 : decode cX12_sayFarm 107 = .ok (.iload_n 2, 1) := by decide +kernel
theorem dX12_sayFarm_108 : decode cX12_sayFarm 108 = .ok (.aload_n 0, 1) := by decide +kernel
theorem dX12_sayFarm_109 : decode cX12_sayFarm 109 = .ok (.iconst 0, 1) := by decide +kernel
theorem dX12_sayFarm_110 : decode cX12_sayFarm 110 = .ok (.bipush 99, 2) := by decide +kernel
theorem dX12_sayFarm_112 : decode cX12_sayFarm 112 = .ok (.invokevirtual 222, 3) := by decide +kernel
theorem dX12_sayFarm_115 : decode cX12_sayFarm 115 = .ok (.iastore, 1) := by decide +kernel
theorem dX12_sayFarm_116 : decode cX12_sayFarm 116 = .ok (.aload_n 0, 1) := by decide +kernel
theorem dX12_sayFarm_117 : decode cX12_sayFarm 117 = .ok (.getfield 47, 3) := by decide +kernel
theorem dX12_sayFarm_120 : decode cX12_sayFarm 120 = .ok (.iload_n 2, 1) := by decide +kernel
theorem dX12_sayFarm_121 : decode cX12_sayFarm 121 = .ok (.aload_n 0, 1) := by decide +kernel
theorem dX12_sayFarm_122 : decode cX12_sayFarm 122 = .ok (.iconst 0, 1) := by decide +kernel
theorem dX12_sayFarm_123 : decode cX12_sayFarm 123 = .ok (.bipush 20, 2) := by decide +kernel
theorem dX12_sayFarm_125 : decode cX12_sayFarm 125 = .ok (.invokevirtual 222, 3) := by decide +kernel
theorem dX12_sayFarm_128 : decode cX12_sayFarm 128 = .ok (.iastore, 1) := by decide +kernel
theorem dX12_sayFarm_129 : decode cX12_sayFarm 129 = .ok (.aload_n 0, 1) := by decide +kernel
theorem dX12_sayFarm_130 : decode cX12_sayFarm 130 = .ok (.getfield 50, 3) := by decide +kernel
theorem dX12_sayFarm_133 : decode cX12_sayFarm 133 = .ok (.iload_n 2, 1) := by decide +kernel
theorem dX12_sayFarm_134 : decode cX12_sayFarm 134 = .ok (.aload_n 0, 1) := by decide +kernel
theorem dX12_sayFarm_135 : decode cX12_sayFarm 135 = .ok (.iconst 1, 1) := by decide +kernel
theorem dX12_sayFarm_136 : decode cX12_sayFarm 136 = .ok (.iconst 5, 1) := by decide +kernel
theorem dX12_sayFarm_137 : decode cX12_sayFarm 137 = .ok (.invokevirtual 222, 3) := by decide +kernel
theorem dX12_sayFarm_140 : decode cX12_sayFarm 140 = .ok (.iastore, 1) := by decide +kernel
theorem dX12_sayFarm_141 : decode cX12_sayFarm 141 = .ok (.aload_n 0, 1) := by decide +kernel
theorem dX12_sayFarm_142 : decode cX12_sayFarm 142 = .ok (.getfield 34, 3) := by decide +kernel
theorem dX12_sayFarm_145 : decode cX12_sayFarm 145 = .ok (.iconst 5, 1) := by decide +kernel
theorem dX12_sayFarm_146 : decode cX12_sayFarm 146 = .ok (.dup2, 1) := by decide +kernel
theorem dX12_sayFarm_147 : decode cX12_sayFarm 147 = .ok (.iaload, 1) := by decide +kernel
theorem dX12_sayFarm_148 : decode cX12_sayFarm 148 = .ok (.iconst 1, 1) := by decide +kernel
theorem dX12_sayFarm_149 : decode cX12_sayFarm 149 = .ok (.iadd, 1) := by decide +kernel
theorem dX12_sayFarm_150 : decode cX12_sayFarm 150 = .ok (.iastore, 1) := by decide +kernel
theorem dX12_sayFarm_151 : decode cX12_sayFarm 151 = .ok (.return_, 1) := by decide +kernel
theorem dX12_sayMists_0 : decode cX12_sayMists 0 = .ok (.iconst 0, 1) := by decide +kernel
theorem dX12_sayMists_1 : decode cX12_sayMists 1 = .ok (.istore_n 1, 1) := by decide +kernel
theorem dX12_sayMists_2 : decode cX12_sayMists 2 = .ok (.aload_n 0, 1) := by decide +kernel
theorem dX12_sayMists_3 : decode cX12_sayMists 3 = .ok (.getfield 191, 3) := by decide +kernel
theorem dX12_sayMists_6 : decode cX12_sayMists 6 = .ok (.ifCond .ne 16, 3) := by decide +kernel
theorem dX12_sayMists_9 : decode cX12_sayMists 9 = .ok (.aload_n 0, 1) := by decide +kernel
theorem dX12_sayMists_10 : decode cX12_sayMists 10 = .ok (.getfield 165, 3) := by decide +kernel
theorem dX12_sayMists_13 : decode cX12_sayMists 13 = .ok (.iconst 2, 1) := by decide +kernel
theorem dX12_sayMists_14 : decode cX12_sayMists 14 = .ok (.if_icmp .eq 8, 3) := by decide +kernel
theorem dX12_sayMists_17 : decode cX12_sayMists 17 = .ok (.aload_n 0, 1) := by decide +kernel
theorem dX12_sayMists_18 : decode cX12_sayMists 18 = .ok (.iconst 1, 1) := by decide +kernel
theorem dX12_sayMists_19 : decode cX12_sayMists 19 = .ok (.invokevirtual 212, 3) := by decide +kernel
theorem dX12_sayMists_22 : decode cX12_sayMists 22 = .ok (.aload_n 0, 1) := by decide +kernel
theorem dX12_sayMists_23 : decode cX12_sayMists 23 = .ok (.getfield 191, 3) := by decide +kernel
theorem dX12_sayMists_26 : decode cX12_sayMists 26 = .ok (.ifCond .ne 54, 3) := by decide +kernel
theorem dX12_sayMists_29 : decode cX12_sayMists 29 = .ok (.aload_n 0, 1) := by decide +kernel
theorem dX12_sayMists_30 : decode cX12_sayMists 30 = .ok (.getfield 165, 3) := by decide +kernel
theorem dX12_sayMists_33 : decode cX12_sayMists 33 = .ok (.iconst 2, 1) := by decide +kernel
theorem dX12_sayMists_34 : decode cX12_sayMists 34 = .ok (.if_icmp .ne 46, 3) := by decide +kernel
theorem dX12_sayMists_37 : decode cX12_sayMists 37 = .ok (.iload_n 1, 1) := by decide +kernel
theorem dX12_sayMists_38 : decode cX12_sayMists 38 = .ok (.bipush 8, 2) := by decide +kernel
theorem dX12_sayMists_40 : decode cX12_sayMists 40 = .ok (.if_icmp .ne 8, 3) := by decide +kernel
theorem dX12_sayMists_43 : decode cX12_sayMists 43 = .ok (.aload_n 0, 1) := by decide +kernel
theorem dX12_sayMists_44 : decode cX12_sayMists 44 = .ok (.iconst 2, 1) := by decide +kernel
theorem dX12_sayMists_45 : decode cX12_sayMists 45 = .ok (.invokevirtual 212, 3) := by decide +kernel
theorem dX12_sayMists_48 : decode cX12_sayMists 48 = .ok (.aload_n 0, 1) := by decide +kernel
theorem dX12_sayMists_49 : decode cX12_sayMists 49 = .ok (.iconst 0, 1) := by decide +kernel
theorem dX12_sayMists_50 : decode cX12_sayMists 50 = .ok (.bipush 9, 2) := by decide +kernel
theorem dX12_sayMists_52 : decode cX12_sayMists 52 = .ok (.invokevirtual 222, 3) := by decide +kernel
theorem dX12_sayMists_55 : decode cX12_sayMists 55 = .ok (.istore_n 2, 1) := by decide +kernel
theorem dX12_sayMists_56 : decode cX12_sayMists 56 = .ok (.aload_n 0, 1) := by decide +kernel
theorem dX12_sayMists_57 : decode cX12_sayMists 57 = .ok (.getfield 191, 3) := by decide +kernel
theorem dX12_sayMists_60 : decode cX12_sayMists 60 = .ok (.ifCond .eq 4, 3) := by decide +kernel
theorem dX12_sayMists_63 : decode cX12_sayMists 63 = .ok (.return_, 1) := by decide +kernel
theorem dX12_sayMists_64 : decode cX12_sayMists 64 = .ok (.aload_n 0, 1) := by decide +kernel
theorem dX12_sayMists_65 : decode cX12_sayMists 65 = .ok (.getfield 53, 3) := by decide +kernel
theorem dX12_sayMists_68 : decode cX12_sayMists 68 = .ok (.bipush 8, 2) := by decide +kernel
theorem dX12_sayMists_70 : decode cX12_sayMists 70 = .ok (.iload_n 1, 1) := by decide +kernel
theorem dX12_sayMists_71 : decode cX12_sayMists 71 = .ok (.iadd, 1) := by decide +kernel
theorem dX12_sayMists_72 : decode cX12_sayMists 72 = .ok (.iload_n 2, 1) := by decide +kernel
theorem dX12_sayMists_73 : decode cX12_sayMists 73 = .ok (.iastore, 1) := by decide +kernel
theorem dX12_sayMists_74 : decode cX12_sayMists 74 = .ok (.iinc 1 1, 3) := by decide +kernel
theorem dX12_sayMists_77 : decode cX12_sayMists 77 = .ok (.goto (-55), 3) := by decide +kernel
theorem dX12_sayMists_80 : decode cX12_sayMists 80 = .ok (.aload_n 0, 1) := by decide +kernel
theorem dX12_sayMists_81 : decode cX12_sayMists 81 = .ok (.getfield 34, 3) := by decide +kernel
theorem dX12_sayMists_84 : decode cX12_sayMists 84 = .ok (.bipush 8, 2) := by decide +kernel
theorem dX12_sayMists_86 : decode cX12_sayMists 86 = .ok (.iload_n 1, 1) := by decide +kernel
theorem dX12_sayMists_87 : decode cX12_sayMists 87 = .ok (.iastore, 1) := by decide +kernel
theorem dX12_sayMists_88 : decode cX12_sayMists 88 = .ok (.return_, 1) := by decide +kernel
theorem dX12_sayOnce_0 : decode cX12_sayOnce 0 = .ok (.aload_n 0, 1) := by decide +kernel
theorem dX12_sayOnce_1 : decode cX12_sayOnce 1 = .ok (.invokevirtual 216, 3) := by decide +kernel
theorem dX12_sayOnce_4 : decode cX12_sayOnce 4 = .ok (.iload_n 1, 1) := by decide +kernel
theorem dX12_sayOnce_5 : decode cX12_sayOnce 5 = .ok (.iconst 1, 1) := by decide +kernel
theorem dX12_sayOnce_6 : decode cX12_sayOnce 6 = .ok (.if_icmp .ne 7, 3) := by decide +kernel
theorem dX12_sayOnce_9 : decode cX12_sayOnce 9 = .ok (.aload_n 0, 1) := by decide +kernel
theorem dX12_sayOnce_10 : decode cX12_sayOnce 10 = .ok (.invokevirtual 259, 3) := by decide +kernel
theorem dX12_sayOnce_13 : decode cX12_sayOnce 13 = .ok (.iload_n 1, 1) := by decide +kernel
theorem dX12_sayOnce_14 : decode cX12_sayOnce 14 = .ok (.iconst 2, 1) := by decide +kernel
theorem dX12_sayOnce_15 : decode cX12_sayOnce 15 = .ok (.if_icmp .ne 17, 3) := by decide +kernel
theorem dX12_sayOnce_18 : decode cX12_sayOnce 18 = .ok (.aload_n 0, 1) := by decide +kernel
theorem dX12_sayOnce_19 : decode cX12_sayOnce 19 = .ok (.getfield 34, 3) := by decide +kernel
theorem dX12_sayOnce_22 : decode cX12_sayOnce 22 = .ok (.bipush 6, 2) := by decide +kernel
theorem dX12_sayOnce_24 : decode cX12_sayOnce 24 = .ok (.aload_n 0, 1) := by decide +kernel
theorem dX12_sayOnce_25 : decode cX12_sayOnce 25 = .ok (.iconst 1, 1) := by decide +kernel
theorem dX12_sayOnce_26 : decode cX12_sayOnce 26 = .ok (.bipush 99, 2) := by decide +kernel
theorem dX12_sayOnce_28 : decode cX12_sayOnce 28 = .ok (.invokevirtual 222, 3) := by decide +kernel
theorem dX12_sayOnce_31 : decode cX12_sayOnce 31 = .ok (.iastore, 1) := by decide +kernel
theorem dX12_sayOnce_32 : decode cX12_sayOnce 32 = .ok (.iload_n 1, 1) := by decide +kernel
theorem dX12_sayOnce_33 : decode cX12_sayOnce 33 = .ok (.iconst 4, 1) := by decide +kernel
theorem dX12_sayOnce_34 : decode cX12_sayOnce 34 = .ok (.if_icmp .ne 17, 3) := by decide +kernel
theorem dX12_sayOnce_37 : decode cX12_sayOnce 37 = .ok (.aload_n 0, 1) := by decide +kernel
theorem dX12_sayOnce_38 : decode cX12_sayOnce 38 = .ok (.getfield 34, 3) := by decide +kernel
theorem dX12_sayOnce_41 : decode cX12_sayOnce 41 = .ok (.bipush 7, 2) := by decide +kernel
theorem dX12_sayOnce_43 : decode cX12_sayOnce 43 = .ok (.aload_n 0, 1) := by decide +kernel
theorem dX12_sayOnce_44 : decode cX12_sayOnce 44 = .ok (.iconst 0, 1) := by decide +kernel
theorem dX12_sayOnce_45 : decode cX12_sayOnce 45 = .ok (.bipush 9, 2) := by decide +kernel
theorem dX12_sayOnce_47 : decode cX12_sayOnce 47 = .ok (.invokevirtual 222, 3) := by decide +kernel
theorem dX12_sayOnce_50 : decode cX12_sayOnce 50 = .ok (.iastore, 1) := by decide +kernel
theorem dX12_sayOnce_51 : decode cX12_sayOnce 51 = .ok (.iload_n 1, 1) := by decide +kernel
theorem dX12_sayOnce_52 : decode cX12_sayOnce 52 = .ok (.bipush 8, 2) := by decide +kernel
theorem dX12_sayOnce_54 : decode cX12_sayOnce 54 = .ok (.if_icmp .ne 8, 3) := by decide +kernel
theorem dX12_sayOnce_57 : decode cX12_sayOnce 57 = .ok (.aload_n 0, 1) := by decide +kernel
theorem dX12_sayOnce_58 : decode cX12_sayOnce 58 = .ok (.iconst 0, 1) := by decide +kernel
theorem dX12_sayOnce_59 : decode cX12_sayOnce 59 = .ok (.invokevirtual 235, 3) := by decide +kernel
theorem dX12_sayOnce_62 : decode cX12_sayOnce 62 = .ok (.return_, 1) := by decide +kernel
theorem dX12_readLine_0 : decode cX12_readLine 0 = .ok (.aload_n 0, 1) := by decide +kernel
theorem dX12_readLine_1 : decode cX12_readLine 1 = .ok (.aload_n 0, 1) := by decide +kernel
theorem dX12_readLine_2 : decode cX12_readLine 2 = .ok (.getfield 15, 3) := by decide +kernel
theorem dX12_readLine_5 : decode cX12_readLine 5 = .ok (.invokevirtual 228, 3) := by decide +kernel
theorem dX12_readLine_8 : decode cX12_readLine 8 = .ok (.istore_n 2, 1) := by decide +kernel
theorem dX12_readLine_9 : decode cX12_readLine 9 = .ok (.aload_n 0, 1) := by decide +kernel
theorem dX12_readLine_10 : decode cX12_readLine 10 = .ok (.ldc 27, 2) := by decide +kernel
theorem dX12_readLine_12 : decode cX12_readLine 12 = .ok (.invokevirtual 205, 3) := by decide +kernel
theorem dX12_readLine_15 : decode cX12_readLine 15 = .ok (.ifCond .eq 7, 3) := by decide +kernel
theorem dX12_readLine_18 : decode cX12_readLine 18 = .ok (.iconst 1, 1) := by decide +kernel
theorem dX12_readLine_19 : decode cX12_readLine 19 = .ok (.goto 47, 3) := by decide +kernel
theorem dX12_readLine_22 : decode cX12_readLine 22 = .ok (.aload_n 0, 1) := by decide +kernel
theorem dX12_readLine_23 : decode cX12_readLine 23 = .ok (.ldc_w 262, 3) := by decide +kernel
theorem dX12_readLine_26 : decode cX12_readLine 26 = .ok (.invokevirtual 205, 3) := by decide +kernel
theorem dX12_readLine_29 : decode cX12_readLine 29 = .ok (.ifCond .eq 7, 3) := by decide +kernel
theorem dX12_readLine_32 : decode cX12_readLine 32 = .ok (.iconst 2, 1) := by decide +kernel
theorem dX12_readLine_33 : decode cX12_readLine 33 = .ok (.goto 33, 3) := by decide +kernel
theorem dX12_readLine_36 : decode cX12_readLine 36 = .ok (.aload_n 0, 1) := by decide +kernel
theorem dX12_readLine_37 : decode cX12_readLine 37 = .ok (.ldc_w 264, 3) := by decide +kernel
theorem dX12_readLine_40 : decode cX12_readLine 40 = .ok (.invokevirtual 205, 3) := by decide +kernel
theorem dX12_readLine_43 : decode cX12_readLine 43 = .ok (.ifCond .eq 7, 3) := by decide +kernel
theorem dX12_readLine_46 : decode cX12_readLine 46 = .ok (.iconst 4, 1) := by decide +kernel
theorem dX12_readLine_47 : decode cX12_readLine 47 = .ok (.goto 19, 3) := by decide +kernel
theorem dX12_readLine_50 : decode cX12_readLine 50 = .ok (.aload_n 0, 1) := by decide +kernel
theorem dX12_readLine_51 : decode cX12_readLine 51 = .ok (.ldc_w 266, 3) := by decide +kernel
theorem dX12_readLine_54 : decode cX12_readLine 54 = .ok (.invokevirtual 205, 3) := by decide +kernel
theorem dX12_readLine_57 : decode cX12_readLine 57 = .ok (.ifCond .eq 8, 3) := by decide +kernel
theorem dX12_readLine_60 : decode cX12_readLine 60 = .ok (.bipush 8, 2) := by decide +kernel
theorem dX12_readLine_62 : decode cX12_readLine 62 = .ok (.goto 4, 3) := by decide +kernel
theorem dX12_readLine_65 : decode cX12_readLine 65 = .ok (.iconst 0, 1) := by decide +kernel
theorem dX12_readLine_66 : decode cX12_readLine 66 = .ok (.istore_n 3, 1) := by decide +kernel
theorem dX12_readLine_67 : decode cX12_readLine 67 = .ok (.iload_n 3, 1) := by decide +kernel
theorem dX12_readLine_68 : decode cX12_readLine 68 = .ok (.iload_n 1, 1) := by decide +kernel
theorem dX12_readLine_69 : decode cX12_readLine 69 = .ok (.iand, 1) := by decide +kernel
theorem dX12_readLine_70 : decode cX12_readLine 70 = .ok (.ifCond .eq 8, 3) := by decide +kernel
theorem dX12_readLine_73 : decode cX12_readLine 73 = .ok (.aload_n 0, 1) := by decide +kernel
theorem dX12_readLine_74 : decode cX12_readLine 74 = .ok (.iconst 5, 1) := by decide +kernel
theorem dX12_readLine_75 : decode cX12_readLine 75 = .ok (.invokevirtual 212, 3) := by decide +kernel
theorem dX12_readLine_78 : decode cX12_readLine 78 = .ok (.iload_n 3, 1) := by decide +kernel
theorem dX12_readLine_79 : decode cX12_readLine 79 = .ok (.ifCond .le 18, 3) := by decide +kernel
theorem dX12_readLine_82 : decode cX12_readLine 82 = .ok (.aload_n 0, 1) := by decide +kernel
theorem dX12_readLine_83 : decode cX12_readLine 83 = .ok (.getfield 191, 3) := by decide +kernel
theorem dX12_readLine_86 : decode cX12_readLine 86 = .ok (.ifCond .ne 11, 3) := by decide +kernel
theorem dX12_readLine_89 : decode cX12_readLine 89 = .ok (.aload_n 0, 1) := by decide +kernel
theorem dX12_readLine_90 : decode cX12_readLine 90 = .ok (.iload_n 3, 1) := by decide +kernel
theorem dX12_readLine_91 : decode cX12_readLine 91 = .ok (.invokevirtual 268, 3) := by decide +kernel
theorem dX12_readLine_94 : decode cX12_readLine 94 = .ok (.goto 21, 3) := by decide +kernel
theorem dX12_readLine_97 : decode cX12_readLine 97 = .ok (.iload_n 2, 1) := by decide +kernel
theorem dX12_readLine_98 : decode cX12_readLine 98 = .ok (.iconst (-1), 1) := by decide +kernel
theorem dX12_readLine_99 : decode cX12_readLine 99 = .ok (.if_icmp .eq 11, 3) := by decide +kernel
theorem dX12_readLine_102 : decode cX12_readLine 102 = .ok (.aload_n 0, 1) := by decide +kernel
theorem dX12_readLine_103 : decode cX12_readLine 103 = .ok (.iload_n 2, 1) := by decide +kernel
theorem dX12_readLine_104 : decode cX12_readLine 104 = .ok (.invokevirtual 271, 3) := by decide +kernel
theorem dX12_readLine_107 : decode cX12_readLine 107 = .ok (.goto 8, 3) := by decide +kernel
theorem dX12_readLine_110 : decode cX12_readLine 110 = .ok (.aload_n 0, 1) := by decide +kernel
theorem dX12_readLine_111 : decode cX12_readLine 111 = .ok (.iconst 1, 1) := by decide +kernel
theorem dX12_readLine_112 : decode cX12_readLine 112 = .ok (.invokevirtual 212, 3) := by decide +kernel
theorem dX12_readLine_115 : decode cX12_readLine 115 = .ok (.aload_n 0, 1) := by decide +kernel
theorem dX12_readLine_116 : decode cX12_readLine 116 = .ok (.bipush 59, 2) := by decide +kernel
theorem dX12_readLine_118 : decode cX12_readLine 118 = .ok (.invokevirtual 232, 3) := by decide +kernel
theorem dX12_readLine_121 : decode cX12_readLine 121 = .ok (.iload_n 1, 1) := by decide +kernel
theorem dX12_readLine_122 : decode cX12_readLine 122 = .ok (.iload_n 3, 1) := by decide +kernel
theorem dX12_readLine_123 : decode cX12_readLine 123 = .ok (.ior, 1) := by decide +kernel
theorem dX12_readLine_124 : decode cX12_readLine 124 = .ok (.ireturn, 1) := by decide +kernel
theorem dX12_upland_0 : decode cX12_upland 0 = .ok (.aload_n 0, 1) := by decide +kernel
theorem dX12_upland_1 : decode cX12_upland 1 = .ok (.iconst 0, 1) := by decide +kernel
theorem dX12_upland_2 : decode cX12_upland 2 = .ok (.putfield 142, 3) := by decide +kernel
theorem dX12_upland_5 : decode cX12_upland 5 = .ok (.iload_n 1, 1) := by decide +kernel
theorem dX12_upland_6 : decode cX12_upland 6 = .ok (.ifCond .lt 11, 3) := by decide +kernel
theorem dX12_upland_9 : decode cX12_upland 9 = .ok (.iload_n 1, 1) := by decide +kernel
theorem dX12_upland_10 : decode cX12_upland 10 = .ok (.aload_n 0, 1) := by decide +kernel
theorem dX12_upland_11 : decode cX12_upland 11 = .ok (.getfield 149, 3) := by decide +kernel
theorem dX12_upland_14 : decode cX12_upland 14 = .ok (.if_icmp .le 9, 3) := by decide +kernel
theorem dX12_upland_17 : decode cX12_upland 17 = .ok (.aload_n 0, 1) := by decide +kernel
theorem dX12_upland_18 : decode cX12_upland 18 = .ok (.iconst 1, 1) := by decide +kernel
theorem dX12_upland_19 : decode cX12_upland 19 = .ok (.invokevirtual 274, 3) := by decide +kernel
theorem dX12_upland_22 : decode cX12_upland 22 = .ok (.ireturn, 1) := by decide +kernel
theorem dX12_upland_23 : decode cX12_upland 23 = .ok (.aload_n 0, 1) := by decide +kernel
theorem dX12_upland_24 : decode cX12_upland 24 = .ok (.iconst 0, 1) := by decide +kernel
theorem dX12_upland_25 : decode cX12_upland 25 = .ok (.putfield 149, 3) := by decide +kernel
theorem dX12_upland_28 : decode cX12_upland 28 = .ok (.aload_n 0, 1) := by decide +kernel
theorem dX12_upland_29 : decode cX12_upland 29 = .ok (.iload_n 1, 1) := by decide +kernel
theorem dX12_upland_30 : decode cX12_upland 30 = .ok (.putfield 152, 3) := by decide +kernel
theorem dX12_upland_33 : decode cX12_upland 33 = .ok (.aload_n 0, 1) := by decide +kernel
theorem dX12_upland_34 : decode cX12_upland 34 = .ok (.iconst 0, 1) := by decide +kernel
theorem dX12_upland_35 : decode cX12_upland 35 = .ok (.putfield 155, 3) := by decide +kernel
theorem dX12_upland_38 : decode cX12_upland 38 = .ok (.aload_n 0, 1) := by decide +kernel
theorem dX12_upland_39 : decode cX12_upland 39 = .ok (.iconst 0, 1) := by decide +kernel
theorem dX12_upland_40 : decode cX12_upland 40 = .ok (.putfield 191, 3) := by decide +kernel
theorem dX12_upland_43 : decode cX12_upland 43 = .ok (.aload_n 0, 1) := by decide +kernel
theorem dX12_upland_44 : decode cX12_upland 44 = .ok (.iconst (-1), 1) := by decide +kernel
theorem dX12_upland_45 : decode cX12_upland 45 = .ok (.putfield 65, 3) := by decide +kernel
theorem dX12_upland_48 : decode cX12_upland 48 = .ok (.iconst 0, 1) := by decide +kernel
theorem dX12_upland_49 : decode cX12_upland 49 = .ok (.istore_n 2, 1) := by decide +kernel
theorem dX12_upland_50 : decode cX12_upland 50 = .ok (.iload_n 2, 1) := by decide +kernel
theorem dX12_upland_51 : decode cX12_upland 51 = .ok (.iconst 5, 1) := by decide +kernel
theorem dX12_upland_52 : decode cX12_upland 52 = .ok (.if_icmp .ge 37, 3) := by decide +kernel
theorem dX12_upland_55 : decode cX12_upland 55 = .ok (.aload_n 0, 1) := by decide +kernel
theorem dX12_upland_56 : decode cX12_upland 56 = .ok (.getfield 34, 3) := by decide +kernel
theorem dX12_upland_59 : decode cX12_upland 59 = .ok (.iconst 5, 1) := by decide +kernel
theorem dX12_upland_60 : decode cX12_upland 60 = .ok (.iload_n 2, 1) := by decide +kernel
theorem dX12_upland_61 : decode cX12_upland 61 = .ok (.iadd, 1) := by decide +kernel
theorem dX12_upland_62 : decode cX12_upland 62 = .ok (.iload_n 2, 1) := by decide +kernel
theorem dX12_upland_63 : decode cX12_upland 63 = .ok (.iconst 1, 1) := by decide +kernel
theorem dX12_upland_64 : decode cX12_upland 64 = .ok (.if_icmp .ne 8, 3) := by decide +kernel
theorem dX12_upland_67 : decode cX12_upland 67 = .ok (.bipush 60, 2) := by decide +kernel
theorem dX12_upland_69 : decode cX12_upland 69 = .ok (.goto 13, 3) := by decide +kernel
theorem dX12_upland_72 : decode cX12_upland 72 = .ok (.iload_n 2, 1) := by decide +kernel
theorem dX12_upland_73 : decode cX12_upland 73 = .ok (.iconst 2, 1) := by decide +kernel
theorem dX12_upland_74 : decode cX12_upland 74 = .ok (.if_icmp .ne 7, 3) := by decide +kernel
theorem dX12_upland_77 : decode cX12_upland 77 = .ok (.iconst 3, 1) := by decide +kernel
theorem dX12_upland_78 : decode cX12_upland 78 = .ok (.goto 4, 3) := by decide +kernel
theorem dX12_upland_81 : decode cX12_upland 81 = .ok (.iconst 0, 1) := by decide +kernel
theorem dX12_upland_82 : decode cX12_upland 82 = .ok (.iastore, 1) := by decide +kernel
theorem dX12_upland_83 : decode cX12_upland 83 = .ok (.iinc 2 1, 3) := by decide +kernel
theorem dX12_upland_86 : decode cX12_upland 86 = .ok (.goto (-36), 3) := by decide +kernel
theorem dX12_upland_89 : decode cX12_upland 89 = .ok (.aload_n 0, 1) := by decide +kernel
theorem dX12_upland_90 : decode cX12_upland 90 = .ok (.invokevirtual 216, 3) := by decide +kernel
theorem dX12_upland_93 : decode cX12_upland 93 = .ok (.iconst 0, 1) := by decide +kernel
theorem dX12_upland_94 : decode cX12_upland 94 = .ok (.istore_n 2, 1) := by decide +kernel
theorem dX12_upland_95 : decode cX12_upland 95 = .ok (.aload_n 0, 1) := by decide +kernel
theorem dX12_upland_96 : decode cX12_upland 96 = .ok (.getfield 191, 3) := by decide +kernel
theorem dX12_upland_99 : decode cX12_upland 99 = .ok (.ifCond .ne 19, 3) := by decide +kernel
theorem dX12_upland_102 : decode cX12_upland 102 = .ok (.aload_n 0, 1) := by decide +kernel
theorem dX12_upland_103 : decode cX12_upland 103 = .ok (.getfield 165, 3) := by decide +kernel
theorem dX12_upland_106 : decode cX12_upland 106 = .ok (.ifCond .eq 12, 3) := by decide +kernel
theorem dX12_upland_109 : decode cX12_upland 109 = .ok (.aload_n 0, 1) := by decide +kernel
theorem dX12_upland_110 : decode cX12_upland 110 = .ok (.iload_n 2, 1) := by decide +kernel
theorem dX12_upland_111 : decode cX12_upland 111 = .ok (.invokevirtual 277, 3) := by decide +kernel
theorem dX12_upland_114 : decode cX12_upland 114 = .ok (.istore_n 2, 1) := by decide +kernel
theorem dX12_upland_115 : decode cX12_upland 115 = .ok (.goto (-20), 3) := by decide +kernel
theorem dX12_upland_118 : decode cX12_upland 118 = .ok (.aload_n 0, 1) := by decide +kernel
theorem dX12_upland_119 : decode cX12_upland 119 = .ok (.getfield 191, 3) := by decide +kernel
theorem dX12_upland_122 : decode cX12_upland 122 = .ok (.ifCond .eq 26, 3) := by decide +kernel
theorem dX12_upland_125 : decode cX12_upland 125 = .ok (.aload_n 0, 1) := by decide +kernel
theorem dX12_upland_126 : decode cX12_upland 126 = .ok (.aload_n 0, 1) := by decide +kernel
theorem dX12_upland_127 : decode cX12_upland 127 = .ok (.getfield 194, 3) := by decide +kernel
theorem dX12_upland_130 : decode cX12_upland 130 = .ok (.putfield 65, 3) := by decide +kernel
theorem dX12_upland_133 : decode cX12_upland 133 = .ok (.aload_n 0, 1) := by decide +kernel
theorem dX12_upland_134 : decode cX12_upland 134 = .ok (.getfield 59, 3) := by decide +kernel
theorem dX12_upland_137 : decode cX12_upland 137 = .ok (.iconst 0, 1) := by decide +kernel
theorem dX12_upland_138 : decode cX12_upland 138 = .ok (.dup2, 1) := by decide +kernel
theorem dX12_upland_139 : decode cX12_upland 139 = .ok (.iaload, 1) := by decide +kernel
theorem dX12_upland_140 : decode cX12_upland 140 = .ok (.iconst 1, 1) := by decide +kernel
theorem dX12_upland_141 : decode cX12_upland 141 = .ok (.iadd, 1) := by decide +kernel
theorem dX12_upland_142 : decode cX12_upland 142 = .ok (.iastore, 1) := by decide +kernel
theorem dX12_upland_143 : decode cX12_upland 143 = .ok (.aload_n 0, 1) := by decide +kernel
theorem dX12_upland_144 : decode cX12_upland 144 = .ok (.getfield 191, 3) := by decide +kernel
theorem dX12_upland_147 : decode cX12_upland 147 = .ok (.ireturn, 1) := by decide +kernel
theorem dX12_upland_148 : decode cX12_upland 148 = .ok (.aload_n 0, 1) := by decide +kernel
theorem dX12_upland_149 : decode cX12_upland 149 = .ok (.invokevirtual 280, 3) := by decide +kernel
theorem dX12_upland_152 : decode cX12_upland 152 = .ok (.iconst 0, 1) := by decide +kernel
theorem dX12_upland_153 : decode cX12_upland 153 = .ok (.ireturn, 1) := by decide +kernel
theorem dX12_takeHalf_0 : decode cX12_takeHalf 0 = .ok (.iconst 0, 1) := by decide +kernel
theorem dX12_takeHalf_1 : decode cX12_takeHalf 1 = .ok (.istore_n 1, 1) := by decide +kernel
theorem dX12_takeHalf_2 : decode cX12_takeHalf 2 = .ok (.iload_n 1, 1) := by decide +kernel
theorem dX12_takeHalf_3 : decode cX12_takeHalf 3 = .ok (.aload_n 0, 1) := by decide +kernel
theorem dX12_takeHalf_4 : decode cX12_takeHalf 4 = .ok (.arraylength, 1) := by decide +kernel
theorem dX12_takeHalf_5 : decode cX12_takeHalf 5 = .ok (.iconst 2, 1) := by decide +kernel
theorem dX12_takeHalf_6 : decode cX12_takeHalf 6 = .ok (.idiv, 1) := by decide +kernel
theorem dX12_takeHalf_7 : decode cX12_takeHalf 7 = .ok (.if_icmp .ge 20, 3) := by decide +kernel
theorem dX12_takeHalf_10 : decode cX12_takeHalf 10 = .ok (.aload_n 0, 1) := by decide +kernel
theorem dX12_takeHalf_11 : decode cX12_takeHalf 11 = .ok (.iload_n 1, 1) := by decide +kernel
theorem dX12_takeHalf_12 : decode cX12_takeHalf 12 = .ok (.aload_n 0, 1) := by decide +kernel
theorem dX12_takeHalf_13 : decode cX12_takeHalf 13 = .ok (.aload_n 0, 1) := by decide +kernel
theorem dX12_takeHalf_14 : decode cX12_takeHalf 14 = .ok (.arraylength, 1) := by decide +kernel
theorem dX12_takeHalf_15 : decode cX12_takeHalf 15 = .ok (.iconst 2, 1) := by decide +kernel
theorem dX12_takeHalf_16 : decode cX12_takeHalf 16 = .ok (.idiv, 1) := by decide +kernel
theorem dX12_takeHalf_17 : decode cX12_takeHalf 17 = .ok (.iload_n 1, 1) := by decide +kernel
theorem dX12_takeHalf_18 : decode cX12_takeHalf 18 = .ok (.iadd, 1) := by decide +kernel
theorem dX12_takeHalf_19 : decode cX12_takeHalf 19 = .ok (.iaload, 1) := by decide +kernel
theorem dX12_takeHalf_20 : decode cX12_takeHalf 20 = .ok (.iastore, 1) := by decide +kernel
theorem dX12_takeHalf_21 : decode cX12_takeHalf 21 = .ok (.iinc 1 1, 3) := by decide +kernel
theorem dX12_takeHalf_24 : decode cX12_takeHalf 24 = .ok (.goto (-22), 3) := by decide +kernel
theorem dX12_takeHalf_27 : decode cX12_takeHalf 27 = .ok (.return_, 1) := by decide +kernel
theorem dX12_takeOver_0 : decode cX12_takeOver 0 = .ok (.aload_n 0, 1) := by decide +kernel
theorem dX12_takeOver_1 : decode cX12_takeOver 1 = .ok (.getfield 34, 3) := by decide +kernel
theorem dX12_takeOver_4 : decode cX12_takeOver 4 = .ok (.invokestatic 283, 3) := by decide +kernel
theorem dX12_takeOver_7 : decode cX12_takeOver 7 = .ok (.aload_n 0, 1) := by decide +kernel
theorem dX12_takeOver_8 : decode cX12_takeOver 8 = .ok (.getfield 38, 3) := by decide +kernel
theorem dX12_takeOver_11 : decode cX12_takeOver 11 = .ok (.invokestatic 283, 3) := by decide +kernel
theorem dX12_takeOver_14 : decode cX12_takeOver 14 = .ok (.aload_n 0, 1) := by decide +kernel
theorem dX12_takeOver_15 : decode cX12_takeOver 15 = .ok (.getfield 41, 3) := by decide +kernel
theorem dX12_takeOver_18 : decode cX12_takeOver 18 = .ok (.invokestatic 283, 3) := by decide +kernel
theorem dX12_takeOver_21 : decode cX12_takeOver 21 = .ok (.aload_n 0, 1) := by decide +kernel
theorem dX12_takeOver_22 : decode cX12_takeOver 22 = .ok (.getfield 44, 3) := by decide +kernel
theorem dX12_takeOver_25 : decode cX12_takeOver 25 = .ok (.invokestatic 283, 3) := by decide +kernel
theorem dX12_takeOver_28 : decode cX12_takeOver 28 = .ok (.aload_n 0, 1) := by decide +kernel
theorem dX12_takeOver_29 : decode cX12_takeOver 29 = .ok (.getfield 47, 3) := by decide +kernel
theorem dX12_takeOver_32 : decode cX12_takeOver 32 = .ok (.invokestatic 283, 3) := by decide +kernel
theorem dX12_takeOver_35 : decode cX12_takeOver 35 = .ok (.aload_n 0, 1) := by decide +kernel
theorem dX12_takeOver_36 : decode cX12_takeOver 36 = .ok (.getfield 50, 3) := by decide +kernel
theorem dX12_takeOver_39 : decode cX12_takeOver 39 = .ok (.invokestatic 283, 3) := by decide +kernel
theorem dX12_takeOver_42 : decode cX12_takeOver 42 = .ok (.aload_n 0, 1) := by decide +kernel
theorem dX12_takeOver_43 : decode cX12_takeOver 43 = .ok (.getfield 53, 3) := by decide +kernel
theorem dX12_takeOver_46 : decode cX12_takeOver 46 = .ok (.invokestatic 283, 3) := by decide +kernel
theorem dX12_takeOver_49 : decode cX12_takeOver 49 = .ok (.aload_n 0, 1) := by decide +kernel
theorem dX12_takeOver_50 : decode cX12_takeOver 50 = .ok (.getfield 56, 3) := by decide +kernel
theorem dX12_takeOver_53 : decode cX12_takeOver 53 = .ok (.invokestatic 283, 3) := by decide +kernel
theorem dX12_takeOver_56 : decode cX12_takeOver 56 = .ok (.aload_n 0, 1) := by decide +kernel
theorem dX12_takeOver_57 : decode cX12_takeOver 57 = .ok (.iconst 0, 1) := by decide +kernel
theorem dX12_takeOver_58 : decode cX12_takeOver 58 = .ok (.putfield 287, 3) := by decide +kernel
theorem dX12_takeOver_61 : decode cX12_takeOver 61 = .ok (.aload_n 0, 1) := by decide +kernel
theorem dX12_takeOver_62 : decode cX12_takeOver 62 = .ok (.iconst 0, 1) := by decide +kernel
theorem dX12_takeOver_63 : decode cX12_takeOver 63 = .ok (.putfield 290, 3) := by decide +kernel
theorem dX12_takeOver_66 : decode cX12_takeOver 66 = .ok (.iconst 0, 1) := by decide +kernel
theorem dX12_takeOver_67 : decode cX12_takeOver 67 = .ok (.istore_n 1, 1) := by decide +kernel
theorem dX12_takeOver_68 : decode cX12_takeOver 68 = .ok (.iload_n 1, 1) := by decide +kernel
theorem dX12_takeOver_69 : decode cX12_takeOver 69 = .ok (.bipush 9, 2) := by decide +kernel
theorem dX12_takeOver_71 : decode cX12_takeOver 71 = .ok (.if_icmp .ge 56, 3) := by decide +kernel
theorem dX12_takeOver_74 : decode cX12_takeOver 74 = .ok (.aload_n 0, 1) := by decide +kernel
theorem dX12_takeOver_75 : decode cX12_takeOver 75 = .ok (.getfield 69, 3) := by decide +kernel
theorem dX12_takeOver_78 : decode cX12_takeOver 78 = .ok (.iload_n 1, 1) := by decide +kernel
theorem dX12_takeOver_79 : decode cX12_takeOver 79 = .ok (.iconst 0, 1) := by decide +kernel
theorem dX12_takeOver_80 : decode cX12_takeOver 80 = .ok (.iastore, 1) := by decide +kernel
theorem dX12_takeOver_81 : decode cX12_takeOver 81 = .ok (.aload_n 0, 1) := by decide +kernel
theorem dX12_takeOver_82 : decode cX12_takeOver 82 = .ok (.getfield 72, 3) := by decide +kernel
theorem dX12_takeOver_85 : decode cX12_takeOver 85 = .ok (.iload_n 1, 1) := by decide +kernel
theorem dX12_takeOver_86 : decode cX12_takeOver 86 = .ok (.iconst 0, 1) := by decide +kernel
theorem dX12_takeOver_87 : decode cX12_takeOver 87 = .ok (.iastore, 1) := by decide +kernel
theorem dX12_takeOver_88 : decode cX12_takeOver 88 = .ok (.aload_n 0, 1) := by decide +kernel
theorem dX12_takeOver_89 : decode cX12_takeOver 89 = .ok (.getfield 75, 3) := by decide +kernel
theorem dX12_takeOver_92 : decode cX12_takeOver 92 = .ok (.iload_n 1, 1) := by decide +kernel
theorem dX12_takeOver_93 : decode cX12_takeOver 93 = .ok (.iconst 0, 1) := by decide +kernel
theorem dX12_takeOver_94 : decode cX12_takeOver 94 = .ok (.iastore, 1) := by decide +kernel
theorem dX12_takeOver_95 : decode cX12_takeOver 95 = .ok (.aload_n 0, 1) := by decide +kernel
theorem dX12_takeOver_96 : decode cX12_takeOver 96 = .ok (.getfield 78, 3) := by decide +kernel
theorem dX12_takeOver_99 : decode cX12_takeOver 99 = .ok (.iload_n 1, 1) := by decide +kernel
theorem dX12_takeOver_100 : decode cX12_takeOver 100 = .ok (.iload_n 1, 1) := by decide +kernel
theorem dX12_takeOver_101 : decode cX12_takeOver 101 = .ok (.aload_n 0, 1) := by decide +kernel
theorem dX12_takeOver_102 : decode cX12_takeOver 102 = .ok (.getfield 34, 3) := by decide +kernel
theorem dX12_takeOver_105 : decode cX12_takeOver 105 = .ok (.iconst 0, 1) := by decide +kernel
theorem dX12_takeOver_106 : decode cX12_takeOver 106 = .ok (.iaload, 1) := by decide +kernel
theorem dX12_takeOver_107 : decode cX12_takeOver 107 = .ok (.if_icmp .ge 12, 3) := by decide +kernel
theorem dX12_takeOver_110 : decode cX12_takeOver 110 = .ok (.aload_n 0, 1) := by decide +kernel
theorem dX12_takeOver_111 : decode cX12_takeOver 111 = .ok (.getfield 47, 3) := by decide +kernel
theorem dX12_takeOver_114 : decode cX12_takeOver 114 = .ok (.iload_n 1, 1) := by decide +kernel
theorem dX12_takeOver_115 : decode cX12_takeOver 115 = .ok (.iaload, 1) := by decide +kernel
theorem dX12_takeOver_116 : decode cX12_takeOver 116 = .ok (.goto 4, 3) := by decide +kernel
theorem dX12_takeOver_119 : decode cX12_takeOver 119 = .ok (.iconst 0, 1) := by decide +kernel
theorem dX12_takeOver_120 : decode cX12_takeOver 120 = .ok (.iastore, 1) := by decide +kernel
theorem dX12_takeOver_121 : decode cX12_takeOver 121 = .ok (.iinc 1 1, 3) := by decide +kernel
theorem dX12_takeOver_124 : decode cX12_takeOver 124 = .ok (.goto (-56), 3) := by decide +kernel
theorem dX12_takeOver_127 : decode cX12_takeOver 127 = .ok (.aload_n 0, 1) := by decide +kernel
theorem dX12_takeOver_128 : decode cX12_takeOver 128 = .ok (.iconst 0, 1) := by decide +kernel
theorem dX12_takeOver_129 : decode cX12_takeOver 129 = .ok (.putfield 293, 3) := by decide +kernel
theorem dX12_takeOver_132 : decode cX12_takeOver 132 = .ok (.aload_n 0, 1) := by decide +kernel
theorem dX12_takeOver_133 : decode cX12_takeOver 133 = .ok (.iconst 0, 1) := by decide +kernel
theorem dX12_takeOver_134 : decode cX12_takeOver 134 = .ok (.putfield 296, 3) := by decide +kernel
theorem dX12_takeOver_137 : decode cX12_takeOver 137 = .ok (.aload_n 0, 1) := by decide +kernel
theorem dX12_takeOver_138 : decode cX12_takeOver 138 = .ok (.iconst 0, 1) := by decide +kernel
theorem dX12_takeOver_139 : decode cX12_takeOver 139 = .ok (.putfield 298, 3) := by decide +kernel
theorem dX12_takeOver_142 : decode cX12_takeOver 142 = .ok (.return_, 1) := by decide +kernel
theorem dX12_fault_0 : decode cX12_fault 0 = .ok (.aload_n 0, 1) := by decide +kernel
theorem dX12_fault_1 : decode cX12_fault 1 = .ok (.iconst 0, 1) := by decide +kernel
theorem dX12_fault_2 : decode cX12_fault 2 = .ok (.putfield 142, 3) := by decide +kernel
theorem dX12_fault_5 : decode cX12_fault 5 = .ok (.aload_n 0, 1) := by decide +kernel
theorem dX12_fault_6 : decode cX12_fault 6 = .ok (.getfield 65, 3) := by decide +kernel
theorem dX12_fault_9 : decode cX12_fault 9 = .ok (.ireturn, 1) := by decide +kernel
theorem dX12_pack_0 : decode cX12_pack 0 = .ok (.aload_n 1, 1) := by decide +kernel
theorem dX12_pack_1 : decode cX12_pack 1 = .ok (.iload_n 2, 1) := by decide +kernel
theorem dX12_pack_2 : decode cX12_pack 2 = .ok (.aload_n 0, 1) := by decide +kernel
theorem dX12_pack_3 : decode cX12_pack 3 = .ok (.getfield 287, 3) := by decide +kernel
theorem dX12_pack_6 : decode cX12_pack 6 = .ok (.iastore, 1) := by decide +kernel
theorem dX12_pack_7 : decode cX12_pack 7 = .ok (.aload_n 1, 1) := by decide +kernel
theorem dX12_pack_8 : decode cX12_pack 8 = .ok (.iload_n 2, 1) := by decide +kernel
theorem dX12_pack_9 : decode cX12_pack 9 = .ok (.iconst 1, 1) := by decide +kernel
theorem dX12_pack_10 : decode cX12_pack 10 = .ok (.iadd, 1) := by decide +kernel
theorem dX12_pack_11 : decode cX12_pack 11 = .ok (.aload_n 0, 1) := by decide +kernel
theorem dX12_pack_12 : decode cX12_pack 12 = .ok (.getfield 290, 3) := by decide +kernel
theorem dX12_pack_15 : decode cX12_pack 15 = .ok (.iastore, 1) := by decide +kernel
theorem dX12_pack_16 : decode cX12_pack 16 = .ok (.iconst 0, 1) := by decide +kernel
theorem dX12_pack_17 : decode cX12_pack 17 = .ok (.istore_n 3, 1) := by decide +kernel
theorem dX12_pack_18 : decode cX12_pack 18 = .ok (.iload_n 3, 1) := by decide +kernel
theorem dX12_pack_19 : decode cX12_pack 19 = .ok (.bipush 9, 2) := by decide +kernel
theorem dX12_pack_21 : decode cX12_pack 21 = .ok (.if_icmp .ge 70, 3) := by decide +kernel
theorem dX12_pack_24 : decode cX12_pack 24 = .ok (.aload_n 1, 1) := by decide +kernel
theorem dX12_pack_25 : decode cX12_pack 25 = .ok (.iload_n 2, 1) := by decide +kernel
theorem dX12_pack_26 : decode cX12_pack 26 = .ok (.iconst 2, 1) := by decide +kernel
theorem dX12_pack_27 : decode cX12_pack 27 = .ok (.iadd, 1) := by decide +kernel
theorem dX12_pack_28 : decode cX12_pack 28 = .ok (.iload_n 3, 1) := by decide +kernel
theorem dX12_pack_29 : decode cX12_pack 29 = .ok (.iadd, 1) := by decide +kernel
theorem dX12_pack_30 : decode cX12_pack 30 = .ok (.aload_n 0, 1) := by decide +kernel
theorem dX12_pack_31 : decode cX12_pack 31 = .ok (.getfield 69, 3) := by decide +kernel
theorem dX12_pack_34 : decode cX12_pack 34 = .ok (.iload_n 3, 1) := by decide +kernel
theorem dX12_pack_35 : decode cX12_pack 35 = .ok (.iaload, 1) := by decide +kernel
theorem dX12_pack_36 : decode cX12_pack 36 = .ok (.iastore, 1) := by decide +kernel
theorem dX12_pack_37 : decode cX12_pack 37 = .ok (.aload_n 1, 1) := by decide +kernel
theorem dX12_pack_38 : decode cX12_pack 38 = .ok (.iload_n 2, 1) := by decide +kernel
theorem dX12_pack_39 : decode cX12_pack 39 = .ok (.iconst 2, 1) := by decide +kernel
theorem dX12_pack_40 : decode cX12_pack 40 = .ok (.iadd, 1) := by decide +kernel
theorem dX12_pack_41 : decode cX12_pack 41 = .ok (.bipush 9, 2) := by decide +kernel
theorem dX12_pack_43 : decode cX12_pack 43 = .ok (.iadd, 1) := by decide +kernel
theorem dX12_pack_44 : decode cX12_pack 44 = .ok (.iload_n 3, 1) := by decide +kernel
theorem dX12_pack_45 : decode cX12_pack 45 = .ok (.iadd, 1) := by decide +kernel
theorem dX12_pack_46 : decode cX12_pack 46 = .ok (.aload_n 0, 1) := by decide +kernel
theorem dX12_pack_47 : decode cX12_pack 47 = .ok (.getfield 72, 3) := by decide +kernel
theorem dX12_pack_50 : decode cX12_pack 50 = .ok (.iload_n 3, 1) := by decide +kernel
theorem dX12_pack_51 : decode cX12_pack 51 = .ok (.iaload, 1) := by decide +kernel
theorem dX12_pack_52 : decode cX12_pack 52 = .ok (.iastore, 1) := by decide +kernel
theorem dX12_pack_53 : decode cX12_pack 53 = .ok (.aload_n 1, 1) := by decide +kernel
theorem dX12_pack_54 : decode cX12_pack 54 = .ok (.iload_n 2, 1) := by decide +kernel
theorem dX12_pack_55 : decode cX12_pack 55 = .ok (.iconst 2, 1) := by decide +kernel
theorem dX12_pack_56 : decode cX12_pack 56 = .ok (.iadd, 1) := by decide +kernel
theorem dX12_pack_57 : decode cX12_pack 57 = .ok (.bipush 18, 2) := by decide +kernel
theorem dX12_pack_59 : decode cX12_pack 59 = .ok (.iadd, 1) := by decide +kernel
theorem dX12_pack_60 : decode cX12_pack 60 = .ok (.iload_n 3, 1) := by decide +kernel
theorem dX12_pack_61 : decode cX12_pack 61 = .ok (.iadd, 1) := by decide +kernel
theorem dX12_pack_62 : decode cX12_pack 62 = .ok (.aload_n 0, 1) := by decide +kernel
theorem dX12_pack_63 : decode cX12_pack 63 = .ok (.getfield 75, 3) := by decide +kernel
theorem dX12_pack_66 : decode cX12_pack 66 = .ok (.iload_n 3, 1) := by decide +kernel
theorem dX12_pack_67 : decode cX12_pack 67 = .ok (.iaload, 1) := by decide +kernel
theorem dX12_pack_68 : decode cX12_pack 68 = .ok (.iastore, 1) := by decide +kernel
theorem dX12_pack_69 : decode cX12_pack 69 = .ok (.aload_n 1, 1) := by decide +kernel
theorem dX12_pack_70 : decode cX12_pack 70 = .ok (.iload_n 2, 1) := by decide +kernel
theorem dX12_pack_71 : decode cX12_pack 71 = .ok (.iconst 2, 1) := by decide +kernel
theorem dX12_pack_72 : decode cX12_pack 72 = .ok (.iadd, 1) := by decide +kernel
theorem dX12_pack_73 : decode cX12_pack 73 = .ok (.bipush 27, 2) := by decide +kernel
theorem dX12_pack_75 : decode cX12_pack 75 = .ok (.iadd, 1) := by decide +kernel
theorem dX12_pack_76 : decode cX12_pack 76 = .ok (.iload_n 3, 1) := by decide +kernel
theorem dX12_pack_77 : decode cX12_pack 77 = .ok (.iadd, 1) := by decide +kernel
theorem dX12_pack_78 : decode cX12_pack 78 = .ok (.aload_n 0, 1) := by decide +kernel
theorem dX12_pack_79 : decode cX12_pack 79 = .ok (.getfield 78, 3) := by decide +kernel
theorem dX12_pack_82 : decode cX12_pack 82 = .ok (.iload_n 3, 1) := by decide +kernel
theorem dX12_pack_83 : decode cX12_pack 83 = .ok (.iaload, 1) := by decide +kernel
theorem dX12_pack_84 : decode cX12_pack 84 = .ok (.iastore, 1) := by decide +kernel
theorem dX12_pack_85 : decode cX12_pack 85 = .ok (.iinc 3 1, 3) := by decide +kernel
theorem dX12_pack_88 : decode cX12_pack 88 = .ok (.goto (-70), 3) := by decide +kernel
theorem dX12_pack_91 : decode cX12_pack 91 = .ok (.return_, 1) := by decide +kernel
theorem dX12_unpack_0 : decode cX12_unpack 0 = .ok (.aload_n 0, 1) := by decide +kernel
theorem dX12_unpack_1 : decode cX12_unpack 1 = .ok (.aload_n 1, 1) := by decide +kernel
theorem dX12_unpack_2 : decode cX12_unpack 2 = .ok (.iload_n 2, 1) := by decide +kernel
theorem dX12_unpack_3 : decode cX12_unpack 3 = .ok (.iaload, 1) := by decide +kernel
theorem dX12_unpack_4 : decode cX12_unpack 4 = .ok (.putfield 287, 3) := by decide +kernel
theorem dX12_unpack_7 : decode cX12_unpack 7 = .ok (.aload_n 0, 1) := by decide +kernel
theorem dX12_unpack_8 : decode cX12_unpack 8 = .ok (.aload_n 1, 1) := by decide +kernel
theorem dX12_unpack_9 : decode cX12_unpack 9 = .ok (.iload_n 2, 1) := by decide +kernel
theorem dX12_unpack_10 : decode cX12_unpack 10 = .ok (.iconst 1, 1) := by decide +kernel
theorem dX12_unpack_11 : decode cX12_unpack 11 = .ok (.iadd, 1) := by decide +kernel
theorem dX12_unpack_12 : decode cX12_unpack 12 = .ok (.iaload, 1) := by decide +kernel
theorem dX12_unpack_13 : decode cX12_unpack 13 = .ok (.putfield 290, 3) := by decide +kernel
theorem dX12_unpack_16 : decode cX12_unpack 16 = .ok (.iconst 0, 1) := by decide +kernel
theorem dX12_unpack_17 : decode cX12_unpack 17 = .ok (.istore_n 3, 1) := by decide +kernel
theorem dX12_unpack_18 : decode cX12_unpack 18 = .ok (.iload_n 3, 1) := by decide +kernel
theorem dX12_unpack_19 : decode cX12_unpack 19 = .ok (.bipush 9, 2) := by decide +kernel
theorem dX12_unpack_21 : decode cX12_unpack 21 = .ok (.if_icmp .ge 70, 3) := by decide +kernel
theorem dX12_unpack_24 : decode cX12_unpack 24 = .ok (.aload_n 0, 1) := by decide +kernel
theorem dX12_unpack_25 : decode cX12_unpack 25 = .ok (.getfield 69, 3) := by decide +kernel
theorem dX12_unpack_28 : decode cX12_unpack 28 = .ok (.iload_n 3, 1) := by decide +kernel
theorem dX12_unpack_29 : decode cX12_unpack 29 = .ok (.aload_n 1, 1) := by decide +kernel
theorem dX12_unpack_30 : decode cX12_unpack 30 = .ok (.iload_n 2, 1) := by decide +kernel
theorem dX12_unpack_31 : decode cX12_unpack 31 = .ok (.iconst 2, 1) := by decide +kernel
theorem dX12_unpack_32 : decode cX12_unpack 32 = .ok (.iadd, 1) := by decide +kernel
theorem dX12_unpack_33 : decode cX12_unpack 33 = .ok (.iload_n 3, 1) := by decide +kernel
theorem dX12_unpack_34 : decode cX12_unpack 34 = .ok (.iadd, 1) := by decide +kernel
theorem dX12_unpack_35 : decode cX12_unpack 35 = .ok (.iaload, 1) := by decide +kernel
theorem dX12_unpack_36 : decode cX12_unpack 36 = .ok (.iastore, 1) := by decide +kernel
theorem dX12_unpack_37 : decode cX12_unpack 37 = .ok (.aload_n 0, 1) := by decide +kernel
theorem dX12_unpack_38 : decode cX12_unpack 38 = .ok (.getfield 72, 3) := by decide +kernel
theorem dX12_unpack_41 : decode cX12_unpack 41 = .ok (.iload_n 3, 1) := by decide +kernel
theorem dX12_unpack_42 : decode cX12_unpack 42 = .ok (.aload_n 1, 1) := by decide +kernel
theorem dX12_unpack_43 : decode cX12_unpack 43 = .ok (.iload_n 2, 1) := by decide +kernel
theorem dX12_unpack_44 : decode cX12_unpack 44 = .ok (.iconst 2, 1) := by decide +kernel
theorem dX12_unpack_45 : decode cX12_unpack 45 = .ok (.iadd, 1) := by decide +kernel
theorem dX12_unpack_46 : decode cX12_unpack 46 = .ok (.bipush 9, 2) := by decide +kernel
theorem dX12_unpack_48 : decode cX12_unpack 48 = .ok (.iadd, 1) := by decide +kernel
theorem dX12_unpack_49 : decode cX12_unpack 49 = .ok (.iload_n 3, 1) := by decide +kernel
theorem dX12_unpack_50 : decode cX12_unpack 50 = .ok (.iadd, 1) := by decide +kernel
theorem dX12_unpack_51 : decode cX12_unpack 51 = .ok (.iaload, 1) := by decide +kernel
theorem dX12_unpack_52 : decode cX12_unpack 52 = .ok (.iastore, 1) := by decide +kernel
theorem dX12_unpack_53 : decode cX12_unpack 53 = .ok (.aload_n 0, 1) := by decide +kernel
theorem dX12_unpack_54 : decode cX12_unpack 54 = .ok (.getfield 75, 3) := by decide +kernel
theorem dX12_unpack_57 : decode cX12_unpack 57 = .ok (.iload_n 3, 1) := by decide +kernel
theorem dX12_unpack_58 : decode cX12_unpack 58 = .ok (.aload_n 1, 1) := by decide +kernel
theorem dX12_unpack_59 : decode cX12_unpack 59 = .ok (.iload_n 2, 1) := by decide +kernel
theorem dX12_unpack_60 : decode cX12_unpack 60 = .ok (.iconst 2, 1) := by decide +kernel
theorem dX12_unpack_61 : decode cX12_unpack 61 = .ok (.iadd, 1) := by decide +kernel
theorem dX12_unpack_62 : decode cX12_unpack 62 = .ok (.bipush 18, 2) := by decide +kernel
theorem dX12_unpack_64 : decode cX12_unpack 64 = .ok (.iadd, 1) := by decide +kernel
theorem dX12_unpack_65 : decode cX12_unpack 65 = .ok (.iload_n 3, 1) := by decide +kernel
theorem dX12_unpack_66 : decode cX12_unpack 66 = .ok (.iadd, 1) := by decide +kernel
theorem dX12_unpack_67 : decode cX12_unpack 67 = .ok (.iaload, 1) := by decide +kernel
theorem dX12_unpack_68 : decode cX12_unpack 68 = .ok (.iastore, 1) := by decide +kernel
theorem dX12_unpack_69 : decode cX12_unpack 69 = .ok (.aload_n 0, 1) := by decide +kernel
theorem dX12_unpack_70 : decode cX12_unpack 70 = .ok (.getfield 78, 3) := by decide +kernel
theorem dX12_unpack_73 : decode cX12_unpack 73 = .ok (.iload_n 3, 1) := by decide +kernel
theorem dX12_unpack_74 : decode cX12_unpack 74 = .ok (.aload_n 1, 1) := by decide +kernel
theorem dX12_unpack_75 : decode cX12_unpack 75 = .ok (.iload_n 2, 1) := by decide +kernel
theorem dX12_unpack_76 : decode cX12_unpack 76 = .ok (.iconst 2, 1) := by decide +kernel
theorem dX12_unpack_77 : decode cX12_unpack 77 = .ok (.iadd, 1) := by decide +kernel
theorem dX12_unpack_78 : decode cX12_unpack 78 = .ok (.bipush 27, 2) := by decide +kernel
theorem dX12_unpack_80 : decode cX12_unpack 80 = .ok (.iadd, 1) := by decide +kernel
theorem dX12_unpack_81 : decode cX12_unpack 81 = .ok (.iload_n 3, 1) := by decide +kernel
theorem dX12_unpack_82 : decode cX12_unpack 82 = .ok (.iadd, 1) := by decide +kernel
theorem dX12_unpack_83 : decode cX12_unpack 83 = .ok (.iaload, 1) := by decide +kernel
theorem dX12_unpack_84 : decode cX12_unpack 84 = .ok (.iastore, 1) := by decide +kernel
theorem dX12_unpack_85 : decode cX12_unpack 85 = .ok (.iinc 3 1, 3) := by decide +kernel
theorem dX12_unpack_88 : decode cX12_unpack 88 = .ok (.goto (-70), 3) := by decide +kernel
theorem dX12_unpack_91 : decode cX12_unpack 91 = .ok (.return_, 1) := by decide +kernel
theorem dX12_mistOf_0 : decode cX12_mistOf 0 = .ok (.aload_n 0, 1) := by decide +kernel
theorem dX12_mistOf_1 : decode cX12_mistOf 1 = .ok (.getfield 84, 3) := by decide +kernel
theorem dX12_mistOf_4 : decode cX12_mistOf 4 = .ok (.iconst (-1), 1) := by decide +kernel
theorem dX12_mistOf_5 : decode cX12_mistOf 5 = .ok (.if_icmp .eq 10, 3) := by decide +kernel
theorem dX12_mistOf_8 : decode cX12_mistOf 8 = .ok (.aload_n 0, 1) := by decide +kernel
theorem dX12_mistOf_9 : decode cX12_mistOf 9 = .ok (.getfield 84, 3) := by decide +kernel
theorem dX12_mistOf_12 : decode cX12_mistOf 12 = .ok (.goto 32, 3) := by decide +kernel
theorem dX12_mistOf_15 : decode cX12_mistOf 15 = .ok (.aload_n 0, 1) := by decide +kernel
theorem dX12_mistOf_16 : decode cX12_mistOf 16 = .ok (.getfield 34, 3) := by decide +kernel
theorem dX12_mistOf_19 : decode cX12_mistOf 19 = .ok (.iconst 3, 1) := by decide +kernel
theorem dX12_mistOf_20 : decode cX12_mistOf 20 = .ok (.iaload, 1) := by decide +kernel
theorem dX12_mistOf_21 : decode cX12_mistOf 21 = .ok (.ifCond .ne 7, 3) := by decide +kernel
theorem dX12_mistOf_24 : decode cX12_mistOf 24 = .ok (.iconst 0, 1) := by decide +kernel
theorem dX12_mistOf_25 : decode cX12_mistOf 25 = .ok (.goto 19, 3) := by decide +kernel
theorem dX12_mistOf_28 : decode cX12_mistOf 28 = .ok (.aload_n 0, 1) := by decide +kernel
theorem dX12_mistOf_29 : decode cX12_mistOf 29 = .ok (.getfield 53, 3) := by decide +kernel
theorem dX12_mistOf_32 : decode cX12_mistOf 32 = .ok (.aload_n 0, 1) := by decide +kernel
theorem dX12_mistOf_33 : decode cX12_mistOf 33 = .ok (.getfield 287, 3) := by decide +kernel
theorem dX12_mistOf_36 : decode cX12_mistOf 36 = .ok (.aload_n 0, 1) := by decide +kernel
theorem dX12_mistOf_37 : decode cX12_mistOf 37 = .ok (.getfield 34, 3) := by decide +kernel
theorem dX12_mistOf_40 : decode cX12_mistOf 40 = .ok (.iconst 3, 1) := by decide +kernel
theorem dX12_mistOf_41 : decode cX12_mistOf 41 = .ok (.iaload, 1) := by decide +kernel
theorem dX12_mistOf_42 : decode cX12_mistOf 42 = .ok (.irem, 1) := by decide +kernel
theorem dX12_mistOf_43 : decode cX12_mistOf 43 = .ok (.iaload, 1) := by decide +kernel
theorem dX12_mistOf_44 : decode cX12_mistOf 44 = .ok (.ireturn, 1) := by decide +kernel
theorem dX12_topOf_0 : decode cX12_topOf 0 = .ok (.aload_n 0, 1) := by decide +kernel
theorem dX12_topOf_1 : decode cX12_topOf 1 = .ok (.getfield 44, 3) := by decide +kernel
theorem dX12_topOf_4 : decode cX12_topOf 4 = .ok (.iload_n 1, 1) := by decide +kernel
theorem dX12_topOf_5 : decode cX12_topOf 5 = .ok (.iaload, 1) := by decide +kernel
theorem dX12_topOf_6 : decode cX12_topOf 6 = .ok (.aload_n 0, 1) := by decide +kernel
theorem dX12_topOf_7 : decode cX12_topOf 7 = .ok (.getfield 78, 3) := by decide +kernel
theorem dX12_topOf_10 : decode cX12_topOf 10 = .ok (.iload_n 1, 1) := by decide +kernel
theorem dX12_topOf_11 : decode cX12_topOf 11 = .ok (.iaload, 1) := by decide +kernel
theorem dX12_topOf_12 : decode cX12_topOf 12 = .ok (.iadd, 1) := by decide +kernel
theorem dX12_topOf_13 : decode cX12_topOf 13 = .ok (.ireturn, 1) := by decide +kernel
theorem dX12_isBetween_0 : decode cX12_isBetween 0 = .ok (.aload_n 0, 1) := by decide +kernel
theorem dX12_isBetween_1 : decode cX12_isBetween 1 = .ok (.getfield 41, 3) := by decide +kernel
theorem dX12_isBetween_4 : decode cX12_isBetween 4 = .ok (.iload_n 1, 1) := by decide +kernel
theorem dX12_isBetween_5 : decode cX12_isBetween 5 = .ok (.iaload, 1) := by decide +kernel
theorem dX12_isBetween_6 : decode cX12_isBetween 6 = .ok (.aload_n 0, 1) := by decide +kernel
theorem dX12_isBetween_7 : decode cX12_isBetween 7 = .ok (.getfield 41, 3) := by decide +kernel
theorem dX12_isBetween_10 : decode cX12_isBetween 10 = .ok (.iload_n 2, 1) := by decide +kernel
theorem dX12_isBetween_11 : decode cX12_isBetween 11 = .ok (.iaload, 1) := by decide +kernel
theorem dX12_isBetween_12 : decode cX12_isBetween 12 = .ok (.aload_n 0, 1) := by decide +kernel
theorem dX12_isBetween_13 : decode cX12_isBetween 13 = .ok (.getfield 41, 3) := by decide +kernel
theorem dX12_isBetween_16 : decode cX12_isBetween 16 = .ok (.iload_n 3, 1) := by decide +kernel
theorem dX12_isBetween_17 : decode cX12_isBetween 17 = .ok (.iaload, 1) := by decide +kernel
theorem dX12_isBetween_18 : decode cX12_isBetween 18 = .ok (.invokestatic 179, 3) := by decide +kernel
theorem dX12_isBetween_21 : decode cX12_isBetween 21 = .ok (.if_icmp .le 31, 3) := by decide +kernel
theorem dX12_isBetween_24 : decode cX12_isBetween 24 = .ok (.aload_n 0, 1) := by decide +kernel
theorem dX12_isBetween_25 : decode cX12_isBetween 25 = .ok (.getfield 41, 3) := by decide +kernel
theorem dX12_isBetween_28 : decode cX12_isBetween 28 = .ok (.iload_n 1, 1) := by decide +kernel
theorem dX12_isBetween_29 : decode cX12_isBetween 29 = .ok (.iaload, 1) := by decide +kernel
theorem dX12_isBetween_30 : decode cX12_isBetween 30 = .ok (.aload_n 0, 1) := by decide +kernel
theorem dX12_isBetween_31 : decode cX12_isBetween 31 = .ok (.getfield 41, 3) := by decide +kernel
theorem dX12_isBetween_34 : decode cX12_isBetween 34 = .ok (.iload_n 2, 1) := by decide +kernel
theorem dX12_isBetween_35 : decode cX12_isBetween 35 = .ok (.iaload, 1) := by decide +kernel
theorem dX12_isBetween_36 : decode cX12_isBetween 36 = .ok (.aload_n 0, 1) := by decide +kernel
theorem dX12_isBetween_37 : decode cX12_isBetween 37 = .ok (.getfield 41, 3) := by decide +kernel
theorem dX12_isBetween_40 : decode cX12_isBetween 40 = .ok (.iload_n 3, 1) := by decide +kernel
theorem dX12_isBetween_41 : decode cX12_isBetween 41 = .ok (.iaload, 1) := by decide +kernel
theorem dX12_isBetween_42 : decode cX12_isBetween 42 = .ok (.invokestatic 302, 3) := by decide +kernel
theorem dX12_isBetween_45 : decode cX12_isBetween 45 = .ok (.if_icmp .ge 7, 3) := by decide +kernel
theorem dX12_isBetween_48 : decode cX12_isBetween 48 = .ok (.iconst 1, 1) := by decide +kernel
theorem dX12_isBetween_49 : decode cX12_isBetween 49 = .ok (.goto 4, 3) := by decide +kernel
theorem dX12_isBetween_52 : decode cX12_isBetween 52 = .ok (.iconst 0, 1) := by decide +kernel
theorem dX12_isBetween_53 : decode cX12_isBetween 53 = .ok (.ireturn, 1) := by decide +kernel
theorem dX12_isBelow_0 : decode cX12_isBelow 0 = .ok (.aload_n 0, 1) := by decide +kernel
theorem dX12_isBelow_1 : decode cX12_isBelow 1 = .ok (.getfield 41, 3) := by decide +kernel
theorem dX12_isBelow_4 : decode cX12_isBelow 4 = .ok (.iload_n 2, 1) := by decide +kernel
theorem dX12_isBelow_5 : decode cX12_isBelow 5 = .ok (.iaload, 1) := by decide +kernel
theorem dX12_isBelow_6 : decode cX12_isBelow 6 = .ok (.aload_n 0, 1) := by decide +kernel
theorem dX12_isBelow_7 : decode cX12_isBelow 7 = .ok (.getfield 41, 3) := by decide +kernel
theorem dX12_isBelow_10 : decode cX12_isBelow 10 = .ok (.iload_n 3, 1) := by decide +kernel
theorem dX12_isBelow_11 : decode cX12_isBelow 11 = .ok (.iaload, 1) := by decide +kernel
theorem dX12_isBelow_12 : decode cX12_isBelow 12 = .ok (.if_icmp .ge 7, 3) := by decide +kernel
theorem dX12_isBelow_15 : decode cX12_isBelow 15 = .ok (.iload_n 2, 1) := by decide +kernel
theorem dX12_isBelow_16 : decode cX12_isBelow 16 = .ok (.goto 4, 3) := by decide +kernel
theorem dX12_isBelow_19 : decode cX12_isBelow 19 = .ok (.iload_n 3, 1) := by decide +kernel
theorem dX12_isBelow_20 : decode cX12_isBelow 20 = .ok (.istore 4, 2) := by decide +kernel
theorem dX12_isBelow_22 : decode cX12_isBelow 22 = .ok (.aload_n 0, 1) := by decide +kernel
theorem dX12_isBelow_23 : decode cX12_isBelow 23 = .ok (.getfield 41, 3) := by decide +kernel
theorem dX12_isBelow_26 : decode cX12_isBelow 26 = .ok (.iload_n 2, 1) := by decide +kernel
theorem dX12_isBelow_27 : decode cX12_isBelow 27 = .ok (.iaload, 1) := by decide +kernel
theorem dX12_isBelow_28 : decode cX12_isBelow 28 = .ok (.aload_n 0, 1) := by decide +kernel
theorem dX12_isBelow_29 : decode cX12_isBelow 29 = .ok (.getfield 41, 3) := by decide +kernel
theorem dX12_isBelow_32 : decode cX12_isBelow 32 = .ok (.iload_n 3, 1) := by decide +kernel
theorem dX12_isBelow_33 : decode cX12_isBelow 33 = .ok (.iaload, 1) := by decide +kernel
theorem dX12_isBelow_34 : decode cX12_isBelow 34 = .ok (.if_icmp .ge 7, 3) := by decide +kernel
theorem dX12_isBelow_37 : decode cX12_isBelow 37 = .ok (.iload_n 3, 1) := by decide +kernel
theorem dX12_isBelow_38 : decode cX12_isBelow 38 = .ok (.goto 4, 3) := by decide +kernel
theorem dX12_isBelow_41 : decode cX12_isBelow 41 = .ok (.iload_n 2, 1) := by decide +kernel
theorem dX12_isBelow_42 : decode cX12_isBelow 42 = .ok (.istore 5, 2) := by decide +kernel
theorem dX12_isBelow_44 : decode cX12_isBelow 44 = .ok (.aload_n 0, 1) := by decide +kernel
theorem dX12_isBelow_45 : decode cX12_isBelow 45 = .ok (.iload_n 1, 1) := by decide +kernel
theorem dX12_isBelow_46 : decode cX12_isBelow 46 = .ok (.invokevirtual 305, 3) := by decide +kernel
theorem dX12_isBelow_49 : decode cX12_isBelow 49 = .ok (.aload_n 0, 1) := by decide +kernel
theorem dX12_isBelow_50 : decode cX12_isBelow 50 = .ok (.getfield 41, 3) := by decide +kernel
theorem dX12_isBelow_53 : decode cX12_isBelow 53 = .ok (.iload 5, 2) := by decide +kernel
theorem dX12_isBelow_55 : decode cX12_isBelow 55 = .ok (.iaload, 1) := by decide +kernel
theorem dX12_isBelow_56 : decode cX12_isBelow 56 = .ok (.aload_n 0, 1) := by decide +kernel
theorem dX12_isBelow_57 : decode cX12_isBelow 57 = .ok (.getfield 41, 3) := by decide +kernel
theorem dX12_isBelow_60 : decode cX12_isBelow 60 = .ok (.iload 4, 2) := by decide +kernel
theorem dX12_isBelow_62 : decode cX12_isBelow 62 = .ok (.iaload, 1) := by decide +kernel
theorem dX12_isBelow_63 : decode cX12_isBelow 63 = .ok (.isub, 1) := by decide +kernel
theorem dX12_isBelow_64 : decode cX12_isBelow 64 = .ok (.imul, 1) := by decide +kernel
theorem dX12_isBelow_65 : decode cX12_isBelow 65 = .ok (.aload_n 0, 1) := by decide +kernel
theorem dX12_isBelow_66 : decode cX12_isBelow 66 = .ok (.iload 4, 2) := by decide +kernel
theorem dX12_isBelow_68 : decode cX12_isBelow 68 = .ok (.invokevirtual 305, 3) := by decide +kernel
theorem dX12_isBelow_71 : decode cX12_isBelow 71 = .ok (.aload_n 0, 1) := by decide +kernel
theorem dX12_isBelow_72 : decode cX12_isBelow 72 = .ok (.getfield 41, 3) := by decide +kernel
theorem dX12_isBelow_75 : decode cX12_isBelow 75 = .ok (.iload 5, 2) := by decide +kernel
theorem dX12_isBelow_77 : decode cX12_isBelow 77 = .ok (.iaload, 1) := by decide +kernel
theorem dX12_isBelow_78 : decode cX12_isBelow 78 = .ok (.aload_n 0, 1) := by decide +kernel
theorem dX12_isBelow_79 : decode cX12_isBelow 79 = .ok (.getfield 41, 3) := by decide +kernel
theorem dX12_isBelow_82 : decode cX12_isBelow 82 = .ok (.iload_n 1, 1) := by decide +kernel
theorem dX12_isBelow_83 : decode cX12_isBelow 83 = .ok (.iaload, 1) := by decide +kernel
theorem dX12_isBelow_84 : decode cX12_isBelow 84 = .ok (.isub, 1) := by decide +kernel
theorem dX12_isBelow_85 : decode cX12_isBelow 85 = .ok (.imul, 1) := by decide +kernel
theorem dX12_isBelow_86 : decode cX12_isBelow 86 = .ok (.aload_n 0, 1) := by decide +kernel
theorem dX12_isBelow_87 : decode cX12_isBelow 87 = .ok (.iload 5, 2) := by decide +kernel
theorem dX12_isBelow_89 : decode cX12_isBelow 89 = .ok (.invokevirtual 305, 3) := by decide +kernel
theorem dX12_isBelow_92 : decode cX12_isBelow 92 = .ok (.aload_n 0, 1) := by decide +kernel
theorem dX12_isBelow_93 : decode cX12_isBelow 93 = .ok (.getfield 41, 3) := by decide +kernel
theorem dX12_isBelow_96 : decode cX12_isBelow 96 = .ok (.iload_n 1, 1) := by decide +kernel
theorem dX12_isBelow_97 : decode cX12_isBelow 97 = .ok (.iaload, 1) := by decide +kernel
theorem dX12_isBelow_98 : decode cX12_isBelow 98 = .ok (.aload_n 0, 1) := by decide +kernel
theorem dX12_isBelow_99 : decode cX12_isBelow 99 = .ok (.getfield 41, 3) := by decide +kernel
theorem dX12_isBelow_102 : decode cX12_isBelow 102 = .ok (.iload 4, 2) := by decide +kernel
theorem dX12_isBelow_104 : decode cX12_isBelow 104 = .ok (.iaload, 1) := by decide +kernel
theorem dX12_isBelow_105 : decode cX12_isBelow 105 = .ok (.isub, 1) := by decide +kernel
theorem dX12_isBelow_106 : decode cX12_isBelow 106 = .ok (.imul, 1) := by decide +kernel
theorem dX12_isBelow_107 : decode cX12_isBelow 107 = .ok (.iadd, 1) := by decide +kernel
theorem dX12_isBelow_108 : decode cX12_isBelow 108 = .ok (.if_icmp .ge 7, 3) := by decide +kernel
theorem dX12_isBelow_111 : decode cX12_isBelow 111 = .ok (.iconst 1, 1) := by decide +kernel
theorem dX12_isBelow_112 : decode cX12_isBelow 112 = .ok (.goto 4, 3) := by decide +kernel
theorem dX12_isBelow_115 : decode cX12_isBelow 115 = .ok (.iconst 0, 1) := by decide +kernel
theorem dX12_isBelow_116 : decode cX12_isBelow 116 = .ok (.ireturn, 1) := by decide +kernel
theorem dX12_inTheWay_0 : decode cX12_inTheWay 0 = .ok (.iconst 0, 1) := by decide +kernel
theorem dX12_inTheWay_1 : decode cX12_inTheWay 1 = .ok (.istore_n 3, 1) := by decide +kernel
theorem dX12_inTheWay_2 : decode cX12_inTheWay 2 = .ok (.iconst 0, 1) := by decide +kernel
theorem dX12_inTheWay_3 : decode cX12_inTheWay 3 = .ok (.istore 4, 2) := by decide +kernel
theorem dX12_inTheWay_5 : decode cX12_inTheWay 5 = .ok (.iload 4, 2) := by decide +kernel
theorem dX12_inTheWay_7 : decode cX12_inTheWay 7 = .ok (.aload_n 0, 1) := by decide +kernel
theorem dX12_inTheWay_8 : decode cX12_inTheWay 8 = .ok (.getfield 34, 3) := by decide +kernel
theorem dX12_inTheWay_11 : decode cX12_inTheWay 11 = .ok (.iconst 0, 1) := by decide +kernel
theorem dX12_inTheWay_12 : decode cX12_inTheWay 12 = .ok (.iaload, 1) := by decide +kernel
theorem dX12_inTheWay_13 : decode cX12_inTheWay 13 = .ok (.if_icmp .ge 42, 3) := by decide +kernel
theorem dX12_inTheWay_16 : decode cX12_inTheWay 16 = .ok (.iload_n 3, 1) := by decide +kernel
theorem dX12_inTheWay_17 : decode cX12_inTheWay 17 = .ok (.aload_n 0, 1) := by decide +kernel
theorem dX12_inTheWay_18 : decode cX12_inTheWay 18 = .ok (.iload 4, 2) := by decide +kernel
theorem dX12_inTheWay_20 : decode cX12_inTheWay 20 = .ok (.iload_n 1, 1) := by decide +kernel
theorem dX12_inTheWay_21 : decode cX12_inTheWay 21 = .ok (.iload_n 2, 1) := by decide +kernel
theorem dX12_inTheWay_22 : decode cX12_inTheWay 22 = .ok (.invokevirtual 308, 3) := by decide +kernel
theorem dX12_inTheWay_25 : decode cX12_inTheWay 25 = .ok (.ifCond .eq 21, 3) := by decide +kernel
theorem dX12_inTheWay_28 : decode cX12_inTheWay 28 = .ok (.aload_n 0, 1) := by decide +kernel
theorem dX12_inTheWay_29 : decode cX12_inTheWay 29 = .ok (.iload 4, 2) := by decide +kernel
theorem dX12_inTheWay_31 : decode cX12_inTheWay 31 = .ok (.iload_n 1, 1) := by decide +kernel
theorem dX12_inTheWay_32 : decode cX12_inTheWay 32 = .ok (.iload_n 2, 1) := by decide +kernel
theorem dX12_inTheWay_33 : decode cX12_inTheWay 33 = .ok (.invokevirtual 312, 3) := by decide +kernel
theorem dX12_inTheWay_36 : decode cX12_inTheWay 36 = .ok (.ifCond .ne 10, 3) := by decide +kernel
theorem dX12_inTheWay_39 : decode cX12_inTheWay 39 = .ok (.iconst 1, 1) := by decide +kernel
theorem dX12_inTheWay_40 : decode cX12_inTheWay 40 = .ok (.iload 4, 2) := by decide +kernel
theorem dX12_inTheWay_42 : decode cX12_inTheWay 42 = .ok (.ishl, 1) := by decide +kernel
theorem dX12_inTheWay_43 : decode cX12_inTheWay 43 = .ok (.goto 4, 3) := by decide +kernel
theorem dX12_inTheWay_46 : decode cX12_inTheWay 46 = .ok (.iconst 0, 1) := by decide +kernel
theorem dX12_inTheWay_47 : decode cX12_inTheWay 47 = .ok (.ior, 1) := by decide +kernel
theorem dX12_inTheWay_48 : decode cX12_inTheWay 48 = .ok (.istore_n 3, 1) := by decide +kernel
theorem dX12_inTheWay_49 : decode cX12_inTheWay 49 = .ok (.iinc 4 1, 3) := by decide +kernel
theorem dX12_inTheWay_52 : decode cX12_inTheWay 52 = .ok (.goto (-47), 3) := by decide +kernel
theorem dX12_inTheWay_55 : decode cX12_inTheWay 55 = .ok (.iload_n 3, 1) := by decide +kernel
theorem dX12_inTheWay_56 : decode cX12_inTheWay 56 = .ok (.ireturn, 1) := by decide +kernel
theorem dX12_inSight_0 : decode cX12_inSight 0 = .ok (.iload_n 1, 1) := by decide +kernel
theorem dX12_inSight_1 : decode cX12_inSight 1 = .ok (.iload_n 2, 1) := by decide +kernel
theorem dX12_inSight_2 : decode cX12_inSight 2 = .ok (.if_icmp .eq 49, 3) := by decide +kernel
theorem dX12_inSight_5 : decode cX12_inSight 5 = .ok (.aload_n 0, 1) := by decide +kernel
theorem dX12_inSight_6 : decode cX12_inSight 6 = .ok (.getfield 41, 3) := by decide +kernel
theorem dX12_inSight_9 : decode cX12_inSight 9 = .ok (.iload_n 1, 1) := by decide +kernel
theorem dX12_inSight_10 : decode cX12_inSight 10 = .ok (.iaload, 1) := by decide +kernel
theorem dX12_inSight_11 : decode cX12_inSight 11 = .ok (.aload_n 0, 1) := by decide +kernel
theorem dX12_inSight_12 : decode cX12_inSight 12 = .ok (.getfield 41, 3) := by decide +kernel
theorem dX12_inSight_15 : decode cX12_inSight 15 = .ok (.iload_n 2, 1) := by decide +kernel
theorem dX12_inSight_16 : decode cX12_inSight 16 = .ok (.iaload, 1) := by decide +kernel
theorem dX12_inSight_17 : decode cX12_inSight 17 = .ok (.isub, 1) := by decide +kernel
theorem dX12_inSight_18 : decode cX12_inSight 18 = .ok (.invokestatic 315, 3) := by decide +kernel
theorem dX12_inSight_21 : decode cX12_inSight 21 = .ok (.aload_n 0, 1) := by decide +kernel
theorem dX12_inSight_22 : decode cX12_inSight 22 = .ok (.getfield 34, 3) := by decide +kernel
theorem dX12_inSight_25 : decode cX12_inSight 25 = .ok (.iconst 1, 1) := by decide +kernel
theorem dX12_inSight_26 : decode cX12_inSight 26 = .ok (.iaload, 1) := by decide +kernel
theorem dX12_inSight_27 : decode cX12_inSight 27 = .ok (.bipush 9, 2) := by decide +kernel
theorem dX12_inSight_29 : decode cX12_inSight 29 = .ok (.aload_n 0, 1) := by decide +kernel
theorem dX12_inSight_30 : decode cX12_inSight 30 = .ok (.invokevirtual 318, 3) := by decide +kernel
theorem dX12_inSight_33 : decode cX12_inSight 33 = .ok (.imul, 1) := by decide +kernel
theorem dX12_inSight_34 : decode cX12_inSight 34 = .ok (.isub, 1) := by decide +kernel
theorem dX12_inSight_35 : decode cX12_inSight 35 = .ok (.if_icmp .gt 16, 3) := by decide +kernel
theorem dX12_inSight_38 : decode cX12_inSight 38 = .ok (.aload_n 0, 1) := by decide +kernel
theorem dX12_inSight_39 : decode cX12_inSight 39 = .ok (.iload_n 1, 1) := by decide +kernel
theorem dX12_inSight_40 : decode cX12_inSight 40 = .ok (.iload_n 2, 1) := by decide +kernel
theorem dX12_inSight_41 : decode cX12_inSight 41 = .ok (.invokevirtual 321, 3) := by decide +kernel
theorem dX12_inSight_44 : decode cX12_inSight 44 = .ok (.ifCond .ne 7, 3) := by decide +kernel
theorem dX12_inSight_47 : decode cX12_inSight 47 = .ok (.iconst 1, 1) := by decide +kernel
theorem dX12_inSight_48 : decode cX12_inSight 48 = .ok (.goto 4, 3) := by decide +kernel
theorem dX12_inSight_51 : decode cX12_inSight 51 = .ok (.iconst 0, 1) := by decide +kernel
theorem dX12_inSight_52 : decode cX12_inSight 52 = .ok (.ireturn, 1) := by decide +kernel
theorem dX12_seesOf_0 : decode cX12_seesOf 0 = .ok (.iconst 0, 1) := by decide +kernel
theorem dX12_seesOf_1 : decode cX12_seesOf 1 = .ok (.istore_n 2, 1) := by decide +kernel
theorem dX12_seesOf_2 : decode cX12_seesOf 2 = .ok (.iconst 0, 1) := by decide +kernel
theorem dX12_seesOf_3 : decode cX12_seesOf 3 = .ok (.istore_n 3, 1) := by decide +kernel
theorem dX12_seesOf_4 : decode cX12_seesOf 4 = .ok (.iload_n 3, 1) := by decide +kernel
theorem dX12_seesOf_5 : decode cX12_seesOf 5 = .ok (.aload_n 0, 1) := by decide +kernel
theorem dX12_seesOf_6 : decode cX12_seesOf 6 = .ok (.getfield 34, 3) := by decide +kernel
theorem dX12_seesOf_9 : decode cX12_seesOf 9 = .ok (.iconst 0, 1) := by decide +kernel
theorem dX12_seesOf_10 : decode cX12_seesOf 10 = .ok (.iaload, 1) := by decide +kernel
theorem dX12_seesOf_11 : decode cX12_seesOf 11 = .ok (.if_icmp .ge 28, 3) := by decide +kernel
theorem dX12_seesOf_14 : decode cX12_seesOf 14 = .ok (.iload_n 2, 1) := by decide +kernel
theorem dX12_seesOf_15 : decode cX12_seesOf 15 = .ok (.aload_n 0, 1) := by decide +kernel
theorem dX12_seesOf_16 : decode cX12_seesOf 16 = .ok (.iload_n 1, 1) := by decide +kernel
theorem dX12_seesOf_17 : decode cX12_seesOf 17 = .ok (.iload_n 3, 1) := by decide +kernel
theorem dX12_seesOf_18 : decode cX12_seesOf 18 = .ok (.invokevirtual 324, 3) := by decide +kernel
theorem dX12_seesOf_21 : decode cX12_seesOf 21 = .ok (.ifCond .eq 9, 3) := by decide +kernel
theorem dX12_seesOf_24 : decode cX12_seesOf 24 = .ok (.iconst 1, 1) := by decide +kernel
theorem dX12_seesOf_25 : decode cX12_seesOf 25 = .ok (.iload_n 3, 1) := by decide +kernel
theorem dX12_seesOf_26 : decode cX12_seesOf 26 = .ok (.ishl, 1) := by decide +kernel
theorem dX12_seesOf_27 : decode cX12_seesOf 27 = .ok (.goto 4, 3) := by decide +kernel
theorem dX12_seesOf_30 : decode cX12_seesOf 30 = .ok (.iconst 0, 1) := by decide +kernel
theorem dX12_seesOf_31 : decode cX12_seesOf 31 = .ok (.ior, 1) := by decide +kernel
theorem dX12_seesOf_32 : decode cX12_seesOf 32 = .ok (.istore_n 2, 1) := by decide +kernel
theorem dX12_seesOf_33 : decode cX12_seesOf 33 = .ok (.iinc 3 1, 3) := by decide +kernel
theorem dX12_seesOf_36 : decode cX12_seesOf 36 = .ok (.goto (-32), 3) := by decide +kernel
theorem dX12_seesOf_39 : decode cX12_seesOf 39 = .ok (.iload_n 2, 1) := by decide +kernel
theorem dX12_seesOf_40 : decode cX12_seesOf 40 = .ok (.ireturn, 1) := by decide +kernel
theorem dX12_reckon_0 : decode cX12_reckon 0 = .ok (.iload_n 0, 1) := by decide +kernel
theorem dX12_reckon_1 : decode cX12_reckon 1 = .ok (.tableswitch 103 (-26) (-20) #[89, 78, 67, 55, 51, 47, 43], 43) := by decide +kernel
theorem dX12_reckon_44 : decode cX12_reckon 44 = .ok (.iload_n 1, 1) := by decide +kernel
theorem dX12_reckon_45 : decode cX12_reckon 45 = .ok (.iload_n 2, 1) := by decide +kernel
theorem dX12_reckon_46 : decode cX12_reckon 46 = .ok (.iadd, 1) := by decide +kernel
theorem dX12_reckon_47 : decode cX12_reckon 47 = .ok (.ireturn, 1) := by decide +kernel
theorem dX12_reckon_48 : decode cX12_reckon 48 = .ok (.iload_n 1, 1) := by decide +kernel
theorem dX12_reckon_49 : decode cX12_reckon 49 = .ok (.iload_n 2, 1) := by decide +kernel
theorem dX12_reckon_50 : decode cX12_reckon 50 = .ok (.isub, 1) := by decide +kernel
theorem dX12_reckon_51 : decode cX12_reckon 51 = .ok (.ireturn, 1) := by decide +kernel
theorem dX12_reckon_52 : decode cX12_reckon 52 = .ok (.iload_n 1, 1) := by decide +kernel
theorem dX12_reckon_53 : decode cX12_reckon 53 = .ok (.iload_n 2, 1) := by decide +kernel
theorem dX12_reckon_54 : decode cX12_reckon 54 = .ok (.imul, 1) := by decide +kernel
theorem dX12_reckon_55 : decode cX12_reckon 55 = .ok (.ireturn, 1) := by decide +kernel
theorem dX12_reckon_56 : decode cX12_reckon 56 = .ok (.iload_n 2, 1) := by decide +kernel
theorem dX12_reckon_57 : decode cX12_reckon 57 = .ok (.ifCond .ne 7, 3) := by decide +kernel
theorem dX12_reckon_60 : decode cX12_reckon 60 = .ok (.iconst 0, 1) := by decide +kernel
theorem dX12_reckon_61 : decode cX12_reckon 61 = .ok (.goto 6, 3) := by decide +kernel
theorem dX12_reckon_64 : decode cX12_reckon 64 = .ok (.iload_n 1, 1) := by decide +kernel
theorem dX12_reckon_65 : decode cX12_reckon 65 = .ok (.iload_n 2, 1) := by decide +kernel
theorem dX12_reckon_66 : decode cX12_reckon 66 = .ok (.idiv, 1) := by decide +kernel
theorem dX12_reckon_67 : decode cX12_reckon 67 = .ok (.ireturn, 1) := by decide +kernel
theorem dX12_reckon_68 : decode cX12_reckon 68 = .ok (.iload_n 1, 1) := by decide +kernel
theorem dX12_reckon_69 : decode cX12_reckon 69 = .ok (.iload_n 2, 1) := by decide +kernel
theorem dX12_reckon_70 : decode cX12_reckon 70 = .ok (.if_icmp .ge 7, 3) := by decide +kernel
theorem dX12_reckon_73 : decode cX12_reckon 73 = .ok (.iconst 1, 1) := by decide +kernel
theorem dX12_reckon_74 : decode cX12_reckon 74 = .ok (.goto 4, 3) := by decide +kernel
theorem dX12_reckon_77 : decode cX12_reckon 77 = .ok (.iconst 0, 1) := by decide +kernel
theorem dX12_reckon_78 : decode cX12_reckon 78 = .ok (.ireturn, 1) := by decide +kernel
theorem dX12_reckon_79 : decode cX12_reckon 79 = .ok (.iload_n 1, 1) := by decide +kernel
theorem dX12_reckon_80 : decode cX12_reckon 80 = .ok (.iload_n 2, 1) := by decide +kernel
theorem dX12_reckon_81 : decode cX12_reckon 81 = .ok (.if_icmp .ne 7, 3) := by decide +kernel
theorem dX12_reckon_84 : decode cX12_reckon 84 = .ok (.iconst 1, 1) := by decide +kernel
theorem dX12_reckon_85 : decode cX12_reckon 85 = .ok (.goto 4, 3) := by decide +kernel
theorem dX12_reckon_88 : decode cX12_reckon 88 = .ok (.iconst 0, 1) := by decide +kernel
theorem dX12_reckon_89 : decode cX12_reckon 89 = .ok (.ireturn, 1) := by decide +kernel
theorem dX12_reckon_90 : decode cX12_reckon 90 = .ok (.iload_n 1, 1) := by decide +kernel
theorem dX12_reckon_91 : decode cX12_reckon 91 = .ok (.ifCond .eq 11, 3) := by decide +kernel
theorem dX12_reckon_94 : decode cX12_reckon 94 = .ok (.iload_n 2, 1) := by decide +kernel
theorem dX12_reckon_95 : decode cX12_reckon 95 = .ok (.ifCond .eq 7, 3) := by decide +kernel
theorem dX12_reckon_98 : decode cX12_reckon 98 = .ok (.iconst 1, 1) := by decide +kernel
theorem dX12_reckon_99 : decode cX12_reckon 99 = .ok (.goto 4, 3) := by decide +kernel
theorem dX12_reckon_102 : decode cX12_reckon 102 = .ok (.iconst 0, 1) := by decide +kernel
theorem dX12_reckon_103 : decode cX12_reckon 103 = .ok (.ireturn, 1) := by decide +kernel
theorem dX12_reckon_104 : decode cX12_reckon 104 = .ok (.iload_n 1, 1) := by decide +kernel
theorem dX12_reckon_105 : decode cX12_reckon 105 = .ok (.ifCond .ne 7, 3) := by decide +kernel
theorem dX12_reckon_108 : decode cX12_reckon 108 = .ok (.iload_n 2, 1) := by decide +kernel
theorem dX12_reckon_109 : decode cX12_reckon 109 = .ok (.ifCond .eq 7, 3) := by decide +kernel
theorem dX12_reckon_112 : decode cX12_reckon 112 = .ok (.iconst 1, 1) := by decide +kernel
theorem dX12_reckon_113 : decode cX12_reckon 113 = .ok (.goto 4, 3) := by decide +kernel
theorem dX12_reckon_116 : decode cX12_reckon 116 = .ok (.iconst 0, 1) := by decide +kernel
theorem dX12_reckon_117 : decode cX12_reckon 117 = .ok (.ireturn, 1) := by decide +kernel
theorem dX12_valueNow_0 : decode cX12_valueNow 0 = .ok (.iconst 0, 1) := by decide +kernel
theorem dX12_valueNow_1 : decode cX12_valueNow 1 = .ok (.istore_n 1, 1) := by decide +kernel
theorem dX12_valueNow_2 : decode cX12_valueNow 2 = .ok (.iconst 0, 1) := by decide +kernel
theorem dX12_valueNow_3 : decode cX12_valueNow 3 = .ok (.istore_n 2, 1) := by decide +kernel
theorem dX12_valueNow_4 : decode cX12_valueNow 4 = .ok (.iload_n 2, 1) := by decide +kernel
theorem dX12_valueNow_5 : decode cX12_valueNow 5 = .ok (.aload_n 0, 1) := by decide +kernel
theorem dX12_valueNow_6 : decode cX12_valueNow 6 = .ok (.getfield 34, 3) := by decide +kernel
theorem dX12_valueNow_9 : decode cX12_valueNow 9 = .ok (.iconst 4, 1) := by decide +kernel
theorem dX12_valueNow_10 : decode cX12_valueNow 10 = .ok (.iaload, 1) := by decide +kernel
theorem dX12_valueNow_11 : decode cX12_valueNow 11 = .ok (.if_icmp .ge 112, 3) := by decide +kernel
theorem dX12_valueNow_14 : decode cX12_valueNow 14 = .ok (.aload_n 0, 1) := by decide +kernel
theorem dX12_valueNow_15 : decode cX12_valueNow 15 = .ok (.getfield 56, 3) := by decide +kernel
theorem dX12_valueNow_18 : decode cX12_valueNow 18 = .ok (.iload_n 2, 1) := by decide +kernel
theorem dX12_valueNow_19 : decode cX12_valueNow 19 = .ok (.iaload, 1) := by decide +kernel
theorem dX12_valueNow_20 : decode cX12_valueNow 20 = .ok (.istore_n 3, 1) := by decide +kernel
theorem dX12_valueNow_21 : decode cX12_valueNow 21 = .ok (.iload_n 3, 1) := by decide +kernel
theorem dX12_valueNow_22 : decode cX12_valueNow 22 = .ok (.bipush (-20), 2) := by decide +kernel
theorem dX12_valueNow_24 : decode cX12_valueNow 24 = .ok (.if_icmp .le 31, 3) := by decide +kernel
theorem dX12_valueNow_27 : decode cX12_valueNow 27 = .ok (.aload_n 0, 1) := by decide +kernel
theorem dX12_valueNow_28 : decode cX12_valueNow 28 = .ok (.getfield 90, 3) := by decide +kernel
theorem dX12_valueNow_31 : decode cX12_valueNow 31 = .ok (.iload_n 1, 1) := by decide +kernel
theorem dX12_valueNow_32 : decode cX12_valueNow 32 = .ok (.iload_n 3, 1) := by decide +kernel
theorem dX12_valueNow_33 : decode cX12_valueNow 33 = .ok (.ifCond .lt 7, 3) := by decide +kernel
theorem dX12_valueNow_36 : decode cX12_valueNow 36 = .ok (.iload_n 3, 1) := by decide +kernel
theorem dX12_valueNow_37 : decode cX12_valueNow 37 = .ok (.goto 11, 3) := by decide +kernel
theorem dX12_valueNow_40 : decode cX12_valueNow 40 = .ok (.aload_n 0, 1) := by decide +kernel
theorem dX12_valueNow_41 : decode cX12_valueNow 41 = .ok (.getfield 87, 3) := by decide +kernel
theorem dX12_valueNow_44 : decode cX12_valueNow 44 = .ok (.iconst (-1), 1) := by decide +kernel
theorem dX12_valueNow_45 : decode cX12_valueNow 45 = .ok (.iload_n 3, 1) := by decide +kernel
theorem dX12_valueNow_46 : decode cX12_valueNow 46 = .ok (.isub, 1) := by decide +kernel
theorem dX12_valueNow_47 : decode cX12_valueNow 47 = .ok (.iaload, 1) := by decide +kernel
theorem dX12_valueNow_48 : decode cX12_valueNow 48 = .ok (.iastore, 1) := by decide +kernel
theorem dX12_valueNow_49 : decode cX12_valueNow 49 = .ok (.iinc 1 1, 3) := by decide +kernel
theorem dX12_valueNow_52 : decode cX12_valueNow 52 = .ok (.goto 65, 3) := by decide +kernel
theorem dX12_valueNow_55 : decode cX12_valueNow 55 = .ok (.iload_n 3, 1) := by decide +kernel
theorem dX12_valueNow_56 : decode cX12_valueNow 56 = .ok (.bipush (-28), 2) := by decide +kernel
theorem dX12_valueNow_58 : decode cX12_valueNow 58 = .ok (.if_icmp .ne 30, 3) := by decide +kernel
theorem dX12_valueNow_61 : decode cX12_valueNow 61 = .ok (.aload_n 0, 1) := by decide +kernel
theorem dX12_valueNow_62 : decode cX12_valueNow 62 = .ok (.getfield 90, 3) := by decide +kernel
theorem dX12_valueNow_65 : decode cX12_valueNow 65 = .ok (.iload_n 1, 1) := by decide +kernel
theorem dX12_valueNow_66 : decode cX12_valueNow 66 = .ok (.iconst 1, 1) := by decide +kernel
theorem dX12_valueNow_67 : decode cX12_valueNow 67 = .ok (.isub, 1) := by decide +kernel
theorem dX12_valueNow_68 : decode cX12_valueNow 68 = .ok (.aload_n 0, 1) := by decide +kernel
theorem dX12_valueNow_69 : decode cX12_valueNow 69 = .ok (.getfield 90, 3) := by decide +kernel
theorem dX12_valueNow_72 : decode cX12_valueNow 72 = .ok (.iload_n 1, 1) := by decide +kernel
theorem dX12_valueNow_73 : decode cX12_valueNow 73 = .ok (.iconst 1, 1) := by decide +kernel
theorem dX12_valueNow_74 : decode cX12_valueNow 74 = .ok (.isub, 1) := by decide +kernel
theorem dX12_valueNow_75 : decode cX12_valueNow 75 = .ok (.iaload, 1) := by decide +kernel
theorem dX12_valueNow_76 : decode cX12_valueNow 76 = .ok (.ifCond .eq 7, 3) := by decide +kernel
theorem dX12_valueNow_79 : decode cX12_valueNow 79 = .ok (.iconst 0, 1) := by decide +kernel
theorem dX12_valueNow_80 : decode cX12_valueNow 80 = .ok (.goto 4, 3) := by decide +kernel
theorem dX12_valueNow_83 : decode cX12_valueNow 83 = .ok (.iconst 1, 1) := by decide +kernel
theorem dX12_valueNow_84 : decode cX12_valueNow 84 = .ok (.iastore, 1) := by decide +kernel
theorem dX12_valueNow_85 : decode cX12_valueNow 85 = .ok (.goto 32, 3) := by decide +kernel
theorem dX12_valueNow_88 : decode cX12_valueNow 88 = .ok (.iinc 1 (-1), 3) := by decide +kernel
theorem dX12_valueNow_91 : decode cX12_valueNow 91 = .ok (.aload_n 0, 1) := by decide +kernel
theorem dX12_valueNow_92 : decode cX12_valueNow 92 = .ok (.getfield 90, 3) := by decide +kernel
theorem dX12_valueNow_95 : decode cX12_valueNow 95 = .ok (.iload_n 1, 1) := by decide +kernel
theorem dX12_valueNow_96 : decode cX12_valueNow 96 = .ok (.iconst 1, 1) := by decide +kernel
theorem dX12_valueNow_97 : decode cX12_valueNow 97 = .ok (.isub, 1) := by decide +kernel
theorem dX12_valueNow_98 : decode cX12_valueNow 98 = .ok (.iload_n 3, 1) := by decide +kernel
theorem dX12_valueNow_99 : decode cX12_valueNow 99 = .ok (.aload_n 0, 1) := by decide +kernel
theorem dX12_valueNow_100 : decode cX12_valueNow 100 = .ok (.getfield 90, 3) := by decide +kernel
theorem dX12_valueNow_103 : decode cX12_valueNow 103 = .ok (.iload_n 1, 1) := by decide +kernel
theorem dX12_valueNow_104 : decode cX12_valueNow 104 = .ok (.iconst 1, 1) := by decide +kernel
theorem dX12_valueNow_105 : decode cX12_valueNow 105 = .ok (.isub, 1) := by decide +kernel
theorem dX12_valueNow_106 : decode cX12_valueNow 106 = .ok (.iaload, 1) := by decide +kernel
theorem dX12_valueNow_107 : decode cX12_valueNow 107 = .ok (.aload_n 0, 1) := by decide +kernel
theorem dX12_valueNow_108 : decode cX12_valueNow 108 = .ok (.getfield 90, 3) := by decide +kernel
theorem dX12_valueNow_111 : decode cX12_valueNow 111 = .ok (.iload_n 1, 1) := by decide +kernel
theorem dX12_valueNow_112 : decode cX12_valueNow 112 = .ok (.iaload, 1) := by decide +kernel
theorem dX12_valueNow_113 : decode cX12_valueNow 113 = .ok (.invokestatic 328, 3) := by decide +kernel
theorem dX12_valueNow_116 : decode cX12_valueNow 116 = .ok (.iastore, 1) := by decide +kernel
theorem dX12_valueNow_117 : decode cX12_valueNow 117 = .ok (.iinc 2 1, 3) := by decide +kernel
theorem dX12_valueNow_120 : decode cX12_valueNow 120 = .ok (.goto (-116), 3) := by decide +kernel
theorem dX12_valueNow_123 : decode cX12_valueNow 123 = .ok (.aload_n 0, 1) := by decide +kernel
theorem dX12_valueNow_124 : decode cX12_valueNow 124 = .ok (.getfield 90, 3) := by decide +kernel
theorem dX12_valueNow_127 : decode cX12_valueNow 127 = .ok (.iconst 0, 1) := by decide +kernel
theorem dX12_valueNow_128 : decode cX12_valueNow 128 = .ok (.iaload, 1) := by decide +kernel
theorem dX12_valueNow_129 : decode cX12_valueNow 129 = .ok (.ireturn, 1) := by decide +kernel
theorem dX12_minds_0 : decode cX12_minds 0 = .ok (.aload_n 0, 1) := by decide +kernel
theorem dX12_minds_1 : decode cX12_minds 1 = .ok (.getfield 34, 3) := by decide +kernel
theorem dX12_minds_4 : decode cX12_minds 4 = .ok (.iconst 4, 1) := by decide +kernel
theorem dX12_minds_5 : decode cX12_minds 5 = .ok (.iaload, 1) := by decide +kernel
theorem dX12_minds_6 : decode cX12_minds 6 = .ok (.ifCond .eq 13, 3) := by decide +kernel
theorem dX12_minds_9 : decode cX12_minds 9 = .ok (.aload_n 0, 1) := by decide +kernel
theorem dX12_minds_10 : decode cX12_minds 10 = .ok (.getfield 38, 3) := by decide +kernel
theorem dX12_minds_13 : decode cX12_minds 13 = .ok (.iload_n 1, 1) := by decide +kernel
theorem dX12_minds_14 : decode cX12_minds 14 = .ok (.iaload, 1) := by decide +kernel
theorem dX12_minds_15 : decode cX12_minds 15 = .ok (.iconst 1, 1) := by decide +kernel
theorem dX12_minds_16 : decode cX12_minds 16 = .ok (.if_icmp .ne 5, 3) := by decide +kernel
theorem dX12_minds_19 : decode cX12_minds 19 = .ok (.iconst 1, 1) := by decide +kernel
theorem dX12_minds_20 : decode cX12_minds 20 = .ok (.ireturn, 1) := by decide +kernel
theorem dX12_minds_21 : decode cX12_minds 21 = .ok (.iconst (-1), 1) := by decide +kernel
theorem dX12_minds_22 : decode cX12_minds 22 = .ok (.istore_n 3, 1) := by decide +kernel
theorem dX12_minds_23 : decode cX12_minds 23 = .ok (.iconst 0, 1) := by decide +kernel
theorem dX12_minds_24 : decode cX12_minds 24 = .ok (.istore 4, 2) := by decide +kernel
theorem dX12_minds_26 : decode cX12_minds 26 = .ok (.iload 4, 2) := by decide +kernel
theorem dX12_minds_28 : decode cX12_minds 28 = .ok (.aload_n 0, 1) := by decide +kernel
theorem dX12_minds_29 : decode cX12_minds 29 = .ok (.getfield 34, 3) := by decide +kernel
theorem dX12_minds_32 : decode cX12_minds 32 = .ok (.iconst 0, 1) := by decide +kernel
theorem dX12_minds_33 : decode cX12_minds 33 = .ok (.iaload, 1) := by decide +kernel
theorem dX12_minds_34 : decode cX12_minds 34 = .ok (.if_icmp .ge 62, 3) := by decide +kernel
theorem dX12_minds_37 : decode cX12_minds 37 = .ok (.iload_n 2, 1) := by decide +kernel
theorem dX12_minds_38 : decode cX12_minds 38 = .ok (.iload 4, 2) := by decide +kernel
theorem dX12_minds_40 : decode cX12_minds 40 = .ok (.invokestatic 332, 3) := by decide +kernel
theorem dX12_minds_43 : decode cX12_minds 43 = .ok (.ifCond .eq 47, 3) := by decide +kernel
theorem dX12_minds_46 : decode cX12_minds 46 = .ok (.iload_n 3, 1) := by decide +kernel
theorem dX12_minds_47 : decode cX12_minds 47 = .ok (.iconst (-1), 1) := by decide +kernel
theorem dX12_minds_48 : decode cX12_minds 48 = .ok (.if_icmp .eq 39, 3) := by decide +kernel
theorem dX12_minds_51 : decode cX12_minds 51 = .ok (.aload_n 0, 1) := by decide +kernel
theorem dX12_minds_52 : decode cX12_minds 52 = .ok (.getfield 41, 3) := by decide +kernel
theorem dX12_minds_55 : decode cX12_minds 55 = .ok (.iload 4, 2) := by decide +kernel
theorem dX12_minds_57 : decode cX12_minds 57 = .ok (.iaload, 1) := by decide +kernel
theorem dX12_minds_58 : decode cX12_minds 58 = .ok (.aload_n 0, 1) := by decide +kernel
theorem dX12_minds_59 : decode cX12_minds 59 = .ok (.getfield 41, 3) := by decide +kernel
theorem dX12_minds_62 : decode cX12_minds 62 = .ok (.iload_n 1, 1) := by decide +kernel
theorem dX12_minds_63 : decode cX12_minds 63 = .ok (.iaload, 1) := by decide +kernel
theorem dX12_minds_64 : decode cX12_minds 64 = .ok (.isub, 1) := by decide +kernel
theorem dX12_minds_65 : decode cX12_minds 65 = .ok (.invokestatic 315, 3) := by decide +kernel
theorem dX12_minds_68 : decode cX12_minds 68 = .ok (.aload_n 0, 1) := by decide +kernel
theorem dX12_minds_69 : decode cX12_minds 69 = .ok (.getfield 41, 3) := by decide +kernel
theorem dX12_minds_72 : decode cX12_minds 72 = .ok (.iload_n 3, 1) := by decide +kernel
theorem dX12_minds_73 : decode cX12_minds 73 = .ok (.iaload, 1) := by decide +kernel
theorem dX12_minds_74 : decode cX12_minds 74 = .ok (.aload_n 0, 1) := by decide +kernel
theorem dX12_minds_75 : decode cX12_minds 75 = .ok (.getfield 41, 3) := by decide +kernel
theorem dX12_minds_78 : decode cX12_minds 78 = .ok (.iload_n 1, 1) := by decide +kernel
theorem dX12_minds_79 : decode cX12_minds 79 = .ok (.iaload, 1) := by decide +kernel
theorem dX12_minds_80 : decode cX12_minds 80 = .ok (.isub, 1) := by decide +kernel
theorem dX12_minds_81 : decode cX12_minds 81 = .ok (.invokestatic 315, 3) := by decide +kernel
theorem dX12_minds_84 : decode cX12_minds 84 = .ok (.if_icmp .ge 6, 3) := by decide +kernel
theorem dX12_minds_87 : decode cX12_minds 87 = .ok (.iload 4, 2) := by decide +kernel
theorem dX12_minds_89 : decode cX12_minds 89 = .ok (.istore_n 3, 1) := by decide +kernel
theorem dX12_minds_90 : decode cX12_minds 90 = .ok (.iinc 4 1, 3) := by decide +kernel
theorem dX12_minds_93 : decode cX12_minds 93 = .ok (.goto (-67), 3) := by decide +kernel
theorem dX12_minds_96 : decode cX12_minds 96 = .ok (.aload_n 0, 1) := by decide +kernel
theorem dX12_minds_97 : decode cX12_minds 97 = .ok (.getfield 87, 3) := by decide +kernel
theorem dX12_minds_100 : decode cX12_minds 100 = .ok (.iconst 0, 1) := by decide +kernel
theorem dX12_minds_101 : decode cX12_minds 101 = .ok (.iload_n 2, 1) := by decide +kernel
theorem dX12_minds_102 : decode cX12_minds 102 = .ok (.invokestatic 335, 3) := by decide +kernel
theorem dX12_minds_105 : decode cX12_minds 105 = .ok (.iastore, 1) := by decide +kernel
theorem dX12_minds_106 : decode cX12_minds 106 = .ok (.aload_n 0, 1) := by decide +kernel
theorem dX12_minds_107 : decode cX12_minds 107 = .ok (.getfield 87, 3) := by decide +kernel
theorem dX12_minds_110 : decode cX12_minds 110 = .ok (.iconst 1, 1) := by decide +kernel
theorem dX12_minds_111 : decode cX12_minds 111 = .ok (.aload_n 0, 1) := by decide +kernel
theorem dX12_minds_112 : decode cX12_minds 112 = .ok (.getfield 41, 3) := by decide +kernel
theorem dX12_minds_115 : decode cX12_minds 115 = .ok (.iload_n 3, 1) := by decide +kernel
theorem dX12_minds_116 : decode cX12_minds 116 = .ok (.iaload, 1) := by decide +kernel
theorem dX12_minds_117 : decode cX12_minds 117 = .ok (.aload_n 0, 1) := by decide +kernel
theorem dX12_minds_118 : decode cX12_minds 118 = .ok (.getfield 41, 3) := by decide +kernel
theorem dX12_minds_121 : decode cX12_minds 121 = .ok (.iload_n 1, 1) := by decide +kernel
theorem dX12_minds_122 : decode cX12_minds 122 = .ok (.iaload, 1) := by decide +kernel
theorem dX12_minds_123 : decode cX12_minds 123 = .ok (.isub, 1) := by decide +kernel
theorem dX12_minds_124 : decode cX12_minds 124 = .ok (.invokestatic 315, 3) := by decide +kernel
theorem dX12_minds_127 : decode cX12_minds 127 = .ok (.iastore, 1) := by decide +kernel
theorem dX12_minds_128 : decode cX12_minds 128 = .ok (.aload_n 0, 1) := by decide +kernel
theorem dX12_minds_129 : decode cX12_minds 129 = .ok (.getfield 87, 3) := by decide +kernel
theorem dX12_minds_132 : decode cX12_minds 132 = .ok (.iconst 2, 1) := by decide +kernel
theorem dX12_minds_133 : decode cX12_minds 133 = .ok (.aload_n 0, 1) := by decide +kernel
theorem dX12_minds_134 : decode cX12_minds 134 = .ok (.getfield 44, 3) := by decide +kernel
theorem dX12_minds_137 : decode cX12_minds 137 = .ok (.iload_n 3, 1) := by decide +kernel
theorem dX12_minds_138 : decode cX12_minds 138 = .ok (.iaload, 1) := by decide +kernel
theorem dX12_minds_139 : decode cX12_minds 139 = .ok (.aload_n 0, 1) := by decide +kernel
theorem dX12_minds_140 : decode cX12_minds 140 = .ok (.getfield 44, 3) := by decide +kernel
theorem dX12_minds_143 : decode cX12_minds 143 = .ok (.iload_n 1, 1) := by decide +kernel
theorem dX12_minds_144 : decode cX12_minds 144 = .ok (.iaload, 1) := by decide +kernel
theorem dX12_minds_145 : decode cX12_minds 145 = .ok (.isub, 1) := by decide +kernel
theorem dX12_minds_146 : decode cX12_minds 146 = .ok (.iastore, 1) := by decide +kernel
theorem dX12_minds_147 : decode cX12_minds 147 = .ok (.aload_n 0, 1) := by decide +kernel
theorem dX12_minds_148 : decode cX12_minds 148 = .ok (.getfield 87, 3) := by decide +kernel
theorem dX12_minds_151 : decode cX12_minds 151 = .ok (.iconst 3, 1) := by decide +kernel
theorem dX12_minds_152 : decode cX12_minds 152 = .ok (.aload_n 0, 1) := by decide +kernel
theorem dX12_minds_153 : decode cX12_minds 153 = .ok (.getfield 75, 3) := by decide +kernel
theorem dX12_minds_156 : decode cX12_minds 156 = .ok (.iload_n 1, 1) := by decide +kernel
theorem dX12_minds_157 : decode cX12_minds 157 = .ok (.iaload, 1) := by decide +kernel
theorem dX12_minds_158 : decode cX12_minds 158 = .ok (.iastore, 1) := by decide +kernel
theorem dX12_minds_159 : decode cX12_minds 159 = .ok (.aload_n 0, 1) := by decide +kernel
theorem dX12_minds_160 : decode cX12_minds 160 = .ok (.getfield 87, 3) := by decide +kernel
theorem dX12_minds_163 : decode cX12_minds 163 = .ok (.iconst 4, 1) := by decide +kernel
theorem dX12_minds_164 : decode cX12_minds 164 = .ok (.aload_n 0, 1) := by decide +kernel
theorem dX12_minds_165 : decode cX12_minds 165 = .ok (.invokevirtual 318, 3) := by decide +kernel
theorem dX12_minds_168 : decode cX12_minds 168 = .ok (.iastore, 1) := by decide +kernel
theorem dX12_minds_169 : decode cX12_minds 169 = .ok (.aload_n 0, 1) := by decide +kernel
theorem dX12_minds_170 : decode cX12_minds 170 = .ok (.getfield 87, 3) := by decide +kernel
theorem dX12_minds_173 : decode cX12_minds 173 = .ok (.iconst 5, 1) := by decide +kernel
theorem dX12_minds_174 : decode cX12_minds 174 = .ok (.aload_n 0, 1) := by decide +kernel
theorem dX12_minds_175 : decode cX12_minds 175 = .ok (.getfield 287, 3) := by decide +kernel
theorem dX12_minds_178 : decode cX12_minds 178 = .ok (.iastore, 1) := by decide +kernel
theorem dX12_minds_179 : decode cX12_minds 179 = .ok (.aload_n 0, 1) := by decide +kernel
theorem dX12_minds_180 : decode cX12_minds 180 = .ok (.invokevirtual 338, 3) := by decide +kernel
theorem dX12_minds_183 : decode cX12_minds 183 = .ok (.ifCond .le 7, 3) := by decide +kernel
theorem dX12_minds_186 : decode cX12_minds 186 = .ok (.iconst 1, 1) := by decide +kernel
theorem dX12_minds_187 : decode cX12_minds 187 = .ok (.goto 4, 3) := by decide +kernel
theorem dX12_minds_190 : decode cX12_minds 190 = .ok (.iconst 0, 1) := by decide +kernel
theorem dX12_minds_191 : decode cX12_minds 191 = .ok (.ireturn, 1) := by decide +kernel
theorem dX12_aTick_0 : decode cX12_aTick 0 = .ok (.aload_n 0, 1) := by decide +kernel
theorem dX12_aTick_1 : decode cX12_aTick 1 = .ok (.iconst 0, 1) := by decide +kernel
theorem dX12_aTick_2 : decode cX12_aTick 2 = .ok (.putfield 341, 3) := by decide +kernel
theorem dX12_aTick_5 : decode cX12_aTick 5 = .ok (.iconst 0, 1) := by decide +kernel
theorem dX12_aTick_6 : decode cX12_aTick 6 = .ok (.istore_n 1, 1) := by decide +kernel
theorem dX12_aTick_7 : decode cX12_aTick 7 = .ok (.iload_n 1, 1) := by decide +kernel
theorem dX12_aTick_8 : decode cX12_aTick 8 = .ok (.aload_n 0, 1) := by decide +kernel
theorem dX12_aTick_9 : decode cX12_aTick 9 = .ok (.getfield 34, 3) := by decide +kernel
theorem dX12_aTick_12 : decode cX12_aTick 12 = .ok (.iconst 0, 1) := by decide +kernel
theorem dX12_aTick_13 : decode cX12_aTick 13 = .ok (.iaload, 1) := by decide +kernel
theorem dX12_aTick_14 : decode cX12_aTick 14 = .ok (.if_icmp .ge 115, 3) := by decide +kernel
theorem dX12_aTick_17 : decode cX12_aTick 17 = .ok (.aload_n 0, 1) := by decide +kernel
theorem dX12_aTick_18 : decode cX12_aTick 18 = .ok (.getfield 69, 3) := by decide +kernel
theorem dX12_aTick_21 : decode cX12_aTick 21 = .ok (.iload_n 1, 1) := by decide +kernel
theorem dX12_aTick_22 : decode cX12_aTick 22 = .ok (.iaload, 1) := by decide +kernel
theorem dX12_aTick_23 : decode cX12_aTick 23 = .ok (.iconst 1, 1) := by decide +kernel
theorem dX12_aTick_24 : decode cX12_aTick 24 = .ok (.if_icmp .ne 57, 3) := by decide +kernel
theorem dX12_aTick_27 : decode cX12_aTick 27 = .ok (.aload_n 0, 1) := by decide +kernel
theorem dX12_aTick_28 : decode cX12_aTick 28 = .ok (.dup, 1) := by decide +kernel
theorem dX12_aTick_29 : decode cX12_aTick 29 = .ok (.getfield 341, 3) := by decide +kernel
theorem dX12_aTick_32 : decode cX12_aTick 32 = .ok (.iconst 1, 1) := by decide +kernel
theorem dX12_aTick_33 : decode cX12_aTick 33 = .ok (.iload_n 1, 1) := by decide +kernel
theorem dX12_aTick_34 : decode cX12_aTick 34 = .ok (.ishl, 1) := by decide +kernel
theorem dX12_aTick_35 : decode cX12_aTick 35 = .ok (.ior, 1) := by decide +kernel
theorem dX12_aTick_36 : decode cX12_aTick 36 = .ok (.putfield 341, 3) := by decide +kernel
theorem dX12_aTick_39 : decode cX12_aTick 39 = .ok (.aload_n 0, 1) := by decide +kernel
theorem dX12_aTick_40 : decode cX12_aTick 40 = .ok (.getfield 69, 3) := by decide +kernel
theorem dX12_aTick_43 : decode cX12_aTick 43 = .ok (.iload_n 1, 1) := by decide +kernel
theorem dX12_aTick_44 : decode cX12_aTick 44 = .ok (.iconst 0, 1) := by decide +kernel
theorem dX12_aTick_45 : decode cX12_aTick 45 = .ok (.iastore, 1) := by decide +kernel
theorem dX12_aTick_46 : decode cX12_aTick 46 = .ok (.aload_n 0, 1) := by decide +kernel
theorem dX12_aTick_47 : decode cX12_aTick 47 = .ok (.getfield 72, 3) := by decide +kernel
theorem dX12_aTick_50 : decode cX12_aTick 50 = .ok (.iload_n 1, 1) := by decide +kernel
theorem dX12_aTick_51 : decode cX12_aTick 51 = .ok (.aload_n 0, 1) := by decide +kernel
theorem dX12_aTick_52 : decode cX12_aTick 52 = .ok (.getfield 34, 3) := by decide +kernel
theorem dX12_aTick_55 : decode cX12_aTick 55 = .ok (.iconst 2, 1) := by decide +kernel
theorem dX12_aTick_56 : decode cX12_aTick 56 = .ok (.iaload, 1) := by decide +kernel
theorem dX12_aTick_57 : decode cX12_aTick 57 = .ok (.iastore, 1) := by decide +kernel
theorem dX12_aTick_58 : decode cX12_aTick 58 = .ok (.aload_n 0, 1) := by decide +kernel
theorem dX12_aTick_59 : decode cX12_aTick 59 = .ok (.getfield 75, 3) := by decide +kernel
theorem dX12_aTick_62 : decode cX12_aTick 62 = .ok (.iload_n 1, 1) := by decide +kernel
theorem dX12_aTick_63 : decode cX12_aTick 63 = .ok (.sipush 999, 3) := by decide +kernel
theorem dX12_aTick_66 : decode cX12_aTick 66 = .ok (.aload_n 0, 1) := by decide +kernel
theorem dX12_aTick_67 : decode cX12_aTick 67 = .ok (.getfield 75, 3) := by decide +kernel
theorem dX12_aTick_70 : decode cX12_aTick 70 = .ok (.iload_n 1, 1) := by decide +kernel
theorem dX12_aTick_71 : decode cX12_aTick 71 = .ok (.iaload, 1) := by decide +kernel
theorem dX12_aTick_72 : decode cX12_aTick 72 = .ok (.iconst 1, 1) := by decide +kernel
theorem dX12_aTick_73 : decode cX12_aTick 73 = .ok (.iadd, 1) := by decide +kernel
theorem dX12_aTick_74 : decode cX12_aTick 74 = .ok (.invokestatic 179, 3) := by decide +kernel
theorem dX12_aTick_77 : decode cX12_aTick 77 = .ok (.iastore, 1) := by decide +kernel
theorem dX12_aTick_78 : decode cX12_aTick 78 = .ok (.goto 45, 3) := by decide +kernel
theorem dX12_aTick_81 : decode cX12_aTick 81 = .ok (.aload_n 0, 1) := by decide +kernel
theorem dX12_aTick_82 : decode cX12_aTick 82 = .ok (.getfield 69, 3) := by decide +kernel
theorem dX12_aTick_85 : decode cX12_aTick 85 = .ok (.iload_n 1, 1) := by decide +kernel
theorem dX12_aTick_86 : decode cX12_aTick 86 = .ok (.iaload, 1) := by decide +kernel
theorem dX12_aTick_87 : decode cX12_aTick 87 = .ok (.iconst 1, 1) := by decide +kernel
theorem dX12_aTick_88 : decode cX12_aTick 88 = .ok (.if_icmp .le 16, 3) := by decide +kernel
theorem dX12_aTick_91 : decode cX12_aTick 91 = .ok (.aload_n 0, 1) := by decide +kernel
theorem dX12_aTick_92 : decode cX12_aTick 92 = .ok (.getfield 69, 3) := by decide +kernel
theorem dX12_aTick_95 : decode cX12_aTick 95 = .ok (.iload_n 1, 1) := by decide +kernel
theorem dX12_aTick_96 : decode cX12_aTick 96 = .ok (.dup2, 1) := by decide +kernel
theorem dX12_aTick_97 : decode cX12_aTick 97 = .ok (.iaload, 1) := by decide +kernel
theorem dX12_aTick_98 : decode cX12_aTick 98 = .ok (.iconst 1, 1) := by decide +kernel
theorem dX12_aTick_99 : decode cX12_aTick 99 = .ok (.isub, 1) := by decide +kernel
theorem dX12_aTick_100 : decode cX12_aTick 100 = .ok (.iastore, 1) := by decide +kernel
theorem dX12_aTick_101 : decode cX12_aTick 101 = .ok (.goto 22, 3) := by decide +kernel
theorem dX12_aTick_104 : decode cX12_aTick 104 = .ok (.aload_n 0, 1) := by decide +kernel
theorem dX12_aTick_105 : decode cX12_aTick 105 = .ok (.getfield 72, 3) := by decide +kernel
theorem dX12_aTick_108 : decode cX12_aTick 108 = .ok (.iload_n 1, 1) := by decide +kernel
theorem dX12_aTick_109 : decode cX12_aTick 109 = .ok (.iaload, 1) := by decide +kernel
theorem dX12_aTick_110 : decode cX12_aTick 110 = .ok (.ifCond .le 13, 3) := by decide +kernel
theorem dX12_aTick_113 : decode cX12_aTick 113 = .ok (.aload_n 0, 1) := by decide +kernel
theorem dX12_aTick_114 : decode cX12_aTick 114 = .ok (.getfield 72, 3) := by decide +kernel
theorem dX12_aTick_117 : decode cX12_aTick 117 = .ok (.iload_n 1, 1) := by decide +kernel
theorem dX12_aTick_118 : decode cX12_aTick 118 = .ok (.dup2, 1) := by decide +kernel
theorem dX12_aTick_119 : decode cX12_aTick 119 = .ok (.iaload, 1) := by decide +kernel
theorem dX12_aTick_120 : decode cX12_aTick 120 = .ok (.iconst 1, 1) := by decide +kernel
theorem dX12_aTick_121 : decode cX12_aTick 121 = .ok (.isub, 1) := by decide +kernel
theorem dX12_aTick_122 : decode cX12_aTick 122 = .ok (.iastore, 1) := by decide +kernel
theorem dX12_aTick_123 : decode cX12_aTick 123 = .ok (.iinc 1 1, 3) := by decide +kernel
theorem dX12_aTick_126 : decode cX12_aTick 126 = .ok (.goto (-119), 3) := by decide +kernel
theorem dX12_aTick_129 : decode cX12_aTick 129 = .ok (.iconst 0, 1) := by decide +kernel
theorem dX12_aTick_130 : decode cX12_aTick 130 = .ok (.istore_n 1, 1) := by decide +kernel
theorem dX12_aTick_131 : decode cX12_aTick 131 = .ok (.iload_n 1, 1) := by decide +kernel
theorem dX12_aTick_132 : decode cX12_aTick 132 = .ok (.aload_n 0, 1) := by decide +kernel
theorem dX12_aTick_133 : decode cX12_aTick 133 = .ok (.getfield 34, 3) := by decide +kernel
theorem dX12_aTick_136 : decode cX12_aTick 136 = .ok (.iconst 0, 1) := by decide +kernel
theorem dX12_aTick_137 : decode cX12_aTick 137 = .ok (.iaload, 1) := by decide +kernel
theorem dX12_aTick_138 : decode cX12_aTick 138 = .ok (.if_icmp .ge 89, 3) := by decide +kernel
theorem dX12_aTick_141 : decode cX12_aTick 141 = .ok (.aload_n 0, 1) := by decide +kernel
theorem dX12_aTick_142 : decode cX12_aTick 142 = .ok (.getfield 341, 3) := by decide +kernel
theorem dX12_aTick_145 : decode cX12_aTick 145 = .ok (.ifCond .eq 82, 3) := by decide +kernel
theorem dX12_aTick_148 : decode cX12_aTick 148 = .ok (.aload_n 0, 1) := by decide +kernel
theorem dX12_aTick_149 : decode cX12_aTick 149 = .ok (.getfield 69, 3) := by decide +kernel
theorem dX12_aTick_152 : decode cX12_aTick 152 = .ok (.iload_n 1, 1) := by decide +kernel
theorem dX12_aTick_153 : decode cX12_aTick 153 = .ok (.iaload, 1) := by decide +kernel
theorem dX12_aTick_154 : decode cX12_aTick 154 = .ok (.ifCond .gt 67, 3) := by decide +kernel
theorem dX12_aTick_157 : decode cX12_aTick 157 = .ok (.aload_n 0, 1) := by decide +kernel
theorem dX12_aTick_158 : decode cX12_aTick 158 = .ok (.getfield 72, 3) := by decide +kernel
theorem dX12_aTick_161 : decode cX12_aTick 161 = .ok (.iload_n 1, 1) := by decide +kernel
theorem dX12_aTick_162 : decode cX12_aTick 162 = .ok (.iaload, 1) := by decide +kernel
theorem dX12_aTick_163 : decode cX12_aTick 163 = .ok (.ifCond .gt 58, 3) := by decide +kernel
theorem dX12_aTick_166 : decode cX12_aTick 166 = .ok (.aload_n 0, 1) := by decide +kernel
theorem dX12_aTick_167 : decode cX12_aTick 167 = .ok (.getfield 290, 3) := by decide +kernel
theorem dX12_aTick_170 : decode cX12_aTick 170 = .ok (.aload_n 0, 1) := by decide +kernel
theorem dX12_aTick_171 : decode cX12_aTick 171 = .ok (.getfield 341, 3) := by decide +kernel
theorem dX12_aTick_174 : decode cX12_aTick 174 = .ok (.ior, 1) := by decide +kernel
theorem dX12_aTick_175 : decode cX12_aTick 175 = .ok (.iload_n 1, 1) := by decide +kernel
theorem dX12_aTick_176 : decode cX12_aTick 176 = .ok (.invokestatic 332, 3) := by decide +kernel
theorem dX12_aTick_179 : decode cX12_aTick 179 = .ok (.ifCond .eq 6, 3) := by decide +kernel
theorem dX12_aTick_182 : decode cX12_aTick 182 = .ok (.goto 39, 3) := by decide +kernel
theorem dX12_aTick_185 : decode cX12_aTick 185 = .ok (.aload_n 0, 1) := by decide +kernel
theorem dX12_aTick_186 : decode cX12_aTick 186 = .ok (.iload_n 1, 1) := by decide +kernel
theorem dX12_aTick_187 : decode cX12_aTick 187 = .ok (.invokevirtual 343, 3) := by decide +kernel
theorem dX12_aTick_190 : decode cX12_aTick 190 = .ok (.aload_n 0, 1) := by decide +kernel
theorem dX12_aTick_191 : decode cX12_aTick 191 = .ok (.getfield 341, 3) := by decide +kernel
theorem dX12_aTick_194 : decode cX12_aTick 194 = .ok (.iand, 1) := by decide +kernel
theorem dX12_aTick_195 : decode cX12_aTick 195 = .ok (.istore_n 2, 1) := by decide +kernel
theorem dX12_aTick_196 : decode cX12_aTick 196 = .ok (.iload_n 2, 1) := by decide +kernel
theorem dX12_aTick_197 : decode cX12_aTick 197 = .ok (.ifCond .eq 24, 3) := by decide +kernel
theorem dX12_aTick_200 : decode cX12_aTick 200 = .ok (.aload_n 0, 1) := by decide +kernel
theorem dX12_aTick_201 : decode cX12_aTick 201 = .ok (.iload_n 1, 1) := by decide +kernel
theorem dX12_aTick_202 : decode cX12_aTick 202 = .ok (.iload_n 2, 1) := by decide +kernel
theorem dX12_aTick_203 : decode cX12_aTick 203 = .ok (.invokevirtual 346, 3) := by decide +kernel
theorem dX12_aTick_206 : decode cX12_aTick 206 = .ok (.ifCond .eq 15, 3) := by decide +kernel
theorem dX12_aTick_209 : decode cX12_aTick 209 = .ok (.aload_n 0, 1) := by decide +kernel
theorem dX12_aTick_210 : decode cX12_aTick 210 = .ok (.getfield 69, 3) := by decide +kernel
theorem dX12_aTick_213 : decode cX12_aTick 213 = .ok (.iload_n 1, 1) := by decide +kernel
theorem dX12_aTick_214 : decode cX12_aTick 214 = .ok (.aload_n 0, 1) := by decide +kernel
theorem dX12_aTick_215 : decode cX12_aTick 215 = .ok (.getfield 50, 3) := by decide +kernel
theorem dX12_aTick_218 : decode cX12_aTick 218 = .ok (.iload_n 1, 1) := by decide +kernel
theorem dX12_aTick_219 : decode cX12_aTick 219 = .ok (.iaload, 1) := by decide +kernel
theorem dX12_aTick_220 : decode cX12_aTick 220 = .ok (.iastore, 1) := by decide +kernel
theorem dX12_aTick_221 : decode cX12_aTick 221 = .ok (.iinc 1 1, 3) := by decide +kernel
theorem dX12_aTick_224 : decode cX12_aTick 224 = .ok (.goto (-93), 3) := by decide +kernel
theorem dX12_aTick_227 : decode cX12_aTick 227 = .ok (.aload_n 0, 1) := by decide +kernel
theorem dX12_aTick_228 : decode cX12_aTick 228 = .ok (.dup, 1) := by decide +kernel
theorem dX12_aTick_229 : decode cX12_aTick 229 = .ok (.getfield 287, 3) := by decide +kernel
theorem dX12_aTick_232 : decode cX12_aTick 232 = .ok (.iconst 1, 1) := by decide +kernel
theorem dX12_aTick_233 : decode cX12_aTick 233 = .ok (.iadd, 1) := by decide +kernel
theorem dX12_aTick_234 : decode cX12_aTick 234 = .ok (.putfield 287, 3) := by decide +kernel
theorem dX12_aTick_237 : decode cX12_aTick 237 = .ok (.return_, 1) := by decide +kernel
theorem dX12_goOn_0 : decode cX12_goOn 0 = .ok (.iconst 0, 1) := by decide +kernel
theorem dX12_goOn_1 : decode cX12_goOn 1 = .ok (.istore_n 2, 1) := by decide +kernel
theorem dX12_goOn_2 : decode cX12_goOn 2 = .ok (.iload_n 2, 1) := by decide +kernel
theorem dX12_goOn_3 : decode cX12_goOn 3 = .ok (.iload_n 1, 1) := by decide +kernel
theorem dX12_goOn_4 : decode cX12_goOn 4 = .ok (.if_icmp .ge 13, 3) := by decide +kernel
theorem dX12_goOn_7 : decode cX12_goOn 7 = .ok (.aload_n 0, 1) := by decide +kernel
theorem dX12_goOn_8 : decode cX12_goOn 8 = .ok (.invokevirtual 348, 3) := by decide +kernel
theorem dX12_goOn_11 : decode cX12_goOn 11 = .ok (.iinc 2 1, 3) := by decide +kernel
theorem dX12_goOn_14 : decode cX12_goOn 14 = .ok (.goto (-12), 3) := by decide +kernel
theorem dX12_goOn_17 : decode cX12_goOn 17 = .ok (.return_, 1) := by decide +kernel
theorem dX12_waitingNow_0 : decode cX12_waitingNow 0 = .ok (.iconst 0, 1) := by decide +kernel
theorem dX12_waitingNow_1 : decode cX12_waitingNow 1 = .ok (.istore_n 1, 1) := by decide +kernel
theorem dX12_waitingNow_2 : decode cX12_waitingNow 2 = .ok (.iconst 0, 1) := by decide +kernel
theorem dX12_waitingNow_3 : decode cX12_waitingNow 3 = .ok (.istore_n 2, 1) := by decide +kernel
theorem dX12_waitingNow_4 : decode cX12_waitingNow 4 = .ok (.iload_n 2, 1) := by decide +kernel
theorem dX12_waitingNow_5 : decode cX12_waitingNow 5 = .ok (.aload_n 0, 1) := by decide +kernel
theorem dX12_waitingNow_6 : decode cX12_waitingNow 6 = .ok (.getfield 34, 3) := by decide +kernel
theorem dX12_waitingNow_9 : decode cX12_waitingNow 9 = .ok (.iconst 0, 1) := by decide +kernel
theorem dX12_waitingNow_10 : decode cX12_waitingNow 10 = .ok (.iaload, 1) := by decide +kernel
theorem dX12_waitingNow_11 : decode cX12_waitingNow 11 = .ok (.if_icmp .ge 28, 3) := by decide +kernel
theorem dX12_waitingNow_14 : decode cX12_waitingNow 14 = .ok (.iload_n 1, 1) := by decide +kernel
theorem dX12_waitingNow_15 : decode cX12_waitingNow 15 = .ok (.aload_n 0, 1) := by decide +kernel
theorem dX12_waitingNow_16 : decode cX12_waitingNow 16 = .ok (.getfield 69, 3) := by decide +kernel
theorem dX12_waitingNow_19 : decode cX12_waitingNow 19 = .ok (.iload_n 2, 1) := by decide +kernel
theorem dX12_waitingNow_20 : decode cX12_waitingNow 20 = .ok (.iaload, 1) := by decide +kernel
theorem dX12_waitingNow_21 : decode cX12_waitingNow 21 = .ok (.ifCond .le 9, 3) := by decide +kernel
theorem dX12_waitingNow_24 : decode cX12_waitingNow 24 = .ok (.iconst 1, 1) := by decide +kernel
theorem dX12_waitingNow_25 : decode cX12_waitingNow 25 = .ok (.iload_n 2, 1) := by decide +kernel
theorem dX12_waitingNow_26 : decode cX12_waitingNow 26 = .ok (.ishl, 1) := by decide +kernel
theorem dX12_waitingNow_27 : decode cX12_waitingNow 27 = .ok (.goto 4, 3) := by decide +kernel
theorem dX12_waitingNow_30 : decode cX12_waitingNow 30 = .ok (.iconst 0, 1) := by decide +kernel
theorem dX12_waitingNow_31 : decode cX12_waitingNow 31 = .ok (.ior, 1) := by decide +kernel
theorem dX12_waitingNow_32 : decode cX12_waitingNow 32 = .ok (.istore_n 1, 1) := by decide +kernel
theorem dX12_waitingNow_33 : decode cX12_waitingNow 33 = .ok (.iinc 2 1, 3) := by decide +kernel
theorem dX12_waitingNow_36 : decode cX12_waitingNow 36 = .ok (.goto (-32), 3) := by decide +kernel
theorem dX12_waitingNow_39 : decode cX12_waitingNow 39 = .ok (.iload_n 1, 1) := by decide +kernel
theorem dX12_waitingNow_40 : decode cX12_waitingNow 40 = .ok (.ireturn, 1) := by decide +kernel
theorem dX12_heldWith_0 : decode cX12_heldWith 0 = .ok (.iconst 1, 1) := by decide +kernel
theorem dX12_heldWith_1 : decode cX12_heldWith 1 = .ok (.iload_n 1, 1) := by decide +kernel
theorem dX12_heldWith_2 : decode cX12_heldWith 2 = .ok (.ishl, 1) := by decide +kernel
theorem dX12_heldWith_3 : decode cX12_heldWith 3 = .ok (.istore_n 2, 1) := by decide +kernel
theorem dX12_heldWith_4 : decode cX12_heldWith 4 = .ok (.iconst 0, 1) := by decide +kernel
theorem dX12_heldWith_5 : decode cX12_heldWith 5 = .ok (.istore_n 3, 1) := by decide +kernel
theorem dX12_heldWith_6 : decode cX12_heldWith 6 = .ok (.iload_n 3, 1) := by decide +kernel
theorem dX12_heldWith_7 : decode cX12_heldWith 7 = .ok (.aload_n 0, 1) := by decide +kernel
theorem dX12_heldWith_8 : decode cX12_heldWith 8 = .ok (.getfield 34, 3) := by decide +kernel
theorem dX12_heldWith_11 : decode cX12_heldWith 11 = .ok (.iconst 0, 1) := by decide +kernel
theorem dX12_heldWith_12 : decode cX12_heldWith 12 = .ok (.iaload, 1) := by decide +kernel
theorem dX12_heldWith_13 : decode cX12_heldWith 13 = .ok (.if_icmp .ge 51, 3) := by decide +kernel
theorem dX12_heldWith_16 : decode cX12_heldWith 16 = .ok (.iconst 0, 1) := by decide +kernel
theorem dX12_heldWith_17 : decode cX12_heldWith 17 = .ok (.istore 4, 2) := by decide +kernel
theorem dX12_heldWith_19 : decode cX12_heldWith 19 = .ok (.iload 4, 2) := by decide +kernel
theorem dX12_heldWith_21 : decode cX12_heldWith 21 = .ok (.aload_n 0, 1) := by decide +kernel
theorem dX12_heldWith_22 : decode cX12_heldWith 22 = .ok (.getfield 34, 3) := by decide +kernel
theorem dX12_heldWith_25 : decode cX12_heldWith 25 = .ok (.iconst 0, 1) := by decide +kernel
theorem dX12_heldWith_26 : decode cX12_heldWith 26 = .ok (.iaload, 1) := by decide +kernel
theorem dX12_heldWith_27 : decode cX12_heldWith 27 = .ok (.if_icmp .ge 31, 3) := by decide +kernel
theorem dX12_heldWith_30 : decode cX12_heldWith 30 = .ok (.iload_n 2, 1) := by decide +kernel
theorem dX12_heldWith_31 : decode cX12_heldWith 31 = .ok (.iload_n 2, 1) := by decide +kernel
theorem dX12_heldWith_32 : decode cX12_heldWith 32 = .ok (.iload 4, 2) := by decide +kernel
theorem dX12_heldWith_34 : decode cX12_heldWith 34 = .ok (.invokestatic 332, 3) := by decide +kernel
theorem dX12_heldWith_37 : decode cX12_heldWith 37 = .ok (.ifCond .eq 12, 3) := by decide +kernel
theorem dX12_heldWith_40 : decode cX12_heldWith 40 = .ok (.aload_n 0, 1) := by decide +kernel
theorem dX12_heldWith_41 : decode cX12_heldWith 41 = .ok (.iload 4, 2) := by decide +kernel
theorem dX12_heldWith_43 : decode cX12_heldWith 43 = .ok (.invokevirtual 343, 3) := by decide +kernel
theorem dX12_heldWith_46 : decode cX12_heldWith 46 = .ok (.goto 4, 3) := by decide +kernel
theorem dX12_heldWith_49 : decode cX12_heldWith 49 = .ok (.iconst 0, 1) := by decide +kernel
theorem dX12_heldWith_50 : decode cX12_heldWith 50 = .ok (.ior, 1) := by decide +kernel
theorem dX12_heldWith_51 : decode cX12_heldWith 51 = .ok (.istore_n 2, 1) := by decide +kernel
theorem dX12_heldWith_52 : decode cX12_heldWith 52 = .ok (.iinc 4 1, 3) := by decide +kernel
theorem dX12_heldWith_55 : decode cX12_heldWith 55 = .ok (.goto (-36), 3) := by decide +kernel
theorem dX12_heldWith_58 : decode cX12_heldWith 58 = .ok (.iinc 3 1, 3) := by decide +kernel
theorem dX12_heldWith_61 : decode cX12_heldWith 61 = .ok (.goto (-55), 3) := by decide +kernel
theorem dX12_heldWith_64 : decode cX12_heldWith 64 = .ok (.iload_n 2, 1) := by decide +kernel
theorem dX12_heldWith_65 : decode cX12_heldWith 65 = .ok (.ireturn, 1) := by decide +kernel
theorem dX12_partsNow_0 : decode cX12_partsNow 0 = .ok (.iconst 0, 1) := by decide +kernel
theorem dX12_partsNow_1 : decode cX12_partsNow 1 = .ok (.istore_n 1, 1) := by decide +kernel
theorem dX12_partsNow_2 : decode cX12_partsNow 2 = .ok (.iconst 0, 1) := by decide +kernel
theorem dX12_partsNow_3 : decode cX12_partsNow 3 = .ok (.istore_n 2, 1) := by decide +kernel
theorem dX12_partsNow_4 : decode cX12_partsNow 4 = .ok (.iconst 0, 1) := by decide +kernel
theorem dX12_partsNow_5 : decode cX12_partsNow 5 = .ok (.istore_n 3, 1) := by decide +kernel
theorem dX12_partsNow_6 : decode cX12_partsNow 6 = .ok (.iload_n 3, 1) := by decide +kernel
theorem dX12_partsNow_7 : decode cX12_partsNow 7 = .ok (.aload_n 0, 1) := by decide +kernel
theorem dX12_partsNow_8 : decode cX12_partsNow 8 = .ok (.getfield 34, 3) := by decide +kernel
theorem dX12_partsNow_11 : decode cX12_partsNow 11 = .ok (.iconst 0, 1) := by decide +kernel
theorem dX12_partsNow_12 : decode cX12_partsNow 12 = .ok (.iaload, 1) := by decide +kernel
theorem dX12_partsNow_13 : decode cX12_partsNow 13 = .ok (.if_icmp .ge 31, 3) := by decide +kernel
theorem dX12_partsNow_16 : decode cX12_partsNow 16 = .ok (.iload_n 2, 1) := by decide +kernel
theorem dX12_partsNow_17 : decode cX12_partsNow 17 = .ok (.iload_n 3, 1) := by decide +kernel
theorem dX12_partsNow_18 : decode cX12_partsNow 18 = .ok (.invokestatic 332, 3) := by decide +kernel
theorem dX12_partsNow_21 : decode cX12_partsNow 21 = .ok (.ifCond .eq 6, 3) := by decide +kernel
theorem dX12_partsNow_24 : decode cX12_partsNow 24 = .ok (.goto 14, 3) := by decide +kernel
theorem dX12_partsNow_27 : decode cX12_partsNow 27 = .ok (.iload_n 2, 1) := by decide +kernel
theorem dX12_partsNow_28 : decode cX12_partsNow 28 = .ok (.aload_n 0, 1) := by decide +kernel
theorem dX12_partsNow_29 : decode cX12_partsNow 29 = .ok (.iload_n 3, 1) := by decide +kernel
theorem dX12_partsNow_30 : decode cX12_partsNow 30 = .ok (.invokevirtual 351, 3) := by decide +kernel
theorem dX12_partsNow_33 : decode cX12_partsNow 33 = .ok (.ior, 1) := by decide +kernel
theorem dX12_partsNow_34 : decode cX12_partsNow 34 = .ok (.istore_n 2, 1) := by decide +kernel
theorem dX12_partsNow_35 : decode cX12_partsNow 35 = .ok (.iinc 1 1, 3) := by decide +kernel
theorem dX12_partsNow_38 : decode cX12_partsNow 38 = .ok (.iinc 3 1, 3) := by decide +kernel
theorem dX12_partsNow_41 : decode cX12_partsNow 41 = .ok (.goto (-35), 3) := by decide +kernel
theorem dX12_partsNow_44 : decode cX12_partsNow 44 = .ok (.iload_n 1, 1) := by decide +kernel
theorem dX12_partsNow_45 : decode cX12_partsNow 45 = .ok (.ireturn, 1) := by decide +kernel
theorem dX12_watchNow_0 : decode cX12_watchNow 0 = .ok (.iconst 0, 1) := by decide +kernel
theorem dX12_watchNow_1 : decode cX12_watchNow 1 = .ok (.istore_n 1, 1) := by decide +kernel
theorem dX12_watchNow_2 : decode cX12_watchNow 2 = .ok (.iload_n 1, 1) := by decide +kernel
theorem dX12_watchNow_3 : decode cX12_watchNow 3 = .ok (.aload_n 0, 1) := by decide +kernel
theorem dX12_watchNow_4 : decode cX12_watchNow 4 = .ok (.getfield 34, 3) := by decide +kernel
theorem dX12_watchNow_7 : decode cX12_watchNow 7 = .ok (.iconst 0, 1) := by decide +kernel
theorem dX12_watchNow_8 : decode cX12_watchNow 8 = .ok (.iaload, 1) := by decide +kernel
theorem dX12_watchNow_9 : decode cX12_watchNow 9 = .ok (.if_icmp .ge 24, 3) := by decide +kernel
theorem dX12_watchNow_12 : decode cX12_watchNow 12 = .ok (.aload_n 0, 1) := by decide +kernel
theorem dX12_watchNow_13 : decode cX12_watchNow 13 = .ok (.getfield 93, 3) := by decide +kernel
theorem dX12_watchNow_16 : decode cX12_watchNow 16 = .ok (.iload_n 1, 1) := by decide +kernel
theorem dX12_watchNow_17 : decode cX12_watchNow 17 = .ok (.aload_n 0, 1) := by decide +kernel
theorem dX12_watchNow_18 : decode cX12_watchNow 18 = .ok (.iload_n 1, 1) := by decide +kernel
theorem dX12_watchNow_19 : decode cX12_watchNow 19 = .ok (.invokevirtual 343, 3) := by decide +kernel
theorem dX12_watchNow_22 : decode cX12_watchNow 22 = .ok (.iconst 1, 1) := by decide +kernel
theorem dX12_watchNow_23 : decode cX12_watchNow 23 = .ok (.iload_n 1, 1) := by decide +kernel
theorem dX12_watchNow_24 : decode cX12_watchNow 24 = .ok (.ishl, 1) := by decide +kernel
theorem dX12_watchNow_25 : decode cX12_watchNow 25 = .ok (.ior, 1) := by decide +kernel
theorem dX12_watchNow_26 : decode cX12_watchNow 26 = .ok (.iastore, 1) := by decide +kernel
theorem dX12_watchNow_27 : decode cX12_watchNow 27 = .ok (.iinc 1 1, 3) := by decide +kernel
theorem dX12_watchNow_30 : decode cX12_watchNow 30 = .ok (.goto (-28), 3) := by decide +kernel
theorem dX12_watchNow_33 : decode cX12_watchNow 33 = .ok (.iconst (-1), 1) := by decide +kernel
theorem dX12_watchNow_34 : decode cX12_watchNow 34 = .ok (.istore_n 1, 1) := by decide +kernel
theorem dX12_watchNow_35 : decode cX12_watchNow 35 = .ok (.iconst 0, 1) := by decide +kernel
theorem dX12_watchNow_36 : decode cX12_watchNow 36 = .ok (.istore_n 2, 1) := by decide +kernel
theorem dX12_watchNow_37 : decode cX12_watchNow 37 = .ok (.iload_n 2, 1) := by decide +kernel
theorem dX12_watchNow_38 : decode cX12_watchNow 38 = .ok (.aload_n 0, 1) := by decide +kernel
theorem dX12_watchNow_39 : decode cX12_watchNow 39 = .ok (.invokevirtual 354, 3) := by decide +kernel
theorem dX12_watchNow_42 : decode cX12_watchNow 42 = .ok (.if_icmp .gt 83, 3) := by decide +kernel
theorem dX12_watchNow_45 : decode cX12_watchNow 45 = .ok (.iload_n 1, 1) := by decide +kernel
theorem dX12_watchNow_46 : decode cX12_watchNow 46 = .ok (.iconst (-1), 1) := by decide +kernel
theorem dX12_watchNow_47 : decode cX12_watchNow 47 = .ok (.if_icmp .eq 17, 3) := by decide +kernel
theorem dX12_watchNow_50 : decode cX12_watchNow 50 = .ok (.iload_n 2, 1) := by decide +kernel
theorem dX12_watchNow_51 : decode cX12_watchNow 51 = .ok (.invokestatic 335, 3) := by decide +kernel
theorem dX12_watchNow_54 : decode cX12_watchNow 54 = .ok (.iload_n 1, 1) := by decide +kernel
theorem dX12_watchNow_55 : decode cX12_watchNow 55 = .ok (.invokestatic 335, 3) := by decide +kernel
theorem dX12_watchNow_58 : decode cX12_watchNow 58 = .ok (.if_icmp .lt 6, 3) := by decide +kernel
theorem dX12_watchNow_61 : decode cX12_watchNow 61 = .ok (.goto 58, 3) := by decide +kernel
theorem dX12_watchNow_64 : decode cX12_watchNow 64 = .ok (.iconst 0, 1) := by decide +kernel
theorem dX12_watchNow_65 : decode cX12_watchNow 65 = .ok (.istore_n 3, 1) := by decide +kernel
theorem dX12_watchNow_66 : decode cX12_watchNow 66 = .ok (.iconst 0, 1) := by decide +kernel
theorem dX12_watchNow_67 : decode cX12_watchNow 67 = .ok (.istore 4, 2) := by decide +kernel
theorem dX12_watchNow_69 : decode cX12_watchNow 69 = .ok (.iload 4, 2) := by decide +kernel
theorem dX12_watchNow_71 : decode cX12_watchNow 71 = .ok (.aload_n 0, 1) := by decide +kernel
theorem dX12_watchNow_72 : decode cX12_watchNow 72 = .ok (.getfield 34, 3) := by decide +kernel
theorem dX12_watchNow_75 : decode cX12_watchNow 75 = .ok (.iconst 0, 1) := by decide +kernel
theorem dX12_watchNow_76 : decode cX12_watchNow 76 = .ok (.iaload, 1) := by decide +kernel
theorem dX12_watchNow_77 : decode cX12_watchNow 77 = .ok (.if_icmp .ge 32, 3) := by decide +kernel
theorem dX12_watchNow_80 : decode cX12_watchNow 80 = .ok (.iload_n 3, 1) := by decide +kernel
theorem dX12_watchNow_81 : decode cX12_watchNow 81 = .ok (.iload_n 2, 1) := by decide +kernel
theorem dX12_watchNow_82 : decode cX12_watchNow 82 = .ok (.iload 4, 2) := by decide +kernel
theorem dX12_watchNow_84 : decode cX12_watchNow 84 = .ok (.invokestatic 332, 3) := by decide +kernel
theorem dX12_watchNow_87 : decode cX12_watchNow 87 = .ok (.ifCond .eq 13, 3) := by decide +kernel
theorem dX12_watchNow_90 : decode cX12_watchNow 90 = .ok (.aload_n 0, 1) := by decide +kernel
theorem dX12_watchNow_91 : decode cX12_watchNow 91 = .ok (.getfield 93, 3) := by decide +kernel
theorem dX12_watchNow_94 : decode cX12_watchNow 94 = .ok (.iload 4, 2) := by decide +kernel
theorem dX12_watchNow_96 : decode cX12_watchNow 96 = .ok (.iaload, 1) := by decide +kernel
theorem dX12_watchNow_97 : decode cX12_watchNow 97 = .ok (.goto 4, 3) := by decide +kernel
theorem dX12_watchNow_100 : decode cX12_watchNow 100 = .ok (.iconst 0, 1) := by decide +kernel
theorem dX12_watchNow_101 : decode cX12_watchNow 101 = .ok (.ior, 1) := by decide +kernel
theorem dX12_watchNow_102 : decode cX12_watchNow 102 = .ok (.istore_n 3, 1) := by decide +kernel
theorem dX12_watchNow_103 : decode cX12_watchNow 103 = .ok (.iinc 4 1, 3) := by decide +kernel
theorem dX12_watchNow_106 : decode cX12_watchNow 106 = .ok (.goto (-37), 3) := by decide +kernel
theorem dX12_watchNow_109 : decode cX12_watchNow 109 = .ok (.iload_n 3, 1) := by decide +kernel
theorem dX12_watchNow_110 : decode cX12_watchNow 110 = .ok (.aload_n 0, 1) := by decide +kernel
theorem dX12_watchNow_111 : decode cX12_watchNow 111 = .ok (.invokevirtual 354, 3) := by decide +kernel
theorem dX12_watchNow_114 : decode cX12_watchNow 114 = .ok (.if_icmp .ne 5, 3) := by decide +kernel
theorem dX12_watchNow_117 : decode cX12_watchNow 117 = .ok (.iload_n 2, 1) := by decide +kernel
theorem dX12_watchNow_118 : decode cX12_watchNow 118 = .ok (.istore_n 1, 1) := by decide +kernel
theorem dX12_watchNow_119 : decode cX12_watchNow 119 = .ok (.iinc 2 1, 3) := by decide +kernel
theorem dX12_watchNow_122 : decode cX12_watchNow 122 = .ok (.goto (-85), 3) := by decide +kernel
theorem dX12_watchNow_125 : decode cX12_watchNow 125 = .ok (.iload_n 1, 1) := by decide +kernel
theorem dX12_watchNow_126 : decode cX12_watchNow 126 = .ok (.ireturn, 1) := by decide +kernel
theorem dX12_stareNow_0 : decode cX12_stareNow 0 = .ok (.iconst (-1), 1) := by decide +kernel
theorem dX12_stareNow_1 : decode cX12_stareNow 1 = .ok (.istore_n 1, 1) := by decide +kernel
theorem dX12_stareNow_2 : decode cX12_stareNow 2 = .ok (.iconst 0, 1) := by decide +kernel
theorem dX12_stareNow_3 : decode cX12_stareNow 3 = .ok (.istore_n 2, 1) := by decide +kernel
theorem dX12_stareNow_4 : decode cX12_stareNow 4 = .ok (.iconst 0, 1) := by decide +kernel
theorem dX12_stareNow_5 : decode cX12_stareNow 5 = .ok (.istore_n 3, 1) := by decide +kernel
theorem dX12_stareNow_6 : decode cX12_stareNow 6 = .ok (.iload_n 3, 1) := by decide +kernel
theorem dX12_stareNow_7 : decode cX12_stareNow 7 = .ok (.aload_n 0, 1) := by decide +kernel
theorem dX12_stareNow_8 : decode cX12_stareNow 8 = .ok (.getfield 34, 3) := by decide +kernel
theorem dX12_stareNow_11 : decode cX12_stareNow 11 = .ok (.iconst 0, 1) := by decide +kernel
theorem dX12_stareNow_12 : decode cX12_stareNow 12 = .ok (.iaload, 1) := by decide +kernel
theorem dX12_stareNow_13 : decode cX12_stareNow 13 = .ok (.if_icmp .ge 80, 3) := by decide +kernel
theorem dX12_stareNow_16 : decode cX12_stareNow 16 = .ok (.iload_n 3, 1) := by decide +kernel
theorem dX12_stareNow_17 : decode cX12_stareNow 17 = .ok (.iconst 1, 1) := by decide +kernel
theorem dX12_stareNow_18 : decode cX12_stareNow 18 = .ok (.iadd, 1) := by decide +kernel
theorem dX12_stareNow_19 : decode cX12_stareNow 19 = .ok (.istore 4, 2) := by decide +kernel
theorem dX12_stareNow_21 : decode cX12_stareNow 21 = .ok (.iload 4, 2) := by decide +kernel
theorem dX12_stareNow_23 : decode cX12_stareNow 23 = .ok (.aload_n 0, 1) := by decide +kernel
theorem dX12_stareNow_24 : decode cX12_stareNow 24 = .ok (.getfield 34, 3) := by decide +kernel
theorem dX12_stareNow_27 : decode cX12_stareNow 27 = .ok (.iconst 0, 1) := by decide +kernel
theorem dX12_stareNow_28 : decode cX12_stareNow 28 = .ok (.iaload, 1) := by decide +kernel
theorem dX12_stareNow_29 : decode cX12_stareNow 29 = .ok (.if_icmp .ge 58, 3) := by decide +kernel
theorem dX12_stareNow_32 : decode cX12_stareNow 32 = .ok (.aload_n 0, 1) := by decide +kernel
theorem dX12_stareNow_33 : decode cX12_stareNow 33 = .ok (.getfield 41, 3) := by decide +kernel
theorem dX12_stareNow_36 : decode cX12_stareNow 36 = .ok (.iload_n 3, 1) := by decide +kernel
theorem dX12_stareNow_37 : decode cX12_stareNow 37 = .ok (.iaload, 1) := by decide +kernel
theorem dX12_stareNow_38 : decode cX12_stareNow 38 = .ok (.aload_n 0, 1) := by decide +kernel
theorem dX12_stareNow_39 : decode cX12_stareNow 39 = .ok (.getfield 41, 3) := by decide +kernel
theorem dX12_stareNow_42 : decode cX12_stareNow 42 = .ok (.iload 4, 2) := by decide +kernel
theorem dX12_stareNow_44 : decode cX12_stareNow 44 = .ok (.iaload, 1) := by decide +kernel
theorem dX12_stareNow_45 : decode cX12_stareNow 45 = .ok (.isub, 1) := by decide +kernel
theorem dX12_stareNow_46 : decode cX12_stareNow 46 = .ok (.invokestatic 315, 3) := by decide +kernel
theorem dX12_stareNow_49 : decode cX12_stareNow 49 = .ok (.istore 5, 2) := by decide +kernel
theorem dX12_stareNow_51 : decode cX12_stareNow 51 = .ok (.iload 5, 2) := by decide +kernel
theorem dX12_stareNow_53 : decode cX12_stareNow 53 = .ok (.iload_n 2, 1) := by decide +kernel
theorem dX12_stareNow_54 : decode cX12_stareNow 54 = .ok (.if_icmp .le 27, 3) := by decide +kernel
theorem dX12_stareNow_57 : decode cX12_stareNow 57 = .ok (.aload_n 0, 1) := by decide +kernel
theorem dX12_stareNow_58 : decode cX12_stareNow 58 = .ok (.iload_n 3, 1) := by decide +kernel
theorem dX12_stareNow_59 : decode cX12_stareNow 59 = .ok (.iload 4, 2) := by decide +kernel
theorem dX12_stareNow_61 : decode cX12_stareNow 61 = .ok (.invokevirtual 324, 3) := by decide +kernel
theorem dX12_stareNow_64 : decode cX12_stareNow 64 = .ok (.ifCond .ne 6, 3) := by decide +kernel
theorem dX12_stareNow_67 : decode cX12_stareNow 67 = .ok (.goto 14, 3) := by decide +kernel
theorem dX12_stareNow_70 : decode cX12_stareNow 70 = .ok (.bipush 10, 2) := by decide +kernel
theorem dX12_stareNow_72 : decode cX12_stareNow 72 = .ok (.iload_n 3, 1) := by decide +kernel
theorem dX12_stareNow_73 : decode cX12_stareNow 73 = .ok (.imul, 1) := by decide +kernel
theorem dX12_stareNow_74 : decode cX12_stareNow 74 = .ok (.iload 4, 2) := by decide +kernel
theorem dX12_stareNow_76 : decode cX12_stareNow 76 = .ok (.iadd, 1) := by decide +kernel
theorem dX12_stareNow_77 : decode cX12_stareNow 77 = .ok (.istore_n 1, 1) := by decide +kernel
theorem dX12_stareNow_78 : decode cX12_stareNow 78 = .ok (.iload 5, 2) := by decide +kernel
theorem dX12_stareNow_80 : decode cX12_stareNow 80 = .ok (.istore_n 2, 1) := by decide +kernel
theorem dX12_stareNow_81 : decode cX12_stareNow 81 = .ok (.iinc 4 1, 3) := by decide +kernel
theorem dX12_stareNow_84 : decode cX12_stareNow 84 = .ok (.goto (-63), 3) := by decide +kernel
theorem dX12_stareNow_87 : decode cX12_stareNow 87 = .ok (.iinc 3 1, 3) := by decide +kernel
theorem dX12_stareNow_90 : decode cX12_stareNow 90 = .ok (.goto (-84), 3) := by decide +kernel
theorem dX12_stareNow_93 : decode cX12_stareNow 93 = .ok (.iload_n 1, 1) := by decide +kernel
theorem dX12_stareNow_94 : decode cX12_stareNow 94 = .ok (.ireturn, 1) := by decide +kernel
theorem dX12_count_0 : decode cX12_count 0 = .ok (.aload_n 0, 1) := by decide +kernel
theorem dX12_count_1 : decode cX12_count 1 = .ok (.iconst 0, 1) := by decide +kernel
theorem dX12_count_2 : decode cX12_count 2 = .ok (.putfield 142, 3) := by decide +kernel
theorem dX12_count_5 : decode cX12_count 5 = .ok (.iload_n 1, 1) := by decide +kernel
theorem dX12_count_6 : decode cX12_count 6 = .ok (.tableswitch 159 0 15 #[78, 85, 90, 95, 102, 109, 114, 119, 124, 129, 134, 139, 144, 149, 149, 149], 78) := by decide +kernel
theorem dX12_count_84 : decode cX12_count 84 = .ok (.aload_n 0, 1) := by decide +kernel
theorem dX12_count_85 : decode cX12_count 85 = .ok (.getfield 34, 3) := by decide +kernel
theorem dX12_count_88 : decode cX12_count 88 = .ok (.iconst 0, 1) := by decide +kernel
theorem dX12_count_89 : decode cX12_count 89 = .ok (.iaload, 1) := by decide +kernel
theorem dX12_count_90 : decode cX12_count 90 = .ok (.ireturn, 1) := by decide +kernel
theorem dX12_count_91 : decode cX12_count 91 = .ok (.aload_n 0, 1) := by decide +kernel
theorem dX12_count_92 : decode cX12_count 92 = .ok (.getfield 287, 3) := by decide +kernel
theorem dX12_count_95 : decode cX12_count 95 = .ok (.ireturn, 1) := by decide +kernel
theorem dX12_count_96 : decode cX12_count 96 = .ok (.aload_n 0, 1) := by decide +kernel
theorem dX12_count_97 : decode cX12_count 97 = .ok (.invokevirtual 318, 3) := by decide +kernel
theorem dX12_count_100 : decode cX12_count 100 = .ok (.ireturn, 1) := by decide +kernel
theorem dX12_count_101 : decode cX12_count 101 = .ok (.aload_n 0, 1) := by decide +kernel
theorem dX12_count_102 : decode cX12_count 102 = .ok (.getfield 34, 3) := by decide +kernel
theorem dX12_count_105 : decode cX12_count 105 = .ok (.iconst 1, 1) := by decide +kernel
theorem dX12_count_106 : decode cX12_count 106 = .ok (.iaload, 1) := by decide +kernel
theorem dX12_count_107 : decode cX12_count 107 = .ok (.ireturn, 1) := by decide +kernel
theorem dX12_count_108 : decode cX12_count 108 = .ok (.aload_n 0, 1) := by decide +kernel
theorem dX12_count_109 : decode cX12_count 109 = .ok (.getfield 34, 3) := by decide +kernel
theorem dX12_count_112 : decode cX12_count 112 = .ok (.iconst 2, 1) := by decide +kernel
theorem dX12_count_113 : decode cX12_count 113 = .ok (.iaload, 1) := by decide +kernel
theorem dX12_count_114 : decode cX12_count 114 = .ok (.ireturn, 1) := by decide +kernel
theorem dX12_count_115 : decode cX12_count 115 = .ok (.aload_n 0, 1) := by decide +kernel
theorem dX12_count_116 : decode cX12_count 116 = .ok (.getfield 290, 3) := by decide +kernel
theorem dX12_count_119 : decode cX12_count 119 = .ok (.ireturn, 1) := by decide +kernel
theorem dX12_count_120 : decode cX12_count 120 = .ok (.aload_n 0, 1) := by decide +kernel
theorem dX12_count_121 : decode cX12_count 121 = .ok (.invokevirtual 357, 3) := by decide +kernel
theorem dX12_count_124 : decode cX12_count 124 = .ok (.ireturn, 1) := by decide +kernel
theorem dX12_count_125 : decode cX12_count 125 = .ok (.aload_n 0, 1) := by decide +kernel
theorem dX12_count_126 : decode cX12_count 126 = .ok (.invokevirtual 360, 3) := by decide +kernel
theorem dX12_count_129 : decode cX12_count 129 = .ok (.ireturn, 1) := by decide +kernel
theorem dX12_count_130 : decode cX12_count 130 = .ok (.aload_n 0, 1) := by decide +kernel
theorem dX12_count_131 : decode cX12_count 131 = .ok (.invokevirtual 363, 3) := by decide +kernel
theorem dX12_count_134 : decode cX12_count 134 = .ok (.ireturn, 1) := by decide +kernel
theorem dX12_count_135 : decode cX12_count 135 = .ok (.aload_n 0, 1) := by decide +kernel
theorem dX12_count_136 : decode cX12_count 136 = .ok (.invokevirtual 366, 3) := by decide +kernel
theorem dX12_count_139 : decode cX12_count 139 = .ok (.ireturn, 1) := by decide +kernel
theorem dX12_count_140 : decode cX12_count 140 = .ok (.aload_n 0, 1) := by decide +kernel
theorem dX12_count_141 : decode cX12_count 141 = .ok (.getfield 293, 3) := by decide +kernel
theorem dX12_count_144 : decode cX12_count 144 = .ok (.ireturn, 1) := by decide +kernel
theorem dX12_count_145 : decode cX12_count 145 = .ok (.aload_n 0, 1) := by decide +kernel
theorem dX12_count_146 : decode cX12_count 146 = .ok (.getfield 296, 3) := by decide +kernel
theorem dX12_count_149 : decode cX12_count 149 = .ok (.ireturn, 1) := by decide +kernel
theorem dX12_count_150 : decode cX12_count 150 = .ok (.aload_n 0, 1) := by decide +kernel
theorem dX12_count_151 : decode cX12_count 151 = .ok (.getfield 149, 3) := by decide +kernel
theorem dX12_count_154 : decode cX12_count 154 = .ok (.ireturn, 1) := by decide +kernel
theorem dX12_count_155 : decode cX12_count 155 = .ok (.aload_n 0, 1) := by decide +kernel
theorem dX12_count_156 : decode cX12_count 156 = .ok (.getfield 59, 3) := by decide +kernel
