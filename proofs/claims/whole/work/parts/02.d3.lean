theorem dX12_init_62 : decode cX12_init 62 = .ok (.bipush 10, 2) := by decide +kernel
theorem dX12_init_64 : decode cX12_init 64 = .ok (.newarray .int, 2) := by decide +kernel
theorem dX12_init_66 : decode cX12_init 66 = .ok (.putfield 34, 3) := by decide +kernel
theorem dX12_init_69 : decode cX12_init 69 = .ok (.aload_n 0, 1) := by decide +kernel
theorem dX12_init_70 : decode cX12_init 70 = .ok (.bipush 18, 2) := by decide +kernel
theorem dX12_init_72 : decode cX12_init 72 = .ok (.newarray .int, 2) := by decide +kernel
theorem dX12_init_74 : decode cX12_init 74 = .ok (.putfield 38, 3) := by decide +kernel
theorem dX12_init_77 : decode cX12_init 77 = .ok (.aload_n 0, 1) := by decide +kernel
theorem dX12_init_78 : decode cX12_init 78 = .ok (.bipush 18, 2) := by decide +kernel
theorem dX12_init_80 : decode cX12_init 80 = .ok (.newarray .int, 2) := by decide +kernel
theorem dX12_init_82 : decode cX12_init 82 = .ok (.putfield 41, 3) := by decide +kernel
theorem dX12_init_85 : decode cX12_init 85 = .ok (.aload_n 0, 1) := by decide +kernel
theorem dX12_init_86 : decode cX12_init 86 = .ok (.bipush 18, 2) := by decide +kernel
theorem dX12_init_88 : decode cX12_init 88 = .ok (.newarray .int, 2) := by decide +kernel
theorem dX12_init_90 : decode cX12_init 90 = .ok (.putfield 44, 3) := by decide +kernel
theorem dX12_init_93 : decode cX12_init 93 = .ok (.aload_n 0, 1) := by decide +kernel
theorem dX12_init_94 : decode cX12_init 94 = .ok (.bipush 18, 2) := by decide +kernel
theorem dX12_init_96 : decode cX12_init 96 = .ok (.newarray .int, 2) := by decide +kernel
theorem dX12_init_98 : decode cX12_init 98 = .ok (.putfield 47, 3) := by decide +kernel
theorem dX12_init_101 : decode cX12_init 101 = .ok (.aload_n 0, 1) := by decide +kernel
theorem dX12_init_102 : decode cX12_init 102 = .ok (.bipush 18, 2) := by decide +kernel
theorem dX12_init_104 : decode cX12_init 104 = .ok (.newarray .int, 2) := by decide +kernel
theorem dX12_init_106 : decode cX12_init 106 = .ok (.putfield 50, 3) := by decide +kernel
theorem dX12_init_109 : decode cX12_init 109 = .ok (.aload_n 0, 1) := by decide +kernel
theorem dX12_init_110 : decode cX12_init 110 = .ok (.bipush 16, 2) := by decide +kernel
theorem dX12_init_112 : decode cX12_init 112 = .ok (.newarray .int, 2) := by decide +kernel
theorem dX12_init_114 : decode cX12_init 114 = .ok (.putfield 53, 3) := by decide +kernel
theorem dX12_init_117 : decode cX12_init 117 = .ok (.aload_n 0, 1) := by decide +kernel
theorem dX12_init_118 : decode cX12_init 118 = .ok (.sipush 1400, 3) := by decide +kernel
theorem dX12_init_121 : decode cX12_init 121 = .ok (.newarray .int, 2) := by decide +kernel
theorem dX12_init_123 : decode cX12_init 123 = .ok (.putfield 56, 3) := by decide +kernel
theorem dX12_init_126 : decode cX12_init 126 = .ok (.aload_n 0, 1) := by decide +kernel
theorem dX12_init_127 : decode cX12_init 127 = .ok (.iconst 3, 1) := by decide +kernel
theorem dX12_init_128 : decode cX12_init 128 = .ok (.newarray .int, 2) := by decide +kernel
theorem dX12_init_130 : decode cX12_init 130 = .ok (.putfield 59, 3) := by decide +kernel
theorem dX12_init_133 : decode cX12_init 133 = .ok (.aload_n 0, 1) := by decide +kernel
theorem dX12_init_134 : decode cX12_init 134 = .ok (.sipush 700, 3) := by decide +kernel
theorem dX12_init_137 : decode cX12_init 137 = .ok (.newarray .int, 2) := by decide +kernel
theorem dX12_init_139 : decode cX12_init 139 = .ok (.putfield 62, 3) := by decide +kernel
theorem dX12_init_142 : decode cX12_init 142 = .ok (.aload_n 0, 1) := by decide +kernel
theorem dX12_init_143 : decode cX12_init 143 = .ok (.iconst (-1), 1) := by decide +kernel
theorem dX12_init_144 : decode cX12_init 144 = .ok (.putfield 65, 3) := by decide +kernel
theorem dX12_init_147 : decode cX12_init 147 = .ok (.aload_n 0, 1) := by decide +kernel
theorem dX12_init_148 : decode cX12_init 148 = .ok (.bipush 9, 2) := by decide +kernel
theorem dX12_init_150 : decode cX12_init 150 = .ok (.newarray .int, 2) := by decide +kernel
theorem dX12_init_152 : decode cX12_init 152 = .ok (.putfield 69, 3) := by decide +kernel
theorem dX12_init_155 : decode cX12_init 155 = .ok (.aload_n 0, 1) := by decide +kernel
theorem dX12_init_156 : decode cX12_init 156 = .ok (.bipush 9, 2) := by decide +kernel
theorem dX12_init_158 : decode cX12_init 158 = .ok (.newarray .int, 2) := by decide +kernel
theorem dX12_init_160 : decode cX12_init 160 = .ok (.putfield 72, 3) := by decide +kernel
theorem dX12_init_163 : decode cX12_init 163 = .ok (.aload_n 0, 1) := by decide +kernel
theorem dX12_init_164 : decode cX12_init 164 = .ok (.bipush 9, 2) := by decide +kernel
theorem dX12_init_166 : decode cX12_init 166 = .ok (.newarray .int, 2) := by decide +kernel
theorem dX12_init_168 : decode cX12_init 168 = .ok (.putfield 75, 3) := by decide +kernel
theorem dX12_init_171 : decode cX12_init 171 = .ok (.aload_n 0, 1) := by decide +kernel
theorem dX12_init_172 : decode cX12_init 172 = .ok (.bipush 9, 2) := by decide +kernel
theorem dX12_init_174 : decode cX12_init 174 = .ok (.newarray .int, 2) := by decide +kernel
theorem dX12_init_176 : decode cX12_init 176 = .ok (.putfield 78, 3) := by decide +kernel
theorem dX12_init_179 : decode cX12_init 179 = .ok (.aload_n 0, 1) := by decide +kernel
theorem dX12_init_180 : decode cX12_init 180 = .ok (.sipush 1520, 3) := by decide +kernel
theorem dX12_init_183 : decode cX12_init 183 = .ok (.newarray .int, 2) := by decide +kernel
theorem dX12_init_185 : decode cX12_init 185 = .ok (.putfield 81, 3) := by decide +kernel
theorem dX12_init_188 : decode cX12_init 188 = .ok (.aload_n 0, 1) := by decide +kernel
theorem dX12_init_189 : decode cX12_init 189 = .ok (.iconst (-1), 1) := by decide +kernel
theorem dX12_init_190 : decode cX12_init 190 = .ok (.putfield 84, 3) := by decide +kernel
theorem dX12_init_193 : decode cX12_init 193 = .ok (.aload_n 0, 1) := by decide +kernel
theorem dX12_init_194 : decode cX12_init 194 = .ok (.bipush 6, 2) := by decide +kernel
theorem dX12_init_196 : decode cX12_init 196 = .ok (.newarray .int, 2) := by decide +kernel
theorem dX12_init_198 : decode cX12_init 198 = .ok (.putfield 87, 3) := by decide +kernel
theorem dX12_init_201 : decode cX12_init 201 = .ok (.aload_n 0, 1) := by decide +kernel
theorem dX12_init_202 : decode cX12_init 202 = .ok (.bipush 64, 2) := by decide +kernel
theorem dX12_init_204 : decode cX12_init 204 = .ok (.newarray .int, 2) := by decide +kernel
theorem dX12_init_206 : decode cX12_init 206 = .ok (.putfield 90, 3) := by decide +kernel
theorem dX12_init_209 : decode cX12_init 209 = .ok (.aload_n 0, 1) := by decide +kernel
theorem dX12_init_210 : decode cX12_init 210 = .ok (.bipush 9, 2) := by decide +kernel
theorem dX12_init_212 : decode cX12_init 212 = .ok (.newarray .int, 2) := by decide +kernel
theorem dX12_init_214 : decode cX12_init 214 = .ok (.putfield 93, 3) := by decide +kernel
theorem dX12_init_217 : decode cX12_init 217 = .ok (.aload_n 0, 1) := by decide +kernel
theorem dX12_init_218 : decode cX12_init 218 = .ok (.bipush 38, 2) := by decide +kernel
theorem dX12_init_220 : decode cX12_init 220 = .ok (.newarray .int, 2) := by decide +kernel
theorem dX12_init_222 : decode cX12_init 222 = .ok (.putfield 96, 3) := by decide +kernel
theorem dX12_init_225 : decode cX12_init 225 = .ok (.aload_n 0, 1) := by decide +kernel
theorem dX12_init_226 : decode cX12_init 226 = .ok (.bipush 9, 2) := by decide +kernel
theorem dX12_init_228 : decode cX12_init 228 = .ok (.newarray .int, 2) := by decide +kernel
theorem dX12_init_230 : decode cX12_init 230 = .ok (.putfield 99, 3) := by decide +kernel
theorem dX12_init_233 : decode cX12_init 233 = .ok (.aload_n 0, 1) := by decide +kernel
theorem dX12_init_234 : decode cX12_init 234 = .ok (.bipush 38, 2) := by decide +kernel
theorem dX12_init_236 : decode cX12_init 236 = .ok (.newarray .int, 2) := by decide +kernel
theorem dX12_init_238 : decode cX12_init 238 = .ok (.putfield 102, 3) := by decide +kernel
theorem dX12_init_241 : decode cX12_init 241 = .ok (.aload_n 0, 1) := by decide +kernel
theorem dX12_init_242 : decode cX12_init 242 = .ok (.bipush 8, 2) := by decide +kernel
theorem dX12_init_244 : decode cX12_init 244 = .ok (.newarray .int, 2) := by decide +kernel
theorem dX12_init_246 : decode cX12_init 246 = .ok (.putfield 105, 3) := by decide +kernel
theorem dX12_init_249 : decode cX12_init 249 = .ok (.aload_n 0, 1) := by decide +kernel
theorem dX12_init_250 : decode cX12_init 250 = .ok (.bipush 8, 2) := by decide +kernel
theorem dX12_init_252 : decode cX12_init 252 = .ok (.newarray .int, 2) := by decide +kernel
theorem dX12_init_254 : decode cX12_init 254 = .ok (.putfield 108, 3) := by decide +kernel
theorem dX12_init_257 : decode cX12_init 257 = .ok (.aload_n 0, 1) := by decide +kernel
theorem dX12_init_258 : decode cX12_init 258 = .ok (.bipush 38, 2) := by decide +kernel
theorem dX12_init_260 : decode cX12_init 260 = .ok (.newarray .int, 2) := by decide +kernel
theorem dX12_init_262 : decode cX12_init 262 = .ok (.putfield 111, 3) := by decide +kernel
theorem dX12_init_265 : decode cX12_init 265 = .ok (.aload_n 0, 1) := by decide +kernel
theorem dX12_init_266 : decode cX12_init 266 = .ok (.bipush 8, 2) := by decide +kernel
theorem dX12_init_268 : decode cX12_init 268 = .ok (.newarray .boolean, 2) := by decide +kernel
theorem dX12_init_270 : decode cX12_init 270 = .ok (.putfield 114, 3) := by decide +kernel
theorem dX12_init_273 : decode cX12_init 273 = .ok (.aload_n 0, 1) := by decide +kernel
theorem dX12_init_274 : decode cX12_init 274 = .ok (.sipush 180, 3) := by decide +kernel
theorem dX12_init_277 : decode cX12_init 277 = .ok (.newarray .int, 2) := by decide +kernel
theorem dX12_init_279 : decode cX12_init 279 = .ok (.putfield 118, 3) := by decide +kernel
theorem dX12_init_282 : decode cX12_init 282 = .ok (.aload_n 0, 1) := by decide +kernel
theorem dX12_init_283 : decode cX12_init 283 = .ok (.bipush 8, 2) := by decide +kernel
theorem dX12_init_285 : decode cX12_init 285 = .ok (.newarray .int, 2) := by decide +kernel
theorem dX12_init_287 : decode cX12_init 287 = .ok (.putfield 121, 3) := by decide +kernel
theorem dX12_init_290 : decode cX12_init 290 = .ok (.aload_n 0, 1) := by decide +kernel
theorem dX12_init_291 : decode cX12_init 291 = .ok (.bipush 38, 2) := by decide +kernel
theorem dX12_init_293 : decode cX12_init 293 = .ok (.newarray .int, 2) := by decide +kernel
theorem dX12_init_295 : decode cX12_init 295 = .ok (.putfield 124, 3) := by decide +kernel
theorem dX12_init_298 : decode cX12_init 298 = .ok (.aload_n 0, 1) := by decide +kernel
theorem dX12_init_299 : decode cX12_init 299 = .ok (.sipush 1520, 3) := by decide +kernel
theorem dX12_init_302 : decode cX12_init 302 = .ok (.newarray .int, 2) := by decide +kernel
theorem dX12_init_304 : decode cX12_init 304 = .ok (.putfield 127, 3) := by decide +kernel
theorem dX12_init_307 : decode cX12_init 307 = .ok (.aload_n 0, 1) := by decide +kernel
theorem dX12_init_308 : decode cX12_init 308 = .ok (.bipush 8, 2) := by decide +kernel
theorem dX12_init_310 : decode cX12_init 310 = .ok (.newarray .int, 2) := by decide +kernel
theorem dX12_init_312 : decode cX12_init 312 = .ok (.putfield 130, 3) := by decide +kernel
theorem dX12_init_315 : decode cX12_init 315 = .ok (.aload_n 0, 1) := by decide +kernel
theorem dX12_init_316 : decode cX12_init 316 = .ok (.bipush 8, 2) := by decide +kernel
theorem dX12_init_318 : decode cX12_init 318 = .ok (.newarray .int, 2) := by decide +kernel
theorem dX12_init_320 : decode cX12_init 320 = .ok (.putfield 133, 3) := by decide +kernel
theorem dX12_init_323 : decode cX12_init 323 = .ok (.aload_n 0, 1) := by decide +kernel
theorem dX12_init_324 : decode cX12_init 324 = .ok (.iconst 3, 1) := by decide +kernel
theorem dX12_init_325 : decode cX12_init 325 = .ok (.newarray .int, 2) := by decide +kernel
theorem dX12_init_327 : decode cX12_init 327 = .ok (.putfield 136, 3) := by decide +kernel
theorem dX12_init_330 : decode cX12_init 330 = .ok (.aload_n 0, 1) := by decide +kernel
theorem dX12_init_331 : decode cX12_init 331 = .ok (.bipush 8, 2) := by decide +kernel
theorem dX12_init_333 : decode cX12_init 333 = .ok (.newarray .boolean, 2) := by decide +kernel
theorem dX12_init_335 : decode cX12_init 335 = .ok (.putfield 139, 3) := by decide +kernel
theorem dX12_init_338 : decode cX12_init 338 = .ok (.aload_n 0, 1) := by decide +kernel
theorem dX12_init_339 : decode cX12_init 339 = .ok (.getfield 34, 3) := by decide +kernel
theorem dX12_init_342 : decode cX12_init 342 = .ok (.iconst 1, 1) := by decide +kernel
theorem dX12_init_343 : decode cX12_init 343 = .ok (.bipush 60, 2) := by decide +kernel
theorem dX12_init_345 : decode cX12_init 345 = .ok (.iastore, 1) := by decide +kernel
theorem dX12_init_346 : decode cX12_init 346 = .ok (.aload_n 0, 1) := by decide +kernel
theorem dX12_init_347 : decode cX12_init 347 = .ok (.getfield 34, 3) := by decide +kernel
theorem dX12_init_350 : decode cX12_init 350 = .ok (.iconst 2, 1) := by decide +kernel
theorem dX12_init_351 : decode cX12_init 351 = .ok (.iconst 3, 1) := by decide +kernel
theorem dX12_init_352 : decode cX12_init 352 = .ok (.iastore, 1) := by decide +kernel
theorem dX12_init_353 : decode cX12_init 353 = .ok (.return_, 1) := by decide +kernel
theorem dX12_thrown_0 : decode cX12_thrown 0 = .ok (.aload_n 0, 1) := by decide +kernel
theorem dX12_thrown_1 : decode cX12_thrown 1 = .ok (.getfield 142, 3) := by decide +kernel
theorem dX12_thrown_4 : decode cX12_thrown 4 = .ok (.ireturn, 1) := by decide +kernel
theorem dX12_fail_0 : decode cX12_fail 0 = .ok (.aload_n 0, 1) := by decide +kernel
theorem dX12_fail_1 : decode cX12_fail 1 = .ok (.iload_n 1, 1) := by decide +kernel
theorem dX12_fail_2 : decode cX12_fail 2 = .ok (.putfield 142, 3) := by decide +kernel
theorem dX12_fail_5 : decode cX12_fail 5 = .ok (.iconst 0, 1) := by decide +kernel
theorem dX12_fail_6 : decode cX12_fail 6 = .ok (.ireturn, 1) := by decide +kernel
theorem dX12_failing_0 : decode cX12_failing 0 = .ok (.aload_n 0, 1) := by decide +kernel
theorem dX12_failing_1 : decode cX12_failing 1 = .ok (.iload_n 1, 1) := by decide +kernel
theorem dX12_failing_2 : decode cX12_failing 2 = .ok (.putfield 142, 3) := by decide +kernel
theorem dX12_failing_5 : decode cX12_failing 5 = .ok (.iconst 0, 1) := by decide +kernel
theorem dX12_failing_6 : decode cX12_failing 6 = .ok (.ireturn, 1) := by decide +kernel
theorem dX12_isIn_0 : decode cX12_isIn 0 = .ok (.lload_n 0, 1) := by decide +kernel
theorem dX12_isIn_1 : decode cX12_isIn 1 = .ok (.lload_n 2, 1) := by decide +kernel
theorem dX12_isIn_2 : decode cX12_isIn 2 = .ok (.lcmp, 1) := by decide +kernel
theorem dX12_isIn_3 : decode cX12_isIn 3 = .ok (.ifCond .lt 14, 3) := by decide +kernel
theorem dX12_isIn_6 : decode cX12_isIn 6 = .ok (.lload_n 0, 1) := by decide +kernel
theorem dX12_isIn_7 : decode cX12_isIn 7 = .ok (.lload 4, 2) := by decide +kernel
theorem dX12_isIn_9 : decode cX12_isIn 9 = .ok (.lcmp, 1) := by decide +kernel
theorem dX12_isIn_10 : decode cX12_isIn 10 = .ok (.ifCond .gt 7, 3) := by decide +kernel
theorem dX12_isIn_13 : decode cX12_isIn 13 = .ok (.iconst 1, 1) := by decide +kernel
theorem dX12_isIn_14 : decode cX12_isIn 14 = .ok (.goto 4, 3) := by decide +kernel
theorem dX12_isIn_17 : decode cX12_isIn 17 = .ok (.iconst 0, 1) := by decide +kernel
theorem dX12_isIn_18 : decode cX12_isIn 18 = .ok (.ireturn, 1) := by decide +kernel
theorem dX12_isOf_0 : decode cX12_isOf 0 = .ok (.iload_n 0, 1) := by decide +kernel
theorem dX12_isOf_1 : decode cX12_isOf 1 = .ok (.iload_n 1, 1) := by decide +kernel
theorem dX12_isOf_2 : decode cX12_isOf 2 = .ok (.ishr, 1) := by decide +kernel
theorem dX12_isOf_3 : decode cX12_isOf 3 = .ok (.iconst 1, 1) := by decide +kernel
theorem dX12_isOf_4 : decode cX12_isOf 4 = .ok (.iand, 1) := by decide +kernel
theorem dX12_isOf_5 : decode cX12_isOf 5 = .ok (.iconst 1, 1) := by decide +kernel
theorem dX12_isOf_6 : decode cX12_isOf 6 = .ok (.if_icmp .ne 7, 3) := by decide +kernel
theorem dX12_isOf_9 : decode cX12_isOf 9 = .ok (.iconst 1, 1) := by decide +kernel
theorem dX12_isOf_10 : decode cX12_isOf 10 = .ok (.goto 4, 3) := by decide +kernel
theorem dX12_isOf_13 : decode cX12_isOf 13 = .ok (.iconst 0, 1) := by decide +kernel
theorem dX12_isOf_14 : decode cX12_isOf 14 = .ok (.ireturn, 1) := by decide +kernel
theorem dX12_bitsOf_0 : decode cX12_bitsOf 0 = .ok (.iconst 0, 1) := by decide +kernel
theorem dX12_bitsOf_1 : decode cX12_bitsOf 1 = .ok (.istore_n 1, 1) := by decide +kernel
theorem dX12_bitsOf_2 : decode cX12_bitsOf 2 = .ok (.iload_n 0, 1) := by decide +kernel
theorem dX12_bitsOf_3 : decode cX12_bitsOf 3 = .ok (.istore_n 2, 1) := by decide +kernel
theorem dX12_bitsOf_4 : decode cX12_bitsOf 4 = .ok (.iload_n 2, 1) := by decide +kernel
theorem dX12_bitsOf_5 : decode cX12_bitsOf 5 = .ok (.ifCond .eq 15, 3) := by decide +kernel
theorem dX12_bitsOf_8 : decode cX12_bitsOf 8 = .ok (.iinc 1 1, 3) := by decide +kernel
theorem dX12_bitsOf_11 : decode cX12_bitsOf 11 = .ok (.iload_n 2, 1) := by decide +kernel
theorem dX12_bitsOf_12 : decode cX12_bitsOf 12 = .ok (.iload_n 2, 1) := by decide +kernel
theorem dX12_bitsOf_13 : decode cX12_bitsOf 13 = .ok (.iconst 1, 1) := by decide +kernel
theorem dX12_bitsOf_14 : decode cX12_bitsOf 14 = .ok (.isub, 1) := by decide +kernel
theorem dX12_bitsOf_15 : decode cX12_bitsOf 15 = .ok (.iand, 1) := by decide +kernel
theorem dX12_bitsOf_16 : decode cX12_bitsOf 16 = .ok (.istore_n 2, 1) := by decide +kernel
theorem dX12_bitsOf_17 : decode cX12_bitsOf 17 = .ok (.goto (-13), 3) := by decide +kernel
theorem dX12_bitsOf_20 : decode cX12_bitsOf 20 = .ok (.iload_n 1, 1) := by decide +kernel
theorem dX12_bitsOf_21 : decode cX12_bitsOf 21 = .ok (.ireturn, 1) := by decide +kernel
set_option maxRecDepth 20000 in
theorem ggX12_isFarm_X12_isIn : GoodIn wsX12_isFarm wsX12_isIn := goodIn_r _ [5] (by decide +kernel) (by decide +kernel)
set_option maxRecDepth 20000 in
theorem gX12_isFarm_X12_isIn : GoodIn wsX12_isFarm (va_wsS RX12 145 yX12_isIn wsX12_isIn) := goodIn_app (goodIn_of _ (by decide +kernel)) ggX12_isFarm_X12_isIn
theorem dX12_isFarm_0 : decode cX12_isFarm 0 = .ok (.iload_n 1, 1) := by decide +kernel
theorem dX12_isFarm_1 : decode cX12_isFarm 1 = .ok (.i2l, 1) := by decide +kernel
theorem dX12_isFarm_2 : decode cX12_isFarm 2 = .ok (.lconst 0, 1) := by decide +kernel
theorem dX12_isFarm_3 : decode cX12_isFarm 3 = .ok (.aload_n 0, 1) := by decide +kernel
theorem dX12_isFarm_4 : decode cX12_isFarm 4 = .ok (.getfield 34, 3) := by decide +kernel
theorem dX12_isFarm_7 : decode cX12_isFarm 7 = .ok (.iconst 0, 1) := by decide +kernel
theorem dX12_isFarm_8 : decode cX12_isFarm 8 = .ok (.iaload, 1) := by decide +kernel
theorem dX12_isFarm_9 : decode cX12_isFarm 9 = .ok (.iconst 1, 1) := by decide +kernel
theorem dX12_isFarm_10 : decode cX12_isFarm 10 = .ok (.isub, 1) := by decide +kernel
theorem dX12_isFarm_11 : decode cX12_isFarm 11 = .ok (.i2l, 1) := by decide +kernel
theorem dX12_isFarm_12 : decode cX12_isFarm 12 = .ok (.invokestatic 145, 3) := by decide +kernel
theorem dX12_isFarm_15 : decode cX12_isFarm 15 = .ok (.ireturn, 1) := by decide +kernel
theorem dX12_all_0 : decode cX12_all 0 = .ok (.iconst 1, 1) := by decide +kernel
theorem dX12_all_1 : decode cX12_all 1 = .ok (.aload_n 0, 1) := by decide +kernel
theorem dX12_all_2 : decode cX12_all 2 = .ok (.getfield 34, 3) := by decide +kernel
theorem dX12_all_5 : decode cX12_all 5 = .ok (.iconst 0, 1) := by decide +kernel
theorem dX12_all_6 : decode cX12_all 6 = .ok (.iaload, 1) := by decide +kernel
theorem dX12_all_7 : decode cX12_all 7 = .ok (.ishl, 1) := by decide +kernel
theorem dX12_all_8 : decode cX12_all 8 = .ok (.iconst 1, 1) := by decide +kernel
theorem dX12_all_9 : decode cX12_all 9 = .ok (.isub, 1) := by decide +kernel
theorem dX12_all_10 : decode cX12_all 10 = .ok (.ireturn, 1) := by decide +kernel
theorem dX12_feed_0 : decode cX12_feed 0 = .ok (.aload_n 0, 1) := by decide +kernel
theorem dX12_feed_1 : decode cX12_feed 1 = .ok (.iconst 0, 1) := by decide +kernel
theorem dX12_feed_2 : decode cX12_feed 2 = .ok (.putfield 142, 3) := by decide +kernel
theorem dX12_feed_5 : decode cX12_feed 5 = .ok (.aload_n 0, 1) := by decide +kernel
theorem dX12_feed_6 : decode cX12_feed 6 = .ok (.getfield 149, 3) := by decide +kernel
theorem dX12_feed_9 : decode cX12_feed 9 = .ok (.bipush 20, 2) := by decide +kernel
theorem dX12_feed_11 : decode cX12_feed 11 = .ok (.iadd, 1) := by decide +kernel
theorem dX12_feed_12 : decode cX12_feed 12 = .ok (.sipush 700, 3) := by decide +kernel
theorem dX12_feed_15 : decode cX12_feed 15 = .ok (.if_icmp .le 5, 3) := by decide +kernel
theorem dX12_feed_18 : decode cX12_feed 18 = .ok (.iconst (-1), 1) := by decide +kernel
theorem dX12_feed_19 : decode cX12_feed 19 = .ok (.ireturn, 1) := by decide +kernel
theorem dX12_feed_20 : decode cX12_feed 20 = .ok (.iconst 0, 1) := by decide +kernel
theorem dX12_feed_21 : decode cX12_feed 21 = .ok (.istore 6, 2) := by decide +kernel
theorem dX12_feed_23 : decode cX12_feed 23 = .ok (.iload 6, 2) := by decide +kernel
theorem dX12_feed_25 : decode cX12_feed 25 = .ok (.bipush 20, 2) := by decide +kernel
theorem dX12_feed_27 : decode cX12_feed 27 = .ok (.if_icmp .ge 93, 3) := by decide +kernel
theorem dX12_feed_30 : decode cX12_feed 30 = .ok (.iload 6, 2) := by decide +kernel
theorem dX12_feed_32 : decode cX12_feed 32 = .ok (.iconst 4, 1) := by decide +kernel
theorem dX12_feed_33 : decode cX12_feed 33 = .ok (.if_icmp .ge 7, 3) := by decide +kernel
theorem dX12_feed_36 : decode cX12_feed 36 = .ok (.iload_n 1, 1) := by decide +kernel
theorem dX12_feed_37 : decode cX12_feed 37 = .ok (.goto 39, 3) := by decide +kernel
theorem dX12_feed_40 : decode cX12_feed 40 = .ok (.iload 6, 2) := by decide +kernel
theorem dX12_feed_42 : decode cX12_feed 42 = .ok (.bipush 8, 2) := by decide +kernel
theorem dX12_feed_44 : decode cX12_feed 44 = .ok (.if_icmp .ge 7, 3) := by decide +kernel
theorem dX12_feed_47 : decode cX12_feed 47 = .ok (.iload_n 2, 1) := by decide +kernel
theorem dX12_feed_48 : decode cX12_feed 48 = .ok (.goto 28, 3) := by decide +kernel
theorem dX12_feed_51 : decode cX12_feed 51 = .ok (.iload 6, 2) := by decide +kernel
theorem dX12_feed_53 : decode cX12_feed 53 = .ok (.bipush 12, 2) := by decide +kernel
theorem dX12_feed_55 : decode cX12_feed 55 = .ok (.if_icmp .ge 7, 3) := by decide +kernel
theorem dX12_feed_58 : decode cX12_feed 58 = .ok (.iload_n 3, 1) := by decide +kernel
theorem dX12_feed_59 : decode cX12_feed 59 = .ok (.goto 17, 3) := by decide +kernel
theorem dX12_feed_62 : decode cX12_feed 62 = .ok (.iload 6, 2) := by decide +kernel
theorem dX12_feed_64 : decode cX12_feed 64 = .ok (.bipush 16, 2) := by decide +kernel
theorem dX12_feed_66 : decode cX12_feed 66 = .ok (.if_icmp .ge 8, 3) := by decide +kernel
theorem dX12_feed_69 : decode cX12_feed 69 = .ok (.iload 4, 2) := by decide +kernel
theorem dX12_feed_71 : decode cX12_feed 71 = .ok (.goto 5, 3) := by decide +kernel
theorem dX12_feed_74 : decode cX12_feed 74 = .ok (.iload 5, 2) := by decide +kernel
theorem dX12_feed_76 : decode cX12_feed 76 = .ok (.istore 7, 2) := by decide +kernel
theorem dX12_feed_78 : decode cX12_feed 78 = .ok (.aload_n 0, 1) := by decide +kernel
theorem dX12_feed_79 : decode cX12_feed 79 = .ok (.getfield 62, 3) := by decide +kernel
theorem dX12_feed_82 : decode cX12_feed 82 = .ok (.aload_n 0, 1) := by decide +kernel
theorem dX12_feed_83 : decode cX12_feed 83 = .ok (.getfield 149, 3) := by decide +kernel
theorem dX12_feed_86 : decode cX12_feed 86 = .ok (.iload 7, 2) := by decide +kernel
theorem dX12_feed_88 : decode cX12_feed 88 = .ok (.bipush 24, 2) := by decide +kernel
theorem dX12_feed_90 : decode cX12_feed 90 = .ok (.bipush 8, 2) := by decide +kernel
theorem dX12_feed_92 : decode cX12_feed 92 = .ok (.iload 6, 2) := by decide +kernel
theorem dX12_feed_94 : decode cX12_feed 94 = .ok (.iconst 4, 1) := by decide +kernel
theorem dX12_feed_95 : decode cX12_feed 95 = .ok (.irem, 1) := by decide +kernel
theorem dX12_feed_96 : decode cX12_feed 96 = .ok (.imul, 1) := by decide +kernel
theorem dX12_feed_97 : decode cX12_feed 97 = .ok (.isub, 1) := by decide +kernel
theorem dX12_feed_98 : decode cX12_feed 98 = .ok (.ishr, 1) := by decide +kernel
theorem dX12_feed_99 : decode cX12_feed 99 = .ok (.sipush 255, 3) := by decide +kernel
theorem dX12_feed_102 : decode cX12_feed 102 = .ok (.iand, 1) := by decide +kernel
theorem dX12_feed_103 : decode cX12_feed 103 = .ok (.iastore, 1) := by decide +kernel
theorem dX12_feed_104 : decode cX12_feed 104 = .ok (.aload_n 0, 1) := by decide +kernel
theorem dX12_feed_105 : decode cX12_feed 105 = .ok (.dup, 1) := by decide +kernel
theorem dX12_feed_106 : decode cX12_feed 106 = .ok (.getfield 149, 3) := by decide +kernel
theorem dX12_feed_109 : decode cX12_feed 109 = .ok (.iconst 1, 1) := by decide +kernel
theorem dX12_feed_110 : decode cX12_feed 110 = .ok (.iadd, 1) := by decide +kernel
theorem dX12_feed_111 : decode cX12_feed 111 = .ok (.putfield 149, 3) := by decide +kernel
theorem dX12_feed_114 : decode cX12_feed 114 = .ok (.iinc 6 1, 3) := by decide +kernel
theorem dX12_feed_117 : decode cX12_feed 117 = .ok (.goto (-94), 3) := by decide +kernel
theorem dX12_feed_120 : decode cX12_feed 120 = .ok (.aload_n 0, 1) := by decide +kernel
theorem dX12_feed_121 : decode cX12_feed 121 = .ok (.getfield 149, 3) := by decide +kernel
theorem dX12_feed_124 : decode cX12_feed 124 = .ok (.ireturn, 1) := by decide +kernel
theorem dX12_byteAt_0 : decode cX12_byteAt 0 = .ok (.iload_n 1, 1) := by decide +kernel
theorem dX12_byteAt_1 : decode cX12_byteAt 1 = .ok (.aload_n 0, 1) := by decide +kernel
theorem dX12_byteAt_2 : decode cX12_byteAt 2 = .ok (.getfield 152, 3) := by decide +kernel
theorem dX12_byteAt_5 : decode cX12_byteAt 5 = .ok (.if_icmp .ge 12, 3) := by decide +kernel
theorem dX12_byteAt_8 : decode cX12_byteAt 8 = .ok (.aload_n 0, 1) := by decide +kernel
theorem dX12_byteAt_9 : decode cX12_byteAt 9 = .ok (.getfield 62, 3) := by decide +kernel
theorem dX12_byteAt_12 : decode cX12_byteAt 12 = .ok (.iload_n 1, 1) := by decide +kernel
theorem dX12_byteAt_13 : decode cX12_byteAt 13 = .ok (.iaload, 1) := by decide +kernel
theorem dX12_byteAt_14 : decode cX12_byteAt 14 = .ok (.goto 4, 3) := by decide +kernel
theorem dX12_byteAt_17 : decode cX12_byteAt 17 = .ok (.iconst (-1), 1) := by decide +kernel
theorem dX12_byteAt_18 : decode cX12_byteAt 18 = .ok (.ireturn, 1) := by decide +kernel
theorem dX12_isLetter_0 : decode cX12_isLetter 0 = .ok (.iload_n 0, 1) := by decide +kernel
theorem dX12_isLetter_1 : decode cX12_isLetter 1 = .ok (.bipush 97, 2) := by decide +kernel
theorem dX12_isLetter_3 : decode cX12_isLetter 3 = .ok (.if_icmp .lt 13, 3) := by decide +kernel
theorem dX12_isLetter_6 : decode cX12_isLetter 6 = .ok (.iload_n 0, 1) := by decide +kernel
theorem dX12_isLetter_7 : decode cX12_isLetter 7 = .ok (.bipush 122, 2) := by decide +kernel
theorem dX12_isLetter_9 : decode cX12_isLetter 9 = .ok (.if_icmp .gt 7, 3) := by decide +kernel
theorem dX12_isLetter_12 : decode cX12_isLetter 12 = .ok (.iconst 1, 1) := by decide +kernel
theorem dX12_isLetter_13 : decode cX12_isLetter 13 = .ok (.goto 4, 3) := by decide +kernel
theorem dX12_isLetter_16 : decode cX12_isLetter 16 = .ok (.iconst 0, 1) := by decide +kernel
theorem dX12_isLetter_17 : decode cX12_isLetter 17 = .ok (.ireturn, 1) := by decide +kernel
theorem dX12_isDigit_0 : decode cX12_isDigit 0 = .ok (.iload_n 0, 1) := by decide +kernel
theorem dX12_isDigit_1 : decode cX12_isDigit 1 = .ok (.bipush 48, 2) := by decide +kernel
theorem dX12_isDigit_3 : decode cX12_isDigit 3 = .ok (.if_icmp .lt 13, 3) := by decide +kernel
theorem dX12_isDigit_6 : decode cX12_isDigit 6 = .ok (.iload_n 0, 1) := by decide +kernel
theorem dX12_isDigit_7 : decode cX12_isDigit 7 = .ok (.bipush 57, 2) := by decide +kernel
theorem dX12_isDigit_9 : decode cX12_isDigit 9 = .ok (.if_icmp .gt 7, 3) := by decide +kernel
theorem dX12_isDigit_12 : decode cX12_isDigit 12 = .ok (.iconst 1, 1) := by decide +kernel
theorem dX12_isDigit_13 : decode cX12_isDigit 13 = .ok (.goto 4, 3) := by decide +kernel
theorem dX12_isDigit_16 : decode cX12_isDigit 16 = .ok (.iconst 0, 1) := by decide +kernel
theorem dX12_isDigit_17 : decode cX12_isDigit 17 = .ok (.ireturn, 1) := by decide +kernel
theorem dX12_isMark_0 : decode cX12_isMark 0 = .ok (.iload_n 0, 1) := by decide +kernel
theorem dX12_isMark_1 : decode cX12_isMark 1 = .ok (.bipush 59, 2) := by decide +kernel
theorem dX12_isMark_3 : decode cX12_isMark 3 = .ok (.if_icmp .eq 51, 3) := by decide +kernel
theorem dX12_isMark_6 : decode cX12_isMark 6 = .ok (.iload_n 0, 1) := by decide +kernel
theorem dX12_isMark_7 : decode cX12_isMark 7 = .ok (.bipush 40, 2) := by decide +kernel
theorem dX12_isMark_9 : decode cX12_isMark 9 = .ok (.if_icmp .eq 45, 3) := by decide +kernel
theorem dX12_isMark_12 : decode cX12_isMark 12 = .ok (.iload_n 0, 1) := by decide +kernel
theorem dX12_isMark_13 : decode cX12_isMark 13 = .ok (.bipush 41, 2) := by decide +kernel
theorem dX12_isMark_15 : decode cX12_isMark 15 = .ok (.if_icmp .eq 39, 3) := by decide +kernel
theorem dX12_isMark_18 : decode cX12_isMark 18 = .ok (.iload_n 0, 1) := by decide +kernel
theorem dX12_isMark_19 : decode cX12_isMark 19 = .ok (.bipush 43, 2) := by decide +kernel
theorem dX12_isMark_21 : decode cX12_isMark 21 = .ok (.if_icmp .eq 33, 3) := by decide +kernel
theorem dX12_isMark_24 : decode cX12_isMark 24 = .ok (.iload_n 0, 1) := by decide +kernel
theorem dX12_isMark_25 : decode cX12_isMark 25 = .ok (.bipush 45, 2) := by decide +kernel
theorem dX12_isMark_27 : decode cX12_isMark 27 = .ok (.if_icmp .eq 27, 3) := by decide +kernel
theorem dX12_isMark_30 : decode cX12_isMark 30 = .ok (.iload_n 0, 1) := by decide +kernel
theorem dX12_isMark_31 : decode cX12_isMark 31 = .ok (.bipush 42, 2) := by decide +kernel
theorem dX12_isMark_33 : decode cX12_isMark 33 = .ok (.if_icmp .eq 21, 3) := by decide +kernel
theorem dX12_isMark_36 : decode cX12_isMark 36 = .ok (.iload_n 0, 1) := by decide +kernel
theorem dX12_isMark_37 : decode cX12_isMark 37 = .ok (.bipush 47, 2) := by decide +kernel
theorem dX12_isMark_39 : decode cX12_isMark 39 = .ok (.if_icmp .eq 15, 3) := by decide +kernel
theorem dX12_isMark_42 : decode cX12_isMark 42 = .ok (.iload_n 0, 1) := by decide +kernel
theorem dX12_isMark_43 : decode cX12_isMark 43 = .ok (.bipush 60, 2) := by decide +kernel
theorem dX12_isMark_45 : decode cX12_isMark 45 = .ok (.if_icmp .eq 9, 3) := by decide +kernel
theorem dX12_isMark_48 : decode cX12_isMark 48 = .ok (.iload_n 0, 1) := by decide +kernel
theorem dX12_isMark_49 : decode cX12_isMark 49 = .ok (.bipush 61, 2) := by decide +kernel
theorem dX12_isMark_51 : decode cX12_isMark 51 = .ok (.if_icmp .ne 7, 3) := by decide +kernel
theorem dX12_isMark_54 : decode cX12_isMark 54 = .ok (.iconst 1, 1) := by decide +kernel
theorem dX12_isMark_55 : decode cX12_isMark 55 = .ok (.goto 4, 3) := by decide +kernel
theorem dX12_isMark_58 : decode cX12_isMark 58 = .ok (.iconst 0, 1) := by decide +kernel
theorem dX12_isMark_59 : decode cX12_isMark 59 = .ok (.ireturn, 1) := by decide +kernel
set_option maxRecDepth 20000 in
theorem ggX12_stepOn_X12_byteAt : GoodIn wsX12_stepOn wsX12_byteAt := goodIn_r _ [15, 16, 17, 27, 28, 29, 30, 31, 32, 33, 34, 35, 36, 37, 38, 39, 40, 41, 42, 43, 44, 45, 46, 47, 48, 49, 50, 51, 52, 53, 54, 55, 56, 57, 58, 59, 60, 61, 62, 63, 64, 65, 66, 67, 68, 69, 70, 71, 72, 73, 74, 75, 76, 77, 78, 79, 80, 81, 82, 83] (by decide +kernel) (by decide +kernel)
set_option maxRecDepth 20000 in
theorem gX12_stepOn_X12_byteAt : GoodIn wsX12_stepOn (wsV RX12 158 RX12 yX12_byteAt wsX12_byteAt) := goodIn_app (goodIn_of _ (by decide +kernel)) ggX12_stepOn_X12_byteAt
set_option maxRecDepth 20000 in
theorem ggX12_stepOn_X12_isLetter : GoodIn wsX12_stepOn wsX12_isLetter := goodIn_r _ [20] (by decide +kernel) (by decide +kernel)
set_option maxRecDepth 20000 in
theorem gX12_stepOn_X12_isLetter : GoodIn wsX12_stepOn (va_wsS RX12 168 yX12_isLetter wsX12_isLetter) := goodIn_app (goodIn_of _ (by decide +kernel)) ggX12_stepOn_X12_isLetter
set_option maxRecDepth 20000 in
theorem ggX12_stepOn_X12_isDigit : GoodIn wsX12_stepOn wsX12_isDigit := goodIn_r _ [23] (by decide +kernel) (by decide +kernel)
set_option maxRecDepth 20000 in
theorem gX12_stepOn_X12_isDigit : GoodIn wsX12_stepOn (va_wsS RX12 172 yX12_isDigit wsX12_isDigit) := goodIn_app (goodIn_of _ (by decide +kernel)) ggX12_stepOn_X12_isDigit
set_option maxRecDepth 20000 in
theorem ggX12_stepOn_X12_isMark : GoodIn wsX12_stepOn wsX12_isMark := goodIn_r _ [26] (by decide +kernel) (by decide +kernel)
set_option maxRecDepth 20000 in
theorem gX12_stepOn_X12_isMark : GoodIn wsX12_stepOn (va_wsS RX12 185 yX12_isMark wsX12_isMark) := goodIn_app (goodIn_of _ (by decide +kernel)) ggX12_stepOn_X12_isMark
theorem dX12_stepOn_0 : decode cX12_stepOn 0 = .ok (.aload_n 0, 1) := by decide +kernel
theorem dX12_stepOn_1 : decode cX12_stepOn 1 = .ok (.aload_n 0, 1) := by decide +kernel
theorem dX12_stepOn_2 : decode cX12_stepOn 2 = .ok (.getfield 155, 3) := by decide +kernel
theorem dX12_stepOn_5 : decode cX12_stepOn 5 = .ok (.invokevirtual 158, 3) := by decide +kernel
theorem dX12_stepOn_8 : decode cX12_stepOn 8 = .ok (.bipush 32, 2) := by decide +kernel
theorem dX12_stepOn_10 : decode cX12_stepOn 10 = .ok (.if_icmp .eq 16, 3) := by decide +kernel
theorem dX12_stepOn_13 : decode cX12_stepOn 13 = .ok (.aload_n 0, 1) := by decide +kernel
theorem dX12_stepOn_14 : decode cX12_stepOn 14 = .ok (.aload_n 0, 1) := by decide +kernel
theorem dX12_stepOn_15 : decode cX12_stepOn 15 = .ok (.getfield 155, 3) := by decide +kernel
theorem dX12_stepOn_18 : decode cX12_stepOn 18 = .ok (.invokevirtual 158, 3) := by decide +kernel
theorem dX12_stepOn_21 : decode cX12_stepOn 21 = .ok (.bipush 10, 2) := by decide +kernel
theorem dX12_stepOn_23 : decode cX12_stepOn 23 = .ok (.if_icmp .ne 16, 3) := by decide +kernel
theorem dX12_stepOn_26 : decode cX12_stepOn 26 = .ok (.aload_n 0, 1) := by decide +kernel
theorem dX12_stepOn_27 : decode cX12_stepOn 27 = .ok (.dup, 1) := by decide +kernel
theorem dX12_stepOn_28 : decode cX12_stepOn 28 = .ok (.getfield 155, 3) := by decide +kernel
theorem dX12_stepOn_31 : decode cX12_stepOn 31 = .ok (.iconst 1, 1) := by decide +kernel
theorem dX12_stepOn_32 : decode cX12_stepOn 32 = .ok (.iadd, 1) := by decide +kernel
theorem dX12_stepOn_33 : decode cX12_stepOn 33 = .ok (.putfield 155, 3) := by decide +kernel
theorem dX12_stepOn_36 : decode cX12_stepOn 36 = .ok (.goto (-36), 3) := by decide +kernel
theorem dX12_stepOn_39 : decode cX12_stepOn 39 = .ok (.aload_n 0, 1) := by decide +kernel
theorem dX12_stepOn_40 : decode cX12_stepOn 40 = .ok (.aload_n 0, 1) := by decide +kernel
theorem dX12_stepOn_41 : decode cX12_stepOn 41 = .ok (.getfield 155, 3) := by decide +kernel
theorem dX12_stepOn_44 : decode cX12_stepOn 44 = .ok (.putfield 162, 3) := by decide +kernel
theorem dX12_stepOn_47 : decode cX12_stepOn 47 = .ok (.aload_n 0, 1) := by decide +kernel
theorem dX12_stepOn_48 : decode cX12_stepOn 48 = .ok (.aload_n 0, 1) := by decide +kernel
theorem dX12_stepOn_49 : decode cX12_stepOn 49 = .ok (.getfield 155, 3) := by decide +kernel
theorem dX12_stepOn_52 : decode cX12_stepOn 52 = .ok (.invokevirtual 158, 3) := by decide +kernel
theorem dX12_stepOn_55 : decode cX12_stepOn 55 = .ok (.istore_n 1, 1) := by decide +kernel
theorem dX12_stepOn_56 : decode cX12_stepOn 56 = .ok (.iload_n 1, 1) := by decide +kernel
theorem dX12_stepOn_57 : decode cX12_stepOn 57 = .ok (.iconst (-1), 1) := by decide +kernel
theorem dX12_stepOn_58 : decode cX12_stepOn 58 = .ok (.if_icmp .ne 11, 3) := by decide +kernel
theorem dX12_stepOn_61 : decode cX12_stepOn 61 = .ok (.aload_n 0, 1) := by decide +kernel
theorem dX12_stepOn_62 : decode cX12_stepOn 62 = .ok (.iconst 0, 1) := by decide +kernel
theorem dX12_stepOn_63 : decode cX12_stepOn 63 = .ok (.putfield 165, 3) := by decide +kernel
theorem dX12_stepOn_66 : decode cX12_stepOn 66 = .ok (.goto 146, 3) := by decide +kernel
theorem dX12_stepOn_69 : decode cX12_stepOn 69 = .ok (.iload_n 1, 1) := by decide +kernel
theorem dX12_stepOn_70 : decode cX12_stepOn 70 = .ok (.invokestatic 168, 3) := by decide +kernel
theorem dX12_stepOn_73 : decode cX12_stepOn 73 = .ok (.ifCond .eq 38, 3) := by decide +kernel
theorem dX12_stepOn_76 : decode cX12_stepOn 76 = .ok (.aload_n 0, 1) := by decide +kernel
theorem dX12_stepOn_77 : decode cX12_stepOn 77 = .ok (.aload_n 0, 1) := by decide +kernel
theorem dX12_stepOn_78 : decode cX12_stepOn 78 = .ok (.getfield 155, 3) := by decide +kernel
theorem dX12_stepOn_81 : decode cX12_stepOn 81 = .ok (.invokevirtual 158, 3) := by decide +kernel
theorem dX12_stepOn_84 : decode cX12_stepOn 84 = .ok (.invokestatic 168, 3) := by decide +kernel
theorem dX12_stepOn_87 : decode cX12_stepOn 87 = .ok (.ifCond .eq 16, 3) := by decide +kernel
theorem dX12_stepOn_90 : decode cX12_stepOn 90 = .ok (.aload_n 0, 1) := by decide +kernel
theorem dX12_stepOn_91 : decode cX12_stepOn 91 = .ok (.dup, 1) := by decide +kernel
theorem dX12_stepOn_92 : decode cX12_stepOn 92 = .ok (.getfield 155, 3) := by decide +kernel
theorem dX12_stepOn_95 : decode cX12_stepOn 95 = .ok (.iconst 1, 1) := by decide +kernel
theorem dX12_stepOn_96 : decode cX12_stepOn 96 = .ok (.iadd, 1) := by decide +kernel
theorem dX12_stepOn_97 : decode cX12_stepOn 97 = .ok (.putfield 155, 3) := by decide +kernel
theorem dX12_stepOn_100 : decode cX12_stepOn 100 = .ok (.goto (-24), 3) := by decide +kernel
theorem dX12_stepOn_103 : decode cX12_stepOn 103 = .ok (.aload_n 0, 1) := by decide +kernel
theorem dX12_stepOn_104 : decode cX12_stepOn 104 = .ok (.iconst 1, 1) := by decide +kernel
theorem dX12_stepOn_105 : decode cX12_stepOn 105 = .ok (.putfield 165, 3) := by decide +kernel
theorem dX12_stepOn_108 : decode cX12_stepOn 108 = .ok (.goto 104, 3) := by decide +kernel
theorem dX12_stepOn_111 : decode cX12_stepOn 111 = .ok (.iload_n 1, 1) := by decide +kernel
theorem dX12_stepOn_112 : decode cX12_stepOn 112 = .ok (.invokestatic 172, 3) := by decide +kernel
theorem dX12_stepOn_115 : decode cX12_stepOn 115 = .ok (.ifCond .eq 71, 3) := by decide +kernel
theorem dX12_stepOn_118 : decode cX12_stepOn 118 = .ok (.aload_n 0, 1) := by decide +kernel
theorem dX12_stepOn_119 : decode cX12_stepOn 119 = .ok (.iconst 0, 1) := by decide +kernel
theorem dX12_stepOn_120 : decode cX12_stepOn 120 = .ok (.putfield 175, 3) := by decide +kernel
theorem dX12_stepOn_123 : decode cX12_stepOn 123 = .ok (.aload_n 0, 1) := by decide +kernel
theorem dX12_stepOn_124 : decode cX12_stepOn 124 = .ok (.aload_n 0, 1) := by decide +kernel
theorem dX12_stepOn_125 : decode cX12_stepOn 125 = .ok (.getfield 155, 3) := by decide +kernel
theorem dX12_stepOn_128 : decode cX12_stepOn 128 = .ok (.invokevirtual 158, 3) := by decide +kernel
theorem dX12_stepOn_131 : decode cX12_stepOn 131 = .ok (.invokestatic 172, 3) := by decide +kernel
theorem dX12_stepOn_134 : decode cX12_stepOn 134 = .ok (.ifCond .eq 44, 3) := by decide +kernel
theorem dX12_stepOn_137 : decode cX12_stepOn 137 = .ok (.aload_n 0, 1) := by decide +kernel
theorem dX12_stepOn_138 : decode cX12_stepOn 138 = .ok (.ldc 178, 2) := by decide +kernel
theorem dX12_stepOn_140 : decode cX12_stepOn 140 = .ok (.bipush 10, 2) := by decide +kernel
theorem dX12_stepOn_142 : decode cX12_stepOn 142 = .ok (.aload_n 0, 1) := by decide +kernel
theorem dX12_stepOn_143 : decode cX12_stepOn 143 = .ok (.getfield 175, 3) := by decide +kernel
theorem dX12_stepOn_146 : decode cX12_stepOn 146 = .ok (.imul, 1) := by decide +kernel
theorem dX12_stepOn_147 : decode cX12_stepOn 147 = .ok (.aload_n 0, 1) := by decide +kernel
theorem dX12_stepOn_148 : decode cX12_stepOn 148 = .ok (.aload_n 0, 1) := by decide +kernel
theorem dX12_stepOn_149 : decode cX12_stepOn 149 = .ok (.getfield 155, 3) := by decide +kernel
theorem dX12_stepOn_152 : decode cX12_stepOn 152 = .ok (.invokevirtual 158, 3) := by decide +kernel
theorem dX12_stepOn_155 : decode cX12_stepOn 155 = .ok (.iadd, 1) := by decide +kernel
theorem dX12_stepOn_156 : decode cX12_stepOn 156 = .ok (.bipush 48, 2) := by decide +kernel
theorem dX12_stepOn_158 : decode cX12_stepOn 158 = .ok (.isub, 1) := by decide +kernel
theorem dX12_stepOn_159 : decode cX12_stepOn 159 = .ok (.invokestatic 179, 3) := by decide +kernel
theorem dX12_stepOn_162 : decode cX12_stepOn 162 = .ok (.putfield 175, 3) := by decide +kernel
theorem dX12_stepOn_165 : decode cX12_stepOn 165 = .ok (.aload_n 0, 1) := by decide +kernel
theorem dX12_stepOn_166 : decode cX12_stepOn 166 = .ok (.dup, 1) := by decide +kernel
theorem dX12_stepOn_167 : decode cX12_stepOn 167 = .ok (.getfield 155, 3) := by decide +kernel
theorem dX12_stepOn_170 : decode cX12_stepOn 170 = .ok (.iconst 1, 1) := by decide +kernel
theorem dX12_stepOn_171 : decode cX12_stepOn 171 = .ok (.iadd, 1) := by decide +kernel
theorem dX12_stepOn_172 : decode cX12_stepOn 172 = .ok (.putfield 155, 3) := by decide +kernel
theorem dX12_stepOn_175 : decode cX12_stepOn 175 = .ok (.goto (-52), 3) := by decide +kernel
theorem dX12_stepOn_178 : decode cX12_stepOn 178 = .ok (.aload_n 0, 1) := by decide +kernel
theorem dX12_stepOn_179 : decode cX12_stepOn 179 = .ok (.iconst 2, 1) := by decide +kernel
theorem dX12_stepOn_180 : decode cX12_stepOn 180 = .ok (.putfield 165, 3) := by decide +kernel
theorem dX12_stepOn_183 : decode cX12_stepOn 183 = .ok (.goto 29, 3) := by decide +kernel
theorem dX12_stepOn_186 : decode cX12_stepOn 186 = .ok (.aload_n 0, 1) := by decide +kernel
theorem dX12_stepOn_187 : decode cX12_stepOn 187 = .ok (.dup, 1) := by decide +kernel
theorem dX12_stepOn_188 : decode cX12_stepOn 188 = .ok (.getfield 155, 3) := by decide +kernel
theorem dX12_stepOn_191 : decode cX12_stepOn 191 = .ok (.iconst 1, 1) := by decide +kernel
theorem dX12_stepOn_192 : decode cX12_stepOn 192 = .ok (.iadd, 1) := by decide +kernel
theorem dX12_stepOn_193 : decode cX12_stepOn 193 = .ok (.putfield 155, 3) := by decide +kernel
theorem dX12_stepOn_196 : decode cX12_stepOn 196 = .ok (.aload_n 0, 1) := by decide +kernel
theorem dX12_stepOn_197 : decode cX12_stepOn 197 = .ok (.iload_n 1, 1) := by decide +kernel
theorem dX12_stepOn_198 : decode cX12_stepOn 198 = .ok (.invokestatic 185, 3) := by decide +kernel
theorem dX12_stepOn_201 : decode cX12_stepOn 201 = .ok (.ifCond .eq 7, 3) := by decide +kernel
theorem dX12_stepOn_204 : decode cX12_stepOn 204 = .ok (.iconst 3, 1) := by decide +kernel
theorem dX12_stepOn_205 : decode cX12_stepOn 205 = .ok (.goto 4, 3) := by decide +kernel
theorem dX12_stepOn_208 : decode cX12_stepOn 208 = .ok (.iconst 4, 1) := by decide +kernel
theorem dX12_stepOn_209 : decode cX12_stepOn 209 = .ok (.putfield 165, 3) := by decide +kernel
theorem dX12_stepOn_212 : decode cX12_stepOn 212 = .ok (.aload_n 0, 1) := by decide +kernel
theorem dX12_stepOn_213 : decode cX12_stepOn 213 = .ok (.aload_n 0, 1) := by decide +kernel
theorem dX12_stepOn_214 : decode cX12_stepOn 214 = .ok (.getfield 155, 3) := by decide +kernel
theorem dX12_stepOn_217 : decode cX12_stepOn 217 = .ok (.putfield 188, 3) := by decide +kernel
theorem dX12_stepOn_220 : decode cX12_stepOn 220 = .ok (.return_, 1) := by decide +kernel
theorem dX12_wrong_0 : decode cX12_wrong 0 = .ok (.aload_n 0, 1) := by decide +kernel
theorem dX12_wrong_1 : decode cX12_wrong 1 = .ok (.getfield 191, 3) := by decide +kernel
theorem dX12_wrong_4 : decode cX12_wrong 4 = .ok (.ifCond .eq 4, 3) := by decide +kernel
theorem dX12_wrong_7 : decode cX12_wrong 7 = .ok (.return_, 1) := by decide +kernel
theorem dX12_wrong_8 : decode cX12_wrong 8 = .ok (.aload_n 0, 1) := by decide +kernel
theorem dX12_wrong_9 : decode cX12_wrong 9 = .ok (.iload_n 1, 1) := by decide +kernel
theorem dX12_wrong_10 : decode cX12_wrong 10 = .ok (.putfield 191, 3) := by decide +kernel
theorem dX12_wrong_13 : decode cX12_wrong 13 = .ok (.aload_n 0, 1) := by decide +kernel
theorem dX12_wrong_14 : decode cX12_wrong 14 = .ok (.aload_n 0, 1) := by decide +kernel
theorem dX12_wrong_15 : decode cX12_wrong 15 = .ok (.getfield 162, 3) := by decide +kernel
theorem dX12_wrong_18 : decode cX12_wrong 18 = .ok (.putfield 194, 3) := by decide +kernel
theorem dX12_wrong_21 : decode cX12_wrong 21 = .ok (.return_, 1) := by decide +kernel
set_option maxRecDepth 20000 in
theorem ggX12_is_J0_length_8abf5 : GoodIn wsX12_is wsJ0_length_8abf5 := goodIn_r _ [10, 11, 12, 13, 14, 9, 15, 16, 17] (by decide +kernel) (by decide +kernel)
set_option maxRecDepth 20000 in
theorem gX12_is_J0_length_8abf5 : GoodIn wsX12_is (wsV RX12 197 RJ0 yJ0_length_8abf5 wsJ0_length_8abf5) := goodIn_app (goodIn_of _ (by decide +kernel)) ggX12_is_J0_length_8abf5
set_option maxRecDepth 20000 in
theorem ggX12_is_J0_charAt_5068e : GoodIn wsX12_is wsJ0_charAt_5068e := goodIn_r _ [21, 11, 22, 23, 24, 9, 25, 16, 17, 26, 27, 28, 29, 30, 31, 32, 33, 34, 35, 36, 37, 38, 39, 40, 41, 42, 43, 44, 45, 46, 47, 48, 49, 50, 51, 52, 53, 54] (by decide +kernel) (by decide +kernel)
set_option maxRecDepth 20000 in
theorem gX12_is_J0_charAt_5068e : GoodIn wsX12_is (wsV RX12 201 RJ0 yJ0_charAt_5068e wsJ0_charAt_5068e) := goodIn_app (goodIn_of _ (by decide +kernel)) ggX12_is_J0_charAt_5068e
theorem dX12_is_0 : decode cX12_is 0 = .ok (.aload_n 0, 1) := by decide +kernel
theorem dX12_is_1 : decode cX12_is 1 = .ok (.getfield 191, 3) := by decide +kernel
theorem dX12_is_4 : decode cX12_is 4 = .ok (.ifCond .ne 31, 3) := by decide +kernel
theorem dX12_is_7 : decode cX12_is 7 = .ok (.aload_n 0, 1) := by decide +kernel
theorem dX12_is_8 : decode cX12_is 8 = .ok (.getfield 165, 3) := by decide +kernel
theorem dX12_is_11 : decode cX12_is 11 = .ok (.iconst 1, 1) := by decide +kernel
theorem dX12_is_12 : decode cX12_is 12 = .ok (.if_icmp .ne 23, 3) := by decide +kernel
theorem dX12_is_15 : decode cX12_is 15 = .ok (.aload_n 1, 1) := by decide +kernel
theorem dX12_is_16 : decode cX12_is 16 = .ok (.invokevirtual 197, 3) := by decide +kernel
theorem dX12_is_19 : decode cX12_is 19 = .ok (.aload_n 0, 1) := by decide +kernel
theorem dX12_is_20 : decode cX12_is 20 = .ok (.getfield 188, 3) := by decide +kernel
theorem dX12_is_23 : decode cX12_is 23 = .ok (.aload_n 0, 1) := by decide +kernel
theorem dX12_is_24 : decode cX12_is 24 = .ok (.getfield 162, 3) := by decide +kernel
theorem dX12_is_27 : decode cX12_is 27 = .ok (.isub, 1) := by decide +kernel
theorem dX12_is_28 : decode cX12_is 28 = .ok (.if_icmp .ne 7, 3) := by decide +kernel
theorem dX12_is_31 : decode cX12_is 31 = .ok (.iconst 1, 1) := by decide +kernel
theorem dX12_is_32 : decode cX12_is 32 = .ok (.goto 4, 3) := by decide +kernel
theorem dX12_is_35 : decode cX12_is 35 = .ok (.iconst 0, 1) := by decide +kernel
theorem dX12_is_36 : decode cX12_is 36 = .ok (.istore_n 2, 1) := by decide +kernel
theorem dX12_is_37 : decode cX12_is 37 = .ok (.iconst 0, 1) := by decide +kernel
theorem dX12_is_38 : decode cX12_is 38 = .ok (.istore_n 3, 1) := by decide +kernel
theorem dX12_is_39 : decode cX12_is 39 = .ok (.iload_n 2, 1) := by decide +kernel
theorem dX12_is_40 : decode cX12_is 40 = .ok (.ifCond .eq 42, 3) := by decide +kernel
theorem dX12_is_43 : decode cX12_is 43 = .ok (.iload_n 3, 1) := by decide +kernel
theorem dX12_is_44 : decode cX12_is 44 = .ok (.aload_n 1, 1) := by decide +kernel
theorem dX12_is_45 : decode cX12_is 45 = .ok (.invokevirtual 197, 3) := by decide +kernel
theorem dX12_is_48 : decode cX12_is 48 = .ok (.if_icmp .ge 34, 3) := by decide +kernel
theorem dX12_is_51 : decode cX12_is 51 = .ok (.aload_n 1, 1) := by decide +kernel
theorem dX12_is_52 : decode cX12_is 52 = .ok (.iload_n 3, 1) := by decide +kernel
theorem dX12_is_53 : decode cX12_is 53 = .ok (.invokevirtual 201, 3) := by decide +kernel
theorem dX12_is_56 : decode cX12_is 56 = .ok (.aload_n 0, 1) := by decide +kernel
theorem dX12_is_57 : decode cX12_is 57 = .ok (.getfield 62, 3) := by decide +kernel
theorem dX12_is_60 : decode cX12_is 60 = .ok (.aload_n 0, 1) := by decide +kernel
theorem dX12_is_61 : decode cX12_is 61 = .ok (.getfield 162, 3) := by decide +kernel
theorem dX12_is_64 : decode cX12_is 64 = .ok (.iload_n 3, 1) := by decide +kernel
theorem dX12_is_65 : decode cX12_is 65 = .ok (.iadd, 1) := by decide +kernel
theorem dX12_is_66 : decode cX12_is 66 = .ok (.iaload, 1) := by decide +kernel
theorem dX12_is_67 : decode cX12_is 67 = .ok (.if_icmp .ne 7, 3) := by decide +kernel
theorem dX12_is_70 : decode cX12_is 70 = .ok (.iconst 1, 1) := by decide +kernel
theorem dX12_is_71 : decode cX12_is 71 = .ok (.goto 4, 3) := by decide +kernel
theorem dX12_is_74 : decode cX12_is 74 = .ok (.iconst 0, 1) := by decide +kernel
theorem dX12_is_75 : decode cX12_is 75 = .ok (.istore_n 2, 1) := by decide +kernel
theorem dX12_is_76 : decode cX12_is 76 = .ok (.iinc 3 1, 3) := by decide +kernel
theorem dX12_is_79 : decode cX12_is 79 = .ok (.goto (-40), 3) := by decide +kernel
theorem dX12_is_82 : decode cX12_is 82 = .ok (.iload_n 2, 1) := by decide +kernel
theorem dX12_is_83 : decode cX12_is 83 = .ok (.ireturn, 1) := by decide +kernel
set_option maxRecDepth 20000 in
theorem ggX12_which_X12_is : GoodIn wsX12_which wsX12_is := goodIn_r _ [5, 6, 7, 8, 9, 10, 11, 12, 13, 14, 15, 16, 17, 18, 19, 20, 21, 22, 23, 24, 25, 26, 27, 28, 29, 30, 31, 32, 33, 34, 35, 36, 37, 38, 39, 40, 41, 42, 43, 44, 45, 46, 47, 48, 49, 50, 51, 52, 53, 54, 55, 56, 57, 58, 59, 60, 61, 62, 63, 64, 65, 66, 67, 68, 69, 70, 71, 72, 73, 74, 75, 76, 77, 78, 79, 80, 81, 82, 83, 84, 85, 86, 87, 88, 89, 90, 91, 92, 93, 94, 95, 96, 97, 98, 99, 100, 101, 102, 103, 104, 105, 106, 107, 108, 109, 110, 111, 112, 113, 114, 115, 116] (by decide +kernel) (by decide +kernel)
set_option maxRecDepth 20000 in
theorem gX12_which_X12_is : GoodIn wsX12_which (wsV RX12 205 RX12 yX12_is wsX12_is) := goodIn_app (goodIn_of _ (by decide +kernel)) ggX12_which_X12_is
theorem dX12_which_0 : decode cX12_which 0 = .ok (.iconst 0, 1) := by decide +kernel
theorem dX12_which_1 : decode cX12_which 1 = .ok (.istore_n 2, 1) := by decide +kernel
theorem dX12_which_2 : decode cX12_which 2 = .ok (.iload_n 2, 1) := by decide +kernel
theorem dX12_which_3 : decode cX12_which 3 = .ok (.aload_n 1, 1) := by decide +kernel
theorem dX12_which_4 : decode cX12_which 4 = .ok (.arraylength, 1) := by decide +kernel
theorem dX12_which_5 : decode cX12_which 5 = .ok (.if_icmp .ge 21, 3) := by decide +kernel
theorem dX12_which_8 : decode cX12_which 8 = .ok (.aload_n 0, 1) := by decide +kernel
theorem dX12_which_9 : decode cX12_which 9 = .ok (.aload_n 1, 1) := by decide +kernel
theorem dX12_which_10 : decode cX12_which 10 = .ok (.iload_n 2, 1) := by decide +kernel
theorem dX12_which_11 : decode cX12_which 11 = .ok (.aaload, 1) := by decide +kernel
theorem dX12_which_12 : decode cX12_which 12 = .ok (.invokevirtual 205, 3) := by decide +kernel
theorem dX12_which_15 : decode cX12_which 15 = .ok (.ifCond .eq 5, 3) := by decide +kernel
theorem dX12_which_18 : decode cX12_which 18 = .ok (.iload_n 2, 1) := by decide +kernel
theorem dX12_which_19 : decode cX12_which 19 = .ok (.ireturn, 1) := by decide +kernel
theorem dX12_which_20 : decode cX12_which 20 = .ok (.iinc 2 1, 3) := by decide +kernel
theorem dX12_which_23 : decode cX12_which 23 = .ok (.goto (-21), 3) := by decide +kernel
theorem dX12_which_26 : decode cX12_which 26 = .ok (.iconst (-1), 1) := by decide +kernel
theorem dX12_which_27 : decode cX12_which 27 = .ok (.ireturn, 1) := by decide +kernel
theorem dX12_isMarked_0 : decode cX12_isMarked 0 = .ok (.aload_n 0, 1) := by decide +kernel
theorem dX12_isMarked_1 : decode cX12_isMarked 1 = .ok (.getfield 191, 3) := by decide +kernel
theorem dX12_isMarked_4 : decode cX12_isMarked 4 = .ok (.ifCond .ne 28, 3) := by decide +kernel
theorem dX12_isMarked_7 : decode cX12_isMarked 7 = .ok (.aload_n 0, 1) := by decide +kernel
theorem dX12_isMarked_8 : decode cX12_isMarked 8 = .ok (.getfield 165, 3) := by decide +kernel
theorem dX12_isMarked_11 : decode cX12_isMarked 11 = .ok (.iconst 3, 1) := by decide +kernel
theorem dX12_isMarked_12 : decode cX12_isMarked 12 = .ok (.if_icmp .ne 20, 3) := by decide +kernel
theorem dX12_isMarked_15 : decode cX12_isMarked 15 = .ok (.aload_n 0, 1) := by decide +kernel
theorem dX12_isMarked_16 : decode cX12_isMarked 16 = .ok (.getfield 62, 3) := by decide +kernel
theorem dX12_isMarked_19 : decode cX12_isMarked 19 = .ok (.aload_n 0, 1) := by decide +kernel
theorem dX12_isMarked_20 : decode cX12_isMarked 20 = .ok (.getfield 162, 3) := by decide +kernel
theorem dX12_isMarked_23 : decode cX12_isMarked 23 = .ok (.iaload, 1) := by decide +kernel
theorem dX12_isMarked_24 : decode cX12_isMarked 24 = .ok (.iload_n 1, 1) := by decide +kernel
theorem dX12_isMarked_25 : decode cX12_isMarked 25 = .ok (.if_icmp .ne 7, 3) := by decide +kernel
theorem dX12_isMarked_28 : decode cX12_isMarked 28 = .ok (.iconst 1, 1) := by decide +kernel
theorem dX12_isMarked_29 : decode cX12_isMarked 29 = .ok (.goto 4, 3) := by decide +kernel
theorem dX12_isMarked_32 : decode cX12_isMarked 32 = .ok (.iconst 0, 1) := by decide +kernel
theorem dX12_isMarked_33 : decode cX12_isMarked 33 = .ok (.ireturn, 1) := by decide +kernel
set_option maxRecDepth 20000 in
theorem ggX12_mark_X12_isMarked : GoodIn wsX12_mark wsX12_isMarked := goodIn_r _ [6, 1, 7, 8, 9, 41, 42, 43, 44, 45, 46, 47, 48, 49, 50, 51, 52, 53, 54, 55, 56, 57, 58, 59, 60, 61, 62, 63, 64, 65, 66, 67, 68, 69, 70, 71, 72, 73, 74, 75, 76, 77, 78, 79, 80, 81, 82, 83, 84, 85, 86, 87, 88, 89, 90, 91, 92, 93, 94, 95, 96, 97] (by decide +kernel) (by decide +kernel)
set_option maxRecDepth 20000 in
theorem gX12_mark_X12_isMarked : GoodIn wsX12_mark (wsV RX12 209 RX12 yX12_isMarked wsX12_isMarked) := goodIn_app (goodIn_of _ (by decide +kernel)) ggX12_mark_X12_isMarked
set_option maxRecDepth 20000 in
theorem ggX12_mark_X12_wrong : GoodIn wsX12_mark wsX12_wrong := goodIn_r _ [13, 1, 9, 14, 41, 42, 43, 44, 45, 46, 47, 48, 49, 50, 51, 52, 53, 54, 55, 56, 57, 58, 59, 60, 61, 62, 63, 64, 65, 66, 67, 68, 69, 70, 71, 72, 73, 74, 75, 76, 77, 78, 79, 80, 81, 82, 83, 84, 85, 86, 87, 88, 89, 90, 91, 92, 93, 94, 95, 96, 97] (by decide +kernel) (by decide +kernel)
set_option maxRecDepth 20000 in
theorem gX12_mark_X12_wrong : GoodIn wsX12_mark (wsV RX12 212 RX12 yX12_wrong wsX12_wrong) := goodIn_app (goodIn_of _ (by decide +kernel)) ggX12_mark_X12_wrong
set_option maxRecDepth 20000 in
theorem ggX12_mark_X12_stepOn : GoodIn wsX12_mark wsX12_stepOn := goodIn_r _ [18, 19, 9, 7, 20, 21, 22, 23, 24, 25, 26, 27, 28, 29, 5, 30, 31, 8, 32, 33, 34, 35, 36, 37, 38, 39, 40, 41, 42, 43, 44, 45, 46, 47, 48, 49, 50, 51, 52, 53, 54, 55, 56, 57, 58, 59, 60, 61, 62, 63, 64, 65, 66, 67, 68, 69, 70, 71, 72, 73, 74, 75, 76, 77, 78, 79, 80, 81, 82, 83, 84, 85, 86, 87, 88, 89, 90, 91, 92, 93, 94, 95, 96, 97] (by decide +kernel) (by decide +kernel)
set_option maxRecDepth 20000 in
theorem gX12_mark_X12_stepOn : GoodIn wsX12_mark (wsV RX12 216 RX12 yX12_stepOn wsX12_stepOn) := goodIn_app (goodIn_of _ (by decide +kernel)) ggX12_mark_X12_stepOn
theorem dX12_mark_0 : decode cX12_mark 0 = .ok (.aload_n 0, 1) := by decide +kernel
theorem dX12_mark_1 : decode cX12_mark 1 = .ok (.getfield 191, 3) := by decide +kernel
theorem dX12_mark_4 : decode cX12_mark 4 = .ok (.ifCond .ne 16, 3) := by decide +kernel
theorem dX12_mark_7 : decode cX12_mark 7 = .ok (.aload_n 0, 1) := by decide +kernel
theorem dX12_mark_8 : decode cX12_mark 8 = .ok (.iload_n 1, 1) := by decide +kernel
theorem dX12_mark_9 : decode cX12_mark 9 = .ok (.invokevirtual 209, 3) := by decide +kernel
theorem dX12_mark_12 : decode cX12_mark 12 = .ok (.ifCond .ne 8, 3) := by decide +kernel
theorem dX12_mark_15 : decode cX12_mark 15 = .ok (.aload_n 0, 1) := by decide +kernel
theorem dX12_mark_16 : decode cX12_mark 16 = .ok (.iconst 1, 1) := by decide +kernel
theorem dX12_mark_17 : decode cX12_mark 17 = .ok (.invokevirtual 212, 3) := by decide +kernel
theorem dX12_mark_20 : decode cX12_mark 20 = .ok (.aload_n 0, 1) := by decide +kernel
theorem dX12_mark_21 : decode cX12_mark 21 = .ok (.getfield 191, 3) := by decide +kernel
theorem dX12_mark_24 : decode cX12_mark 24 = .ok (.ifCond .ne 7, 3) := by decide +kernel
theorem dX12_mark_27 : decode cX12_mark 27 = .ok (.aload_n 0, 1) := by decide +kernel
theorem dX12_mark_28 : decode cX12_mark 28 = .ok (.invokevirtual 216, 3) := by decide +kernel
theorem dX12_mark_31 : decode cX12_mark 31 = .ok (.return_, 1) := by decide +kernel
set_option maxRecDepth 20000 in
theorem ggX12_numberNow_X12_wrong : GoodIn wsX12_numberNow wsX12_wrong := goodIn_r _ [10, 1, 4, 11, 12, 13, 14, 15, 16, 17, 18, 19, 20, 21, 22, 23, 24, 25, 26, 27, 28, 29, 30, 31, 32, 33, 34, 35, 36, 37, 38, 39, 40, 41, 42, 43, 44, 45, 46, 47, 48, 49, 50, 51, 52, 53, 54, 55, 56, 57, 58, 59, 60, 61, 62, 63, 64, 65, 66, 67, 68] (by decide +kernel) (by decide +kernel)
set_option maxRecDepth 20000 in
theorem gX12_numberNow_X12_wrong : GoodIn wsX12_numberNow (wsV RX12 212 RX12 yX12_wrong wsX12_wrong) := goodIn_app (goodIn_of _ (by decide +kernel)) ggX12_numberNow_X12_wrong
theorem dX12_numberNow_0 : decode cX12_numberNow 0 = .ok (.aload_n 0, 1) := by decide +kernel
theorem dX12_numberNow_1 : decode cX12_numberNow 1 = .ok (.getfield 191, 3) := by decide +kernel
theorem dX12_numberNow_4 : decode cX12_numberNow 4 = .ok (.ifCond .eq 5, 3) := by decide +kernel
theorem dX12_numberNow_7 : decode cX12_numberNow 7 = .ok (.iconst 0, 1) := by decide +kernel
theorem dX12_numberNow_8 : decode cX12_numberNow 8 = .ok (.ireturn, 1) := by decide +kernel
theorem dX12_numberNow_9 : decode cX12_numberNow 9 = .ok (.aload_n 0, 1) := by decide +kernel
theorem dX12_numberNow_10 : decode cX12_numberNow 10 = .ok (.getfield 165, 3) := by decide +kernel
theorem dX12_numberNow_13 : decode cX12_numberNow 13 = .ok (.iconst 2, 1) := by decide +kernel
theorem dX12_numberNow_14 : decode cX12_numberNow 14 = .ok (.if_icmp .eq 11, 3) := by decide +kernel
theorem dX12_numberNow_17 : decode cX12_numberNow 17 = .ok (.aload_n 0, 1) := by decide +kernel
theorem dX12_numberNow_18 : decode cX12_numberNow 18 = .ok (.iconst 1, 1) := by decide +kernel
theorem dX12_numberNow_19 : decode cX12_numberNow 19 = .ok (.invokevirtual 212, 3) := by decide +kernel
theorem dX12_numberNow_22 : decode cX12_numberNow 22 = .ok (.goto 37, 3) := by decide +kernel
theorem dX12_numberNow_25 : decode cX12_numberNow 25 = .ok (.aload_n 0, 1) := by decide +kernel
theorem dX12_numberNow_26 : decode cX12_numberNow 26 = .ok (.getfield 188, 3) := by decide +kernel
theorem dX12_numberNow_29 : decode cX12_numberNow 29 = .ok (.aload_n 0, 1) := by decide +kernel
theorem dX12_numberNow_30 : decode cX12_numberNow 30 = .ok (.getfield 162, 3) := by decide +kernel
theorem dX12_numberNow_33 : decode cX12_numberNow 33 = .ok (.isub, 1) := by decide +kernel
theorem dX12_numberNow_34 : decode cX12_numberNow 34 = .ok (.iconst 4, 1) := by decide +kernel
theorem dX12_numberNow_35 : decode cX12_numberNow 35 = .ok (.if_icmp .gt 19, 3) := by decide +kernel
theorem dX12_numberNow_38 : decode cX12_numberNow 38 = .ok (.aload_n 0, 1) := by decide +kernel
theorem dX12_numberNow_39 : decode cX12_numberNow 39 = .ok (.getfield 175, 3) := by decide +kernel
theorem dX12_numberNow_42 : decode cX12_numberNow 42 = .ok (.iload_n 1, 1) := by decide +kernel
theorem dX12_numberNow_43 : decode cX12_numberNow 43 = .ok (.if_icmp .lt 11, 3) := by decide +kernel
theorem dX12_numberNow_46 : decode cX12_numberNow 46 = .ok (.aload_n 0, 1) := by decide +kernel
theorem dX12_numberNow_47 : decode cX12_numberNow 47 = .ok (.getfield 175, 3) := by decide +kernel
theorem dX12_numberNow_50 : decode cX12_numberNow 50 = .ok (.iload_n 2, 1) := by decide +kernel
theorem dX12_numberNow_51 : decode cX12_numberNow 51 = .ok (.if_icmp .le 8, 3) := by decide +kernel
theorem dX12_numberNow_54 : decode cX12_numberNow 54 = .ok (.aload_n 0, 1) := by decide +kernel
theorem dX12_numberNow_55 : decode cX12_numberNow 55 = .ok (.iconst 2, 1) := by decide +kernel
theorem dX12_numberNow_56 : decode cX12_numberNow 56 = .ok (.invokevirtual 212, 3) := by decide +kernel
theorem dX12_numberNow_59 : decode cX12_numberNow 59 = .ok (.aload_n 0, 1) := by decide +kernel
theorem dX12_numberNow_60 : decode cX12_numberNow 60 = .ok (.getfield 191, 3) := by decide +kernel
theorem dX12_numberNow_63 : decode cX12_numberNow 63 = .ok (.ifCond .ne 10, 3) := by decide +kernel
theorem dX12_numberNow_66 : decode cX12_numberNow 66 = .ok (.aload_n 0, 1) := by decide +kernel
theorem dX12_numberNow_67 : decode cX12_numberNow 67 = .ok (.getfield 175, 3) := by decide +kernel
theorem dX12_numberNow_70 : decode cX12_numberNow 70 = .ok (.goto 4, 3) := by decide +kernel
theorem dX12_numberNow_73 : decode cX12_numberNow 73 = .ok (.iconst 0, 1) := by decide +kernel
theorem dX12_numberNow_74 : decode cX12_numberNow 74 = .ok (.ireturn, 1) := by decide +kernel
set_option maxRecDepth 20000 in
theorem ggX12_readNumber_X12_numberNow : GoodIn wsX12_readNumber wsX12_numberNow := goodIn_r _ [6, 1, 7, 8, 9, 10, 11, 12, 13, 5, 14, 15, 41, 42, 43, 44, 45, 46, 47, 48, 49, 50, 51, 52, 53, 54, 55, 56, 57, 58, 59, 60, 61, 62, 63, 64, 65, 66, 67, 68, 69, 70, 71, 72, 73, 74, 75, 76, 77, 78, 79, 80, 81, 82, 83, 84, 85, 86, 87, 88, 89, 90, 91, 92, 93, 94, 95, 96, 97] (by decide +kernel) (by decide +kernel)
set_option maxRecDepth 20000 in
theorem gX12_readNumber_X12_numberNow : GoodIn wsX12_readNumber (wsV RX12 219 RX12 yX12_numberNow wsX12_numberNow) := goodIn_app (goodIn_of _ (by decide +kernel)) ggX12_readNumber_X12_numberNow
set_option maxRecDepth 20000 in
theorem ggX12_readNumber_X12_stepOn : GoodIn wsX12_readNumber wsX12_stepOn := goodIn_r _ [19, 20, 9, 7, 10, 21, 22, 23, 24, 25, 8, 26, 27, 28, 5, 29, 30, 31, 32, 33, 34, 35, 36, 37, 38, 39, 40, 41, 42, 43, 44, 45, 46, 47, 48, 49, 50, 51, 52, 53, 54, 55, 56, 57, 58, 59, 60, 61, 62, 63, 64, 65, 66, 67, 68, 69, 70, 71, 72, 73, 74, 75, 76, 77, 78, 79, 80, 81, 82, 83, 84, 85, 86, 87, 88, 89, 90, 91, 92, 93, 94, 95, 96, 97] (by decide +kernel) (by decide +kernel)
set_option maxRecDepth 20000 in
theorem gX12_readNumber_X12_stepOn : GoodIn wsX12_readNumber (wsV RX12 216 RX12 yX12_stepOn wsX12_stepOn) := goodIn_app (goodIn_of _ (by decide +kernel)) ggX12_readNumber_X12_stepOn
theorem dX12_readNumber_0 : decode cX12_readNumber 0 = .ok (.aload_n 0, 1) := by decide +kernel
theorem dX12_readNumber_1 : decode cX12_readNumber 1 = .ok (.iload_n 1, 1) := by decide +kernel
theorem dX12_readNumber_2 : decode cX12_readNumber 2 = .ok (.iload_n 2, 1) := by decide +kernel
theorem dX12_readNumber_3 : decode cX12_readNumber 3 = .ok (.invokevirtual 219, 3) := by decide +kernel
theorem dX12_readNumber_6 : decode cX12_readNumber 6 = .ok (.istore_n 3, 1) := by decide +kernel
theorem dX12_readNumber_7 : decode cX12_readNumber 7 = .ok (.aload_n 0, 1) := by decide +kernel
theorem dX12_readNumber_8 : decode cX12_readNumber 8 = .ok (.getfield 191, 3) := by decide +kernel
theorem dX12_readNumber_11 : decode cX12_readNumber 11 = .ok (.ifCond .ne 7, 3) := by decide +kernel
theorem dX12_readNumber_14 : decode cX12_readNumber 14 = .ok (.aload_n 0, 1) := by decide +kernel
theorem dX12_readNumber_15 : decode cX12_readNumber 15 = .ok (.invokevirtual 216, 3) := by decide +kernel
theorem dX12_readNumber_18 : decode cX12_readNumber 18 = .ok (.iload_n 3, 1) := by decide +kernel
theorem dX12_readNumber_19 : decode cX12_readNumber 19 = .ok (.ireturn, 1) := by decide +kernel
theorem dX12_lay_0 : decode cX12_lay 0 = .ok (.aload_n 0, 1) := by decide +kernel
theorem dX12_lay_1 : decode cX12_lay 1 = .ok (.getfield 191, 3) := by decide +kernel
theorem dX12_lay_4 : decode cX12_lay 4 = .ok (.ifCond .eq 4, 3) := by decide +kernel
theorem dX12_lay_7 : decode cX12_lay 7 = .ok (.return_, 1) := by decide +kernel
theorem dX12_lay_8 : decode cX12_lay 8 = .ok (.aload_n 0, 1) := by decide +kernel
theorem dX12_lay_9 : decode cX12_lay 9 = .ok (.getfield 56, 3) := by decide +kernel
theorem dX12_lay_12 : decode cX12_lay 12 = .ok (.sipush 700, 3) := by decide +kernel
theorem dX12_lay_15 : decode cX12_lay 15 = .ok (.aload_n 0, 1) := by decide +kernel
theorem dX12_lay_16 : decode cX12_lay 16 = .ok (.getfield 34, 3) := by decide +kernel
theorem dX12_lay_19 : decode cX12_lay 19 = .ok (.bipush 9, 2) := by decide +kernel
theorem dX12_lay_21 : decode cX12_lay 21 = .ok (.iaload, 1) := by decide +kernel
theorem dX12_lay_22 : decode cX12_lay 22 = .ok (.iadd, 1) := by decide +kernel
theorem dX12_lay_23 : decode cX12_lay 23 = .ok (.iload_n 1, 1) := by decide +kernel
theorem dX12_lay_24 : decode cX12_lay 24 = .ok (.iastore, 1) := by decide +kernel
theorem dX12_lay_25 : decode cX12_lay 25 = .ok (.aload_n 0, 1) := by decide +kernel
theorem dX12_lay_26 : decode cX12_lay 26 = .ok (.getfield 34, 3) := by decide +kernel
theorem dX12_lay_29 : decode cX12_lay 29 = .ok (.bipush 9, 2) := by decide +kernel
theorem dX12_lay_31 : decode cX12_lay 31 = .ok (.dup2, 1) := by decide +kernel
theorem dX12_lay_32 : decode cX12_lay 32 = .ok (.iaload, 1) := by decide +kernel
theorem dX12_lay_33 : decode cX12_lay 33 = .ok (.iconst 1, 1) := by decide +kernel
theorem dX12_lay_34 : decode cX12_lay 34 = .ok (.iadd, 1) := by decide +kernel
theorem dX12_lay_35 : decode cX12_lay 35 = .ok (.iastore, 1) := by decide +kernel
theorem dX12_lay_36 : decode cX12_lay 36 = .ok (.return_, 1) := by decide +kernel
set_option maxRecDepth 20000 in
theorem ggX12_readPart_X12_readNumber : GoodIn wsX12_readPart wsX12_readNumber := goodIn_r _ [8, 1, 9, 10, 11, 7, 12, 2, 13, 14, 15, 16, 17, 18, 19, 20, 21, 22, 23, 24, 25, 26, 27, 28, 29, 30, 31, 32, 33, 34, 35, 36, 37, 38, 39, 40, 41, 42, 43, 44, 45, 140, 141, 142, 143, 144, 145, 146, 147, 148, 149, 150, 151, 152, 153, 154, 155, 156, 157, 158, 159, 160, 161, 162, 163, 164, 165, 166, 167, 168, 169, 170, 171, 172, 173, 174, 175, 176, 177, 178, 179, 180, 181, 182, 183, 184, 185, 186, 187, 188, 189, 190, 191, 192, 193, 194, 195, 196] (by decide +kernel) (by decide +kernel)
set_option maxRecDepth 20000 in
theorem gX12_readPart_X12_readNumber : GoodIn wsX12_readPart (wsV RX12 222 RX12 yX12_readNumber wsX12_readNumber) := goodIn_app (goodIn_of _ (by decide +kernel)) ggX12_readPart_X12_readNumber
set_option maxRecDepth 20000 in
theorem ggX12_readPart_X12_lay : GoodIn wsX12_readPart wsX12_lay := goodIn_r _ [49, 1, 50, 51, 140, 141, 142, 143, 144, 145, 146, 147, 148, 149, 150, 151, 152, 153, 154, 155, 156, 157, 158, 159, 160, 161, 162, 163, 164, 165, 166, 167, 168, 169, 170, 171, 172, 173, 174, 175, 176, 177, 178, 179, 180, 181, 182, 183, 184, 185, 186, 187, 188, 189, 190, 191, 192, 193, 194, 195, 196] (by decide +kernel) (by decide +kernel)
set_option maxRecDepth 20000 in
theorem gX12_readPart_X12_lay : GoodIn wsX12_readPart (wsV RX12 225 RX12 yX12_lay wsX12_lay) := goodIn_app (goodIn_of _ (by decide +kernel)) ggX12_readPart_X12_lay
set_option maxRecDepth 20000 in
theorem ggX12_readPart_X12_which : GoodIn wsX12_readPart wsX12_which := goodIn_r _ [55, 56, 57, 58, 7, 59, 1, 2, 13, 14, 36, 60, 61, 62, 63, 64, 65, 66, 67, 68, 69, 70, 71, 72, 73, 74, 75, 76, 77, 78, 79, 80, 81, 82, 83, 84, 85, 86, 87, 88, 89, 90, 91, 92, 93, 94, 95, 96, 97, 98, 99, 100, 101, 102, 103, 104, 105, 106, 107, 108, 140, 141, 142, 143, 144, 145, 146, 147, 148, 149, 150, 151, 152, 153, 154, 155, 156, 157, 158, 159, 160, 161, 162, 163, 164, 165, 166, 167, 168, 169, 170, 171, 172, 173, 174, 175, 176, 177, 178, 179, 180, 181, 182, 183, 184, 185, 186, 187, 188, 189, 190, 191, 192, 193, 194, 195, 196] (by decide +kernel) (by decide +kernel)
set_option maxRecDepth 20000 in
theorem gX12_readPart_X12_which : GoodIn wsX12_readPart (wsV RX12 228 RX12 yX12_which wsX12_which) := goodIn_app (goodIn_of _ (by decide +kernel)) ggX12_readPart_X12_which
set_option maxRecDepth 20000 in
theorem ggX12_readPart_X12_wrong : GoodIn wsX12_readPart wsX12_wrong := goodIn_r _ [19, 1, 14, 20, 140, 141, 142, 143, 144, 145, 146, 147, 148, 149, 150, 151, 152, 153, 154, 155, 156, 157, 158, 159, 160, 161, 162, 163, 164, 165, 166, 167, 168, 169, 170, 171, 172, 173, 174, 175, 176, 177, 178, 179, 180, 181, 182, 183, 184, 185, 186, 187, 188, 189, 190, 191, 192, 193, 194, 195, 196] (by decide +kernel) (by decide +kernel)
set_option maxRecDepth 20000 in
theorem gX12_readPart_X12_wrong : GoodIn wsX12_readPart (wsV RX12 212 RX12 yX12_wrong wsX12_wrong) := goodIn_app (goodIn_of _ (by decide +kernel)) ggX12_readPart_X12_wrong
set_option maxRecDepth 20000 in
theorem ggX12_readPart_X12_stepOn : GoodIn wsX12_readPart wsX12_stepOn := goodIn_r _ [24, 25, 14, 2, 15, 26, 27, 28, 29, 30, 13, 31, 32, 33, 7, 34, 35, 36, 37, 38, 39, 40, 41, 42, 43, 44, 45, 140, 141, 142, 143, 144, 145, 146, 147, 148, 149, 150, 151, 152, 153, 154, 155, 156, 157, 158, 159, 160, 161, 162, 163, 164, 165, 166, 167, 168, 169, 170, 171, 172, 173, 174, 175, 176, 177, 178, 179, 180, 181, 182, 183, 184, 185, 186, 187, 188, 189, 190, 191, 192, 193, 194, 195, 196] (by decide +kernel) (by decide +kernel)
set_option maxRecDepth 20000 in
theorem gX12_readPart_X12_stepOn : GoodIn wsX12_readPart (wsV RX12 216 RX12 yX12_stepOn wsX12_stepOn) := goodIn_app (goodIn_of _ (by decide +kernel)) ggX12_readPart_X12_stepOn
set_option maxRecDepth 20000 in
theorem ggX12_readPart_X12_mark : GoodIn wsX12_readPart wsX12_mark := goodIn_r _ [112, 1, 113, 114, 115, 7, 116, 2, 36, 14, 16, 17, 18, 19, 20, 21, 22, 23, 24, 25, 15, 26, 27, 28, 29, 30, 13, 31, 32, 33, 34, 35, 37, 38, 39, 40, 41, 42, 43, 44, 45, 140, 141, 142, 143, 144, 145, 146, 147, 148, 149, 150, 151, 152, 153, 154, 155, 156, 157, 158, 159, 160, 161, 162, 163, 164, 165, 166, 167, 168, 169, 170, 171, 172, 173, 174, 175, 176, 177, 178, 179, 180, 181, 182, 183, 184, 185, 186, 187, 188, 189, 190, 191, 192, 193, 194, 195, 196] (by decide +kernel) (by decide +kernel)
set_option maxRecDepth 20000 in
theorem gX12_readPart_X12_mark : GoodIn wsX12_readPart (wsV RX12 232 RX12 yX12_mark wsX12_mark) := goodIn_app (goodIn_of _ (by decide +kernel)) ggX12_readPart_X12_mark
set_option maxRecDepth 20000 in
theorem ggX12_readPart_X12_readExpression : GoodIn wsX12_readPart wsX12_readExpression := goodIn_r _ [124, 1, 2, 113, 114, 115, 7, 116, 36, 14, 16, 17, 18, 19, 20, 125, 126, 127, 56, 57, 58, 59, 13, 60, 61, 62, 63, 64, 65, 66, 67, 68, 69, 70, 71, 72, 73, 74, 75, 76, 77, 78, 79, 80, 81, 82, 83, 84, 85, 86, 87, 88, 89, 90, 91, 92, 93, 94, 95, 96, 97, 98, 99, 100, 101, 102, 103, 104, 105, 106, 107, 108, 21, 22, 23, 24, 25, 15, 26, 27, 28, 29, 30, 31, 32, 33, 34, 35, 37, 38, 39, 40, 41, 42, 43, 44, 45, 46, 47, 48, 49, 50, 51, 120, 121, 122, 123, 128, 129, 130, 131, 0, 3, 4, 5, 6, 8, 9, 10, 11, 12, 52, 53, 54, 55, 109, 110, 111, 112, 117, 118, 119, 132, 133, 134, 135, 136, 137, 138, 139, 140, 141, 142, 143, 144, 145, 146, 147, 148, 149, 150, 151, 152, 153, 154, 155, 156, 157, 158, 159, 160, 161, 162, 163, 164, 165, 166, 167, 168, 169, 170, 171, 172, 173, 174, 175, 176, 177, 178, 179, 180, 181, 182, 183, 184, 185, 186, 187, 188, 189, 190, 191, 192, 193, 194, 195, 196] (by decide +kernel) (by decide +kernel)
set_option maxRecDepth 20000 in
theorem gX12_readPart_X12_readExpression : GoodIn wsX12_readPart (wsV RX12 235 RX12 yX12_readExpression wsX12_readExpression) := goodIn_app (goodIn_of _ (by decide +kernel)) ggX12_readPart_X12_readExpression
theorem dX12_readPart_0 : decode cX12_readPart 0 = .ok (.aload_n 0, 1) := by decide +kernel
theorem dX12_readPart_1 : decode cX12_readPart 1 = .ok (.getfield 191, 3) := by decide +kernel
theorem dX12_readPart_4 : decode cX12_readPart 4 = .ok (.ifCond .eq 4, 3) := by decide +kernel
theorem dX12_readPart_7 : decode cX12_readPart 7 = .ok (.return_, 1) := by decide +kernel
theorem dX12_readPart_8 : decode cX12_readPart 8 = .ok (.aload_n 0, 1) := by decide +kernel
theorem dX12_readPart_9 : decode cX12_readPart 9 = .ok (.getfield 165, 3) := by decide +kernel
theorem dX12_readPart_12 : decode cX12_readPart 12 = .ok (.iconst 2, 1) := by decide +kernel
theorem dX12_readPart_13 : decode cX12_readPart 13 = .ok (.if_icmp .ne 16, 3) := by decide +kernel
theorem dX12_readPart_16 : decode cX12_readPart 16 = .ok (.aload_n 0, 1) := by decide +kernel
theorem dX12_readPart_17 : decode cX12_readPart 17 = .ok (.aload_n 0, 1) := by decide +kernel
theorem dX12_readPart_18 : decode cX12_readPart 18 = .ok (.iconst 0, 1) := by decide +kernel
theorem dX12_readPart_19 : decode cX12_readPart 19 = .ok (.sipush 9999, 3) := by decide +kernel
theorem dX12_readPart_22 : decode cX12_readPart 22 = .ok (.invokevirtual 222, 3) := by decide +kernel
theorem dX12_readPart_25 : decode cX12_readPart 25 = .ok (.invokevirtual 225, 3) := by decide +kernel
theorem dX12_readPart_28 : decode cX12_readPart 28 = .ok (.return_, 1) := by decide +kernel
theorem dX12_readPart_29 : decode cX12_readPart 29 = .ok (.aload_n 0, 1) := by decide +kernel
theorem dX12_readPart_30 : decode cX12_readPart 30 = .ok (.getfield 165, 3) := by decide +kernel
theorem dX12_readPart_33 : decode cX12_readPart 33 = .ok (.iconst 1, 1) := by decide +kernel
theorem dX12_readPart_34 : decode cX12_readPart 34 = .ok (.if_icmp .ne 41, 3) := by decide +kernel
theorem dX12_readPart_37 : decode cX12_readPart 37 = .ok (.aload_n 0, 1) := by decide +kernel
theorem dX12_readPart_38 : decode cX12_readPart 38 = .ok (.aload_n 0, 1) := by decide +kernel
theorem dX12_readPart_39 : decode cX12_readPart 39 = .ok (.getfield 31, 3) := by decide +kernel
theorem dX12_readPart_42 : decode cX12_readPart 42 = .ok (.invokevirtual 228, 3) := by decide +kernel
theorem dX12_readPart_45 : decode cX12_readPart 45 = .ok (.istore_n 2, 1) := by decide +kernel
theorem dX12_readPart_46 : decode cX12_readPart 46 = .ok (.iload_n 2, 1) := by decide +kernel
theorem dX12_readPart_47 : decode cX12_readPart 47 = .ok (.iconst (-1), 1) := by decide +kernel
theorem dX12_readPart_48 : decode cX12_readPart 48 = .ok (.if_icmp .ne 8, 3) := by decide +kernel
theorem dX12_readPart_51 : decode cX12_readPart 51 = .ok (.aload_n 0, 1) := by decide +kernel
theorem dX12_readPart_52 : decode cX12_readPart 52 = .ok (.iconst 3, 1) := by decide +kernel
theorem dX12_readPart_53 : decode cX12_readPart 53 = .ok (.invokevirtual 212, 3) := by decide +kernel
theorem dX12_readPart_56 : decode cX12_readPart 56 = .ok (.aload_n 0, 1) := by decide +kernel
theorem dX12_readPart_57 : decode cX12_readPart 57 = .ok (.iconst (-1), 1) := by decide +kernel
theorem dX12_readPart_58 : decode cX12_readPart 58 = .ok (.iload_n 2, 1) := by decide +kernel
theorem dX12_readPart_59 : decode cX12_readPart 59 = .ok (.isub, 1) := by decide +kernel
theorem dX12_readPart_60 : decode cX12_readPart 60 = .ok (.invokevirtual 225, 3) := by decide +kernel
theorem dX12_readPart_63 : decode cX12_readPart 63 = .ok (.aload_n 0, 1) := by decide +kernel
theorem dX12_readPart_64 : decode cX12_readPart 64 = .ok (.getfield 191, 3) := by decide +kernel
theorem dX12_readPart_67 : decode cX12_readPart 67 = .ok (.ifCond .ne 7, 3) := by decide +kernel
theorem dX12_readPart_70 : decode cX12_readPart 70 = .ok (.aload_n 0, 1) := by decide +kernel
theorem dX12_readPart_71 : decode cX12_readPart 71 = .ok (.invokevirtual 216, 3) := by decide +kernel
theorem dX12_readPart_74 : decode cX12_readPart 74 = .ok (.return_, 1) := by decide +kernel
theorem dX12_readPart_75 : decode cX12_readPart 75 = .ok (.aload_n 0, 1) := by decide +kernel
theorem dX12_readPart_76 : decode cX12_readPart 76 = .ok (.bipush 40, 2) := by decide +kernel
theorem dX12_readPart_78 : decode cX12_readPart 78 = .ok (.invokevirtual 232, 3) := by decide +kernel
theorem dX12_readPart_81 : decode cX12_readPart 81 = .ok (.aload_n 0, 1) := by decide +kernel
theorem dX12_readPart_82 : decode cX12_readPart 82 = .ok (.iload_n 1, 1) := by decide +kernel
theorem dX12_readPart_83 : decode cX12_readPart 83 = .ok (.iconst 1, 1) := by decide +kernel
theorem dX12_readPart_84 : decode cX12_readPart 84 = .ok (.iadd, 1) := by decide +kernel
theorem dX12_readPart_85 : decode cX12_readPart 85 = .ok (.invokevirtual 235, 3) := by decide +kernel
theorem dX12_readPart_88 : decode cX12_readPart 88 = .ok (.aload_n 0, 1) := by decide +kernel
theorem dX12_readPart_89 : decode cX12_readPart 89 = .ok (.bipush 41, 2) := by decide +kernel
theorem dX12_readPart_91 : decode cX12_readPart 91 = .ok (.invokevirtual 232, 3) := by decide +kernel
theorem dX12_readPart_94 : decode cX12_readPart 94 = .ok (.return_, 1) := by decide +kernel
set_option maxRecDepth 20000 in
theorem ggX12_readProduct_X12_readPart : GoodIn wsX12_readProduct wsX12_readPart := goodIn_r _ [115, 9, 10, 116, 117, 118, 119, 4, 120, 121, 122, 123, 124, 24, 12, 18, 103, 104, 105, 106, 107, 13, 14, 15, 16, 17, 19, 20, 21, 22, 23, 25, 26, 27, 28, 29, 11, 30, 31, 32, 33, 34, 35, 36, 37, 38, 39, 40, 41, 42, 43, 44, 125, 126, 127, 128, 49, 50, 51, 52, 53, 54, 55, 56, 57, 58, 59, 60, 61, 62, 63, 64, 65, 66, 67, 68, 69, 70, 71, 72, 73, 74, 75, 76, 77, 78, 79, 80, 81, 82, 83, 84, 85, 86, 87, 88, 89, 90, 91, 92, 93, 94, 95, 96, 97, 98, 99, 100, 101, 129, 130, 131, 132, 5, 6, 7, 8, 133, 134, 135, 45, 46, 47, 48, 102, 108, 109, 110, 111, 112, 113, 114, 0, 1, 2, 3, 136, 137, 138, 139, 140, 141, 142, 143, 144, 145, 146, 147, 148, 149, 150, 151, 152, 153, 154, 155, 156, 157, 158, 159, 160, 161, 162, 163, 164, 165, 166, 167, 168, 169, 170, 171, 172, 173, 174, 175, 176, 177, 178, 179, 180, 181, 182, 183, 184, 185, 186, 187, 188, 189, 190, 191, 192, 193, 194, 195, 196] (by decide +kernel) (by decide +kernel)
set_option maxRecDepth 20000 in
theorem gX12_readProduct_X12_readPart : GoodIn wsX12_readProduct (wsV RX12 238 RX12 yX12_readPart wsX12_readPart) := goodIn_app (goodIn_of _ (by decide +kernel)) ggX12_readProduct_X12_readPart
set_option maxRecDepth 20000 in
theorem ggX12_readProduct_X12_isMarked : GoodIn wsX12_readProduct wsX12_isMarked := goodIn_r _ [8, 9, 10, 11, 12, 140, 141, 142, 143, 144, 145, 146, 147, 148, 149, 150, 151, 152, 153, 154, 155, 156, 157, 158, 159, 160, 161, 162, 163, 164, 165, 166, 167, 168, 169, 170, 171, 172, 173, 174, 175, 176, 177, 178, 179, 180, 181, 182, 183, 184, 185, 186, 187, 188, 189, 190, 191, 192, 193, 194, 195, 196] (by decide +kernel) (by decide +kernel)
set_option maxRecDepth 20000 in
theorem gX12_readProduct_X12_isMarked : GoodIn wsX12_readProduct (wsV RX12 209 RX12 yX12_isMarked wsX12_isMarked) := goodIn_app (goodIn_of _ (by decide +kernel)) ggX12_readProduct_X12_isMarked
set_option maxRecDepth 20000 in
theorem ggX12_readProduct_X12_stepOn : GoodIn wsX12_readProduct wsX12_stepOn := goodIn_r _ [16, 17, 12, 10, 18, 19, 20, 21, 22, 23, 24, 25, 26, 27, 4, 28, 29, 11, 30, 31, 32, 33, 34, 35, 36, 37, 38, 140, 141, 142, 143, 144, 145, 146, 147, 148, 149, 150, 151, 152, 153, 154, 155, 156, 157, 158, 159, 160, 161, 162, 163, 164, 165, 166, 167, 168, 169, 170, 171, 172, 173, 174, 175, 176, 177, 178, 179, 180, 181, 182, 183, 184, 185, 186, 187, 188, 189, 190, 191, 192, 193, 194, 195, 196] (by decide +kernel) (by decide +kernel)
set_option maxRecDepth 20000 in
theorem gX12_readProduct_X12_stepOn : GoodIn wsX12_readProduct (wsV RX12 216 RX12 yX12_stepOn wsX12_stepOn) := goodIn_app (goodIn_of _ (by decide +kernel)) ggX12_readProduct_X12_stepOn
set_option maxRecDepth 20000 in
theorem ggX12_readProduct_X12_lay : GoodIn wsX12_readProduct wsX12_lay := goodIn_r _ [42, 9, 43, 44, 140, 141, 142, 143, 144, 145, 146, 147, 148, 149, 150, 151, 152, 153, 154, 155, 156, 157, 158, 159, 160, 161, 162, 163, 164, 165, 166, 167, 168, 169, 170, 171, 172, 173, 174, 175, 176, 177, 178, 179, 180, 181, 182, 183, 184, 185, 186, 187, 188, 189, 190, 191, 192, 193, 194, 195, 196] (by decide +kernel) (by decide +kernel)
set_option maxRecDepth 20000 in
theorem gX12_readProduct_X12_lay : GoodIn wsX12_readProduct (wsV RX12 225 RX12 yX12_lay wsX12_lay) := goodIn_app (goodIn_of _ (by decide +kernel)) ggX12_readProduct_X12_lay
theorem dX12_readProduct_0 : decode cX12_readProduct 0 = .ok (.aload_n 0, 1) := by decide +kernel
theorem dX12_readProduct_1 : decode cX12_readProduct 1 = .ok (.iload_n 1, 1) := by decide +kernel
theorem dX12_readProduct_2 : decode cX12_readProduct 2 = .ok (.invokevirtual 238, 3) := by decide +kernel
theorem dX12_readProduct_5 : decode cX12_readProduct 5 = .ok (.aload_n 0, 1) := by decide +kernel
theorem dX12_readProduct_6 : decode cX12_readProduct 6 = .ok (.bipush 42, 2) := by decide +kernel
theorem dX12_readProduct_8 : decode cX12_readProduct 8 = .ok (.invokevirtual 209, 3) := by decide +kernel
theorem dX12_readProduct_11 : decode cX12_readProduct 11 = .ok (.ifCond .ne 12, 3) := by decide +kernel
theorem dX12_readProduct_14 : decode cX12_readProduct 14 = .ok (.aload_n 0, 1) := by decide +kernel
theorem dX12_readProduct_15 : decode cX12_readProduct 15 = .ok (.bipush 47, 2) := by decide +kernel
theorem dX12_readProduct_17 : decode cX12_readProduct 17 = .ok (.invokevirtual 209, 3) := by decide +kernel
theorem dX12_readProduct_20 : decode cX12_readProduct 20 = .ok (.ifCond .eq 37, 3) := by decide +kernel
theorem dX12_readProduct_23 : decode cX12_readProduct 23 = .ok (.aload_n 0, 1) := by decide +kernel
theorem dX12_readProduct_24 : decode cX12_readProduct 24 = .ok (.bipush 42, 2) := by decide +kernel
theorem dX12_readProduct_26 : decode cX12_readProduct 26 = .ok (.invokevirtual 209, 3) := by decide +kernel
theorem dX12_readProduct_29 : decode cX12_readProduct 29 = .ok (.ifCond .eq 8, 3) := by decide +kernel
theorem dX12_readProduct_32 : decode cX12_readProduct 32 = .ok (.bipush (-22), 2) := by decide +kernel
theorem dX12_readProduct_34 : decode cX12_readProduct 34 = .ok (.goto 5, 3) := by decide +kernel
theorem dX12_readProduct_37 : decode cX12_readProduct 37 = .ok (.bipush (-23), 2) := by decide +kernel
theorem dX12_readProduct_39 : decode cX12_readProduct 39 = .ok (.istore_n 2, 1) := by decide +kernel
theorem dX12_readProduct_40 : decode cX12_readProduct 40 = .ok (.aload_n 0, 1) := by decide +kernel
theorem dX12_readProduct_41 : decode cX12_readProduct 41 = .ok (.invokevirtual 216, 3) := by decide +kernel
theorem dX12_readProduct_44 : decode cX12_readProduct 44 = .ok (.aload_n 0, 1) := by decide +kernel
theorem dX12_readProduct_45 : decode cX12_readProduct 45 = .ok (.iload_n 1, 1) := by decide +kernel
theorem dX12_readProduct_46 : decode cX12_readProduct 46 = .ok (.invokevirtual 238, 3) := by decide +kernel
theorem dX12_readProduct_49 : decode cX12_readProduct 49 = .ok (.aload_n 0, 1) := by decide +kernel
theorem dX12_readProduct_50 : decode cX12_readProduct 50 = .ok (.iload_n 2, 1) := by decide +kernel
theorem dX12_readProduct_51 : decode cX12_readProduct 51 = .ok (.invokevirtual 225, 3) := by decide +kernel
theorem dX12_readProduct_54 : decode cX12_readProduct 54 = .ok (.goto (-49), 3) := by decide +kernel
theorem dX12_readProduct_57 : decode cX12_readProduct 57 = .ok (.return_, 1) := by decide +kernel
set_option maxRecDepth 20000 in
theorem ggX12_readSum_X12_readProduct : GoodIn wsX12_readSum wsX12_readProduct := goodIn_r _ [136, 137, 138, 139, 4, 5, 6, 7, 8, 9, 10, 11, 12, 13, 14, 15, 16, 17, 18, 19, 20, 21, 22, 23, 24, 25, 26, 27, 28, 29, 30, 31, 32, 33, 34, 35, 36, 37, 38, 39, 40, 41, 42, 43, 44, 45, 46, 47, 48, 49, 50, 51, 52, 53, 54, 55, 56, 57, 58, 59, 60, 61, 62, 63, 64, 65, 66, 67, 68, 69, 70, 71, 72, 73, 74, 75, 76, 77, 78, 79, 80, 81, 82, 83, 84, 85, 86, 87, 88, 89, 90, 91, 92, 93, 94, 95, 96, 97, 98, 99, 100, 101, 102, 103, 104, 105, 106, 107, 108, 109, 110, 111, 112, 113, 114, 115, 116, 117, 118, 119, 120, 121, 122, 123, 124, 125, 126, 127, 128, 129, 130, 131, 132, 133, 134, 135, 0, 1, 2, 3, 140, 141, 142, 143, 144, 145, 146, 147, 148, 149, 150, 151, 152, 153, 154, 155, 156, 157, 158, 159, 160, 161, 162, 163, 164, 165, 166, 167, 168, 169, 170, 171, 172, 173, 174, 175, 176, 177, 178, 179, 180, 181, 182, 183, 184, 185, 186, 187, 188, 189, 190, 191, 192, 193, 194, 195, 196] (by decide +kernel) (by decide +kernel)
set_option maxRecDepth 20000 in
theorem gX12_readSum_X12_readProduct : GoodIn wsX12_readSum (wsV RX12 241 RX12 yX12_readProduct wsX12_readProduct) := goodIn_app (goodIn_of _ (by decide +kernel)) ggX12_readSum_X12_readProduct
set_option maxRecDepth 20000 in
theorem ggX12_readSum_X12_isMarked : GoodIn wsX12_readSum wsX12_isMarked := goodIn_r _ [8, 9, 10, 11, 12, 140, 141, 142, 143, 144, 145, 146, 147, 148, 149, 150, 151, 152, 153, 154, 155, 156, 157, 158, 159, 160, 161, 162, 163, 164, 165, 166, 167, 168, 169, 170, 171, 172, 173, 174, 175, 176, 177, 178, 179, 180, 181, 182, 183, 184, 185, 186, 187, 188, 189, 190, 191, 192, 193, 194, 195, 196] (by decide +kernel) (by decide +kernel)
set_option maxRecDepth 20000 in
theorem gX12_readSum_X12_isMarked : GoodIn wsX12_readSum (wsV RX12 209 RX12 yX12_isMarked wsX12_isMarked) := goodIn_app (goodIn_of _ (by decide +kernel)) ggX12_readSum_X12_isMarked
set_option maxRecDepth 20000 in
theorem ggX12_readSum_X12_stepOn : GoodIn wsX12_readSum wsX12_stepOn := goodIn_r _ [16, 17, 12, 10, 18, 19, 20, 21, 22, 23, 24, 25, 26, 27, 4, 28, 29, 11, 30, 31, 32, 33, 34, 35, 36, 37, 38, 140, 141, 142, 143, 144, 145, 146, 147, 148, 149, 150, 151, 152, 153, 154, 155, 156, 157, 158, 159, 160, 161, 162, 163, 164, 165, 166, 167, 168, 169, 170, 171, 172, 173, 174, 175, 176, 177, 178, 179, 180, 181, 182, 183, 184, 185, 186, 187, 188, 189, 190, 191, 192, 193, 194, 195, 196] (by decide +kernel) (by decide +kernel)
set_option maxRecDepth 20000 in
theorem gX12_readSum_X12_stepOn : GoodIn wsX12_readSum (wsV RX12 216 RX12 yX12_stepOn wsX12_stepOn) := goodIn_app (goodIn_of _ (by decide +kernel)) ggX12_readSum_X12_stepOn
set_option maxRecDepth 20000 in
theorem ggX12_readSum_X12_lay : GoodIn wsX12_readSum wsX12_lay := goodIn_r _ [42, 9, 43, 44, 140, 141, 142, 143, 144, 145, 146, 147, 148, 149, 150, 151, 152, 153, 154, 155, 156, 157, 158, 159, 160, 161, 162, 163, 164, 165, 166, 167, 168, 169, 170, 171, 172, 173, 174, 175, 176, 177, 178, 179, 180, 181, 182, 183, 184, 185, 186, 187, 188, 189, 190, 191, 192, 193, 194, 195, 196] (by decide +kernel) (by decide +kernel)
set_option maxRecDepth 20000 in
theorem gX12_readSum_X12_lay : GoodIn wsX12_readSum (wsV RX12 225 RX12 yX12_lay wsX12_lay) := goodIn_app (goodIn_of _ (by decide +kernel)) ggX12_readSum_X12_lay
theorem dX12_readSum_0 : decode cX12_readSum 0 = .ok (.aload_n 0, 1) := by decide +kernel
theorem dX12_readSum_1 : decode cX12_readSum 1 = .ok (.iload_n 1, 1) := by decide +kernel
theorem dX12_readSum_2 : decode cX12_readSum 2 = .ok (.invokevirtual 241, 3) := by decide +kernel
theorem dX12_readSum_5 : decode cX12_readSum 5 = .ok (.aload_n 0, 1) := by decide +kernel
theorem dX12_readSum_6 : decode cX12_readSum 6 = .ok (.bipush 43, 2) := by decide +kernel
theorem dX12_readSum_8 : decode cX12_readSum 8 = .ok (.invokevirtual 209, 3) := by decide +kernel
theorem dX12_readSum_11 : decode cX12_readSum 11 = .ok (.ifCond .ne 12, 3) := by decide +kernel
theorem dX12_readSum_14 : decode cX12_readSum 14 = .ok (.aload_n 0, 1) := by decide +kernel
theorem dX12_readSum_15 : decode cX12_readSum 15 = .ok (.bipush 45, 2) := by decide +kernel
theorem dX12_readSum_17 : decode cX12_readSum 17 = .ok (.invokevirtual 209, 3) := by decide +kernel
theorem dX12_readSum_20 : decode cX12_readSum 20 = .ok (.ifCond .eq 37, 3) := by decide +kernel
theorem dX12_readSum_23 : decode cX12_readSum 23 = .ok (.aload_n 0, 1) := by decide +kernel
theorem dX12_readSum_24 : decode cX12_readSum 24 = .ok (.bipush 43, 2) := by decide +kernel
theorem dX12_readSum_26 : decode cX12_readSum 26 = .ok (.invokevirtual 209, 3) := by decide +kernel
theorem dX12_readSum_29 : decode cX12_readSum 29 = .ok (.ifCond .eq 8, 3) := by decide +kernel
theorem dX12_readSum_32 : decode cX12_readSum 32 = .ok (.bipush (-20), 2) := by decide +kernel
theorem dX12_readSum_34 : decode cX12_readSum 34 = .ok (.goto 5, 3) := by decide +kernel
theorem dX12_readSum_37 : decode cX12_readSum 37 = .ok (.bipush (-21), 2) := by decide +kernel
theorem dX12_readSum_39 : decode cX12_readSum 39 = .ok (.istore_n 2, 1) := by decide +kernel
theorem dX12_readSum_40 : decode cX12_readSum 40 = .ok (.aload_n 0, 1) := by decide +kernel
theorem dX12_readSum_41 : decode cX12_readSum 41 = .ok (.invokevirtual 216, 3) := by decide +kernel
theorem dX12_readSum_44 : decode cX12_readSum 44 = .ok (.aload_n 0, 1) := by decide +kernel
theorem dX12_readSum_45 : decode cX12_readSum 45 = .ok (.iload_n 1, 1) := by decide +kernel
theorem dX12_readSum_46 : decode cX12_readSum 46 = .ok (.invokevirtual 241, 3) := by decide +kernel
theorem dX12_readSum_49 : decode cX12_readSum 49 = .ok (.aload_n 0, 1) := by decide +kernel
theorem dX12_readSum_50 : decode cX12_readSum 50 = .ok (.iload_n 2, 1) := by decide +kernel
theorem dX12_readSum_51 : decode cX12_readSum 51 = .ok (.invokevirtual 225, 3) := by decide +kernel
theorem dX12_readSum_54 : decode cX12_readSum 54 = .ok (.goto (-49), 3) := by decide +kernel
theorem dX12_readSum_57 : decode cX12_readSum 57 = .ok (.return_, 1) := by decide +kernel
set_option maxRecDepth 20000 in
theorem ggX12_readNot_X12_is : GoodIn wsX12_readNot wsX12_is := goodIn_r _ [6, 1, 7, 8, 9, 10, 11, 12, 13, 14, 15, 16, 17, 18, 19, 20, 21, 22, 23, 24, 25, 26, 27, 28, 29, 30, 31, 32, 33, 34, 35, 36, 37, 38, 39, 40, 41, 42, 43, 44, 45, 46, 47, 48, 49, 50, 51, 52, 53, 54, 55, 56, 57, 58, 59, 140, 141, 142, 143, 144, 145, 146, 147, 148, 149, 150, 151, 152, 153, 154, 155, 156, 157, 158, 159, 160, 161, 162, 163, 164, 165, 166, 167, 168, 169, 170, 171, 172, 173, 174, 175, 176, 177, 178, 179, 180, 181, 182, 183, 184, 185, 186, 187, 188, 189, 190, 191, 192, 193, 194, 195, 196] (by decide +kernel) (by decide +kernel)
set_option maxRecDepth 20000 in
theorem gX12_readNot_X12_is : GoodIn wsX12_readNot (wsV RX12 205 RX12 yX12_is wsX12_is) := goodIn_app (goodIn_of _ (by decide +kernel)) ggX12_readNot_X12_is
set_option maxRecDepth 20000 in
theorem ggX12_readNot_X12_wrong : GoodIn wsX12_readNot wsX12_wrong := goodIn_r _ [63, 1, 9, 64, 140, 141, 142, 143, 144, 145, 146, 147, 148, 149, 150, 151, 152, 153, 154, 155, 156, 157, 158, 159, 160, 161, 162, 163, 164, 165, 166, 167, 168, 169, 170, 171, 172, 173, 174, 175, 176, 177, 178, 179, 180, 181, 182, 183, 184, 185, 186, 187, 188, 189, 190, 191, 192, 193, 194, 195, 196] (by decide +kernel) (by decide +kernel)
set_option maxRecDepth 20000 in
theorem gX12_readNot_X12_wrong : GoodIn wsX12_readNot (wsV RX12 212 RX12 yX12_wrong wsX12_wrong) := goodIn_app (goodIn_of _ (by decide +kernel)) ggX12_readNot_X12_wrong
set_option maxRecDepth 20000 in
theorem ggX12_readNot_X12_stepOn : GoodIn wsX12_readNot wsX12_stepOn := goodIn_r _ [68, 69, 9, 7, 70, 71, 72, 73, 74, 75, 8, 76, 77, 78, 5, 79, 80, 10, 81, 82, 83, 84, 85, 86, 87, 88, 89, 140, 141, 142, 143, 144, 145, 146, 147, 148, 149, 150, 151, 152, 153, 154, 155, 156, 157, 158, 159, 160, 161, 162, 163, 164, 165, 166, 167, 168, 169, 170, 171, 172, 173, 174, 175, 176, 177, 178, 179, 180, 181, 182, 183, 184, 185, 186, 187, 188, 189, 190, 191, 192, 193, 194, 195, 196] (by decide +kernel) (by decide +kernel)
set_option maxRecDepth 20000 in
theorem gX12_readNot_X12_stepOn : GoodIn wsX12_readNot (wsV RX12 216 RX12 yX12_stepOn wsX12_stepOn) := goodIn_app (goodIn_of _ (by decide +kernel)) ggX12_readNot_X12_stepOn
set_option maxRecDepth 20000 in
theorem ggX12_readNot_X12_readSum : GoodIn wsX12_readNot wsX12_readSum := goodIn_r _ [136, 137, 138, 139, 5, 93, 94, 95, 96, 1, 7, 10, 9, 65, 66, 67, 68, 69, 70, 71, 72, 73, 74, 75, 8, 76, 77, 78, 79, 80, 81, 82, 83, 84, 85, 86, 87, 88, 89, 97, 98, 99, 100, 101, 102, 103, 104, 105, 106, 2, 3, 4, 6, 11, 12, 13, 14, 15, 16, 17, 18, 19, 20, 21, 22, 23, 24, 25, 26, 27, 28, 29, 30, 31, 32, 33, 34, 35, 36, 37, 38, 39, 40, 41, 42, 43, 44, 45, 46, 47, 48, 49, 50, 51, 52, 53, 54, 55, 56, 57, 58, 59, 107, 60, 61, 62, 63, 64, 108, 109, 110, 0, 90, 91, 92, 111, 112, 113, 114, 115, 116, 117, 118, 119, 120, 121, 122, 123, 124, 125, 126, 127, 128, 129, 130, 131, 132, 133, 134, 135, 140, 141, 142, 143, 144, 145, 146, 147, 148, 149, 150, 151, 152, 153, 154, 155, 156, 157, 158, 159, 160, 161, 162, 163, 164, 165, 166, 167, 168, 169, 170, 171, 172, 173, 174, 175, 176, 177, 178, 179, 180, 181, 182, 183, 184, 185, 186, 187, 188, 189, 190, 191, 192, 193, 194, 195, 196] (by decide +kernel) (by decide +kernel)
set_option maxRecDepth 20000 in
theorem gX12_readNot_X12_readSum : GoodIn wsX12_readNot (wsV RX12 246 RX12 yX12_readSum wsX12_readSum) := goodIn_app (goodIn_of _ (by decide +kernel)) ggX12_readNot_X12_readSum
set_option maxRecDepth 20000 in
theorem ggX12_readNot_X12_isMarked : GoodIn wsX12_readNot wsX12_isMarked := goodIn_r _ [96, 1, 7, 10, 9, 140, 141, 142, 143, 144, 145, 146, 147, 148, 149, 150, 151, 152, 153, 154, 155, 156, 157, 158, 159, 160, 161, 162, 163, 164, 165, 166, 167, 168, 169, 170, 171, 172, 173, 174, 175, 176, 177, 178, 179, 180, 181, 182, 183, 184, 185, 186, 187, 188, 189, 190, 191, 192, 193, 194, 195, 196] (by decide +kernel) (by decide +kernel)
set_option maxRecDepth 20000 in
theorem gX12_readNot_X12_isMarked : GoodIn wsX12_readNot (wsV RX12 209 RX12 yX12_isMarked wsX12_isMarked) := goodIn_app (goodIn_of _ (by decide +kernel)) ggX12_readNot_X12_isMarked
set_option maxRecDepth 20000 in
theorem ggX12_readNot_X12_lay : GoodIn wsX12_readNot wsX12_lay := goodIn_r _ [100, 1, 101, 102, 140, 141, 142, 143, 144, 145, 146, 147, 148, 149, 150, 151, 152, 153, 154, 155, 156, 157, 158, 159, 160, 161, 162, 163, 164, 165, 166, 167, 168, 169, 170, 171, 172, 173, 174, 175, 176, 177, 178, 179, 180, 181, 182, 183, 184, 185, 186, 187, 188, 189, 190, 191, 192, 193, 194, 195, 196] (by decide +kernel) (by decide +kernel)
set_option maxRecDepth 20000 in
theorem gX12_readNot_X12_lay : GoodIn wsX12_readNot (wsV RX12 225 RX12 yX12_lay wsX12_lay) := goodIn_app (goodIn_of _ (by decide +kernel)) ggX12_readNot_X12_lay
theorem dX12_readNot_0 : decode cX12_readNot 0 = .ok (.iconst 0, 1) := by decide +kernel
theorem dX12_readNot_1 : decode cX12_readNot 1 = .ok (.istore_n 2, 1) := by decide +kernel
theorem dX12_readNot_2 : decode cX12_readNot 2 = .ok (.aload_n 0, 1) := by decide +kernel
theorem dX12_readNot_3 : decode cX12_readNot 3 = .ok (.ldc 244, 2) := by decide +kernel
theorem dX12_readNot_5 : decode cX12_readNot 5 = .ok (.invokevirtual 205, 3) := by decide +kernel
theorem dX12_readNot_8 : decode cX12_readNot 8 = .ok (.ifCond .eq 31, 3) := by decide +kernel
theorem dX12_readNot_11 : decode cX12_readNot 11 = .ok (.iload_n 2, 1) := by decide +kernel
theorem dX12_readNot_12 : decode cX12_readNot 12 = .ok (.bipush 6, 2) := by decide +kernel
theorem dX12_readNot_14 : decode cX12_readNot 14 = .ok (.if_icmp .ne 8, 3) := by decide +kernel
theorem dX12_readNot_17 : decode cX12_readNot 17 = .ok (.aload_n 0, 1) := by decide +kernel
theorem dX12_readNot_18 : decode cX12_readNot 18 = .ok (.iconst 2, 1) := by decide +kernel
theorem dX12_readNot_19 : decode cX12_readNot 19 = .ok (.invokevirtual 212, 3) := by decide +kernel
theorem dX12_readNot_22 : decode cX12_readNot 22 = .ok (.iinc 2 1, 3) := by decide +kernel
theorem dX12_readNot_25 : decode cX12_readNot 25 = .ok (.aload_n 0, 1) := by decide +kernel
theorem dX12_readNot_26 : decode cX12_readNot 26 = .ok (.getfield 191, 3) := by decide +kernel
theorem dX12_readNot_29 : decode cX12_readNot 29 = .ok (.ifCond .ne (-27), 3) := by decide +kernel
theorem dX12_readNot_32 : decode cX12_readNot 32 = .ok (.aload_n 0, 1) := by decide +kernel
theorem dX12_readNot_33 : decode cX12_readNot 33 = .ok (.invokevirtual 216, 3) := by decide +kernel
theorem dX12_readNot_36 : decode cX12_readNot 36 = .ok (.goto (-34), 3) := by decide +kernel
theorem dX12_readNot_39 : decode cX12_readNot 39 = .ok (.aload_n 0, 1) := by decide +kernel
theorem dX12_readNot_40 : decode cX12_readNot 40 = .ok (.iload_n 1, 1) := by decide +kernel
theorem dX12_readNot_41 : decode cX12_readNot 41 = .ok (.invokevirtual 246, 3) := by decide +kernel
theorem dX12_readNot_44 : decode cX12_readNot 44 = .ok (.aload_n 0, 1) := by decide +kernel
theorem dX12_readNot_45 : decode cX12_readNot 45 = .ok (.bipush 60, 2) := by decide +kernel
theorem dX12_readNot_47 : decode cX12_readNot 47 = .ok (.invokevirtual 209, 3) := by decide +kernel
theorem dX12_readNot_50 : decode cX12_readNot 50 = .ok (.ifCond .ne 12, 3) := by decide +kernel
theorem dX12_readNot_53 : decode cX12_readNot 53 = .ok (.aload_n 0, 1) := by decide +kernel
theorem dX12_readNot_54 : decode cX12_readNot 54 = .ok (.bipush 61, 2) := by decide +kernel
theorem dX12_readNot_56 : decode cX12_readNot 56 = .ok (.invokevirtual 209, 3) := by decide +kernel
theorem dX12_readNot_59 : decode cX12_readNot 59 = .ok (.ifCond .eq 34, 3) := by decide +kernel
theorem dX12_readNot_62 : decode cX12_readNot 62 = .ok (.aload_n 0, 1) := by decide +kernel
theorem dX12_readNot_63 : decode cX12_readNot 63 = .ok (.bipush 60, 2) := by decide +kernel
theorem dX12_readNot_65 : decode cX12_readNot 65 = .ok (.invokevirtual 209, 3) := by decide +kernel
theorem dX12_readNot_68 : decode cX12_readNot 68 = .ok (.ifCond .eq 8, 3) := by decide +kernel
theorem dX12_readNot_71 : decode cX12_readNot 71 = .ok (.bipush (-24), 2) := by decide +kernel
theorem dX12_readNot_73 : decode cX12_readNot 73 = .ok (.goto 5, 3) := by decide +kernel
theorem dX12_readNot_76 : decode cX12_readNot 76 = .ok (.bipush (-25), 2) := by decide +kernel
theorem dX12_readNot_78 : decode cX12_readNot 78 = .ok (.istore_n 3, 1) := by decide +kernel
theorem dX12_readNot_79 : decode cX12_readNot 79 = .ok (.aload_n 0, 1) := by decide +kernel
theorem dX12_readNot_80 : decode cX12_readNot 80 = .ok (.invokevirtual 216, 3) := by decide +kernel
theorem dX12_readNot_83 : decode cX12_readNot 83 = .ok (.aload_n 0, 1) := by decide +kernel
theorem dX12_readNot_84 : decode cX12_readNot 84 = .ok (.iload_n 1, 1) := by decide +kernel
theorem dX12_readNot_85 : decode cX12_readNot 85 = .ok (.invokevirtual 246, 3) := by decide +kernel
theorem dX12_readNot_88 : decode cX12_readNot 88 = .ok (.aload_n 0, 1) := by decide +kernel
theorem dX12_readNot_89 : decode cX12_readNot 89 = .ok (.iload_n 3, 1) := by decide +kernel
theorem dX12_readNot_90 : decode cX12_readNot 90 = .ok (.invokevirtual 225, 3) := by decide +kernel
theorem dX12_readNot_93 : decode cX12_readNot 93 = .ok (.iconst 0, 1) := by decide +kernel
theorem dX12_readNot_94 : decode cX12_readNot 94 = .ok (.istore_n 3, 1) := by decide +kernel
theorem dX12_readNot_95 : decode cX12_readNot 95 = .ok (.iload_n 3, 1) := by decide +kernel
theorem dX12_readNot_96 : decode cX12_readNot 96 = .ok (.iload_n 2, 1) := by decide +kernel
theorem dX12_readNot_97 : decode cX12_readNot 97 = .ok (.if_icmp .ge 15, 3) := by decide +kernel
theorem dX12_readNot_100 : decode cX12_readNot 100 = .ok (.aload_n 0, 1) := by decide +kernel
theorem dX12_readNot_101 : decode cX12_readNot 101 = .ok (.bipush (-28), 2) := by decide +kernel
theorem dX12_readNot_103 : decode cX12_readNot 103 = .ok (.invokevirtual 225, 3) := by decide +kernel
theorem dX12_readNot_106 : decode cX12_readNot 106 = .ok (.iinc 3 1, 3) := by decide +kernel
theorem dX12_readNot_109 : decode cX12_readNot 109 = .ok (.goto (-14), 3) := by decide +kernel
theorem dX12_readNot_112 : decode cX12_readNot 112 = .ok (.return_, 1) := by decide +kernel
set_option maxRecDepth 20000 in
theorem ggX12_readAnd_X12_readNot : GoodIn wsX12_readAnd wsX12_readNot := goodIn_r _ [107, 9, 5, 6, 7, 4, 8, 10, 11, 12, 13, 14, 15, 16, 17, 18, 19, 20, 21, 22, 23, 24, 25, 26, 27, 28, 29, 30, 31, 32, 33, 34, 35, 36, 37, 38, 39, 40, 41, 42, 43, 44, 45, 46, 47, 48, 49, 50, 51, 52, 53, 54, 55, 56, 57, 58, 59, 60, 61, 62, 99, 100, 101, 102, 103, 63, 64, 65, 66, 67, 68, 69, 70, 71, 72, 73, 74, 75, 76, 77, 78, 79, 80, 81, 82, 83, 84, 85, 86, 87, 108, 109, 110, 95, 96, 97, 98, 88, 89, 90, 91, 92, 93, 0, 1, 2, 3, 94, 104, 105, 106, 111, 112, 113, 114, 115, 116, 117, 118, 119, 120, 121, 122, 123, 124, 125, 126, 127, 128, 129, 130, 131, 132, 133, 134, 135, 136, 137, 138, 139, 140, 141, 142, 143, 144, 145, 146, 147, 148, 149, 150, 151, 152, 153, 154, 155, 156, 157, 158, 159, 160, 161, 162, 163, 164, 165, 166, 167, 168, 169, 170, 171, 172, 173, 174, 175, 176, 177, 178, 179, 180, 181, 182, 183, 184, 185, 186, 187, 188, 189, 190, 191, 192, 193, 194, 195, 196] (by decide +kernel) (by decide +kernel)
set_option maxRecDepth 20000 in
theorem gX12_readAnd_X12_readNot : GoodIn wsX12_readAnd (wsV RX12 249 RX12 yX12_readNot wsX12_readNot) := goodIn_app (goodIn_of _ (by decide +kernel)) ggX12_readAnd_X12_readNot
set_option maxRecDepth 20000 in
theorem ggX12_readAnd_X12_is : GoodIn wsX12_readAnd wsX12_is := goodIn_r _ [8, 9, 10, 11, 12, 13, 14, 15, 16, 17, 18, 19, 20, 21, 22, 23, 24, 25, 26, 27, 28, 29, 30, 31, 32, 33, 34, 35, 36, 37, 38, 39, 40, 41, 42, 43, 44, 45, 46, 47, 48, 49, 50, 51, 52, 53, 54, 55, 56, 57, 58, 59, 60, 61, 62, 140, 141, 142, 143, 144, 145, 146, 147, 148, 149, 150, 151, 152, 153, 154, 155, 156, 157, 158, 159, 160, 161, 162, 163, 164, 165, 166, 167, 168, 169, 170, 171, 172, 173, 174, 175, 176, 177, 178, 179, 180, 181, 182, 183, 184, 185, 186, 187, 188, 189, 190, 191, 192, 193, 194, 195, 196] (by decide +kernel) (by decide +kernel)
set_option maxRecDepth 20000 in
theorem gX12_readAnd_X12_is : GoodIn wsX12_readAnd (wsV RX12 205 RX12 yX12_is wsX12_is) := goodIn_app (goodIn_of _ (by decide +kernel)) ggX12_readAnd_X12_is
set_option maxRecDepth 20000 in
theorem ggX12_readAnd_X12_stepOn : GoodIn wsX12_readAnd wsX12_stepOn := goodIn_r _ [66, 67, 12, 10, 68, 69, 70, 71, 72, 73, 11, 74, 75, 76, 4, 77, 78, 13, 79, 80, 81, 82, 83, 84, 85, 86, 87, 140, 141, 142, 143, 144, 145, 146, 147, 148, 149, 150, 151, 152, 153, 154, 155, 156, 157, 158, 159, 160, 161, 162, 163, 164, 165, 166, 167, 168, 169, 170, 171, 172, 173, 174, 175, 176, 177, 178, 179, 180, 181, 182, 183, 184, 185, 186, 187, 188, 189, 190, 191, 192, 193, 194, 195, 196] (by decide +kernel) (by decide +kernel)
set_option maxRecDepth 20000 in
theorem gX12_readAnd_X12_stepOn : GoodIn wsX12_readAnd (wsV RX12 216 RX12 yX12_stepOn wsX12_stepOn) := goodIn_app (goodIn_of _ (by decide +kernel)) ggX12_readAnd_X12_stepOn
set_option maxRecDepth 20000 in
theorem ggX12_readAnd_X12_lay : GoodIn wsX12_readAnd wsX12_lay := goodIn_r _ [91, 9, 92, 93, 140, 141, 142, 143, 144, 145, 146, 147, 148, 149, 150, 151, 152, 153, 154, 155, 156, 157, 158, 159, 160, 161, 162, 163, 164, 165, 166, 167, 168, 169, 170, 171, 172, 173, 174, 175, 176, 177, 178, 179, 180, 181, 182, 183, 184, 185, 186, 187, 188, 189, 190, 191, 192, 193, 194, 195, 196] (by decide +kernel) (by decide +kernel)
set_option maxRecDepth 20000 in
theorem gX12_readAnd_X12_lay : GoodIn wsX12_readAnd (wsV RX12 225 RX12 yX12_lay wsX12_lay) := goodIn_app (goodIn_of _ (by decide +kernel)) ggX12_readAnd_X12_lay
theorem dX12_readAnd_0 : decode cX12_readAnd 0 = .ok (.aload_n 0, 1) := by decide +kernel
theorem dX12_readAnd_1 : decode cX12_readAnd 1 = .ok (.iload_n 1, 1) := by decide +kernel
theorem dX12_readAnd_2 : decode cX12_readAnd 2 = .ok (.invokevirtual 249, 3) := by decide +kernel
theorem dX12_readAnd_5 : decode cX12_readAnd 5 = .ok (.aload_n 0, 1) := by decide +kernel
theorem dX12_readAnd_6 : decode cX12_readAnd 6 = .ok (.ldc 252, 2) := by decide +kernel
theorem dX12_readAnd_8 : decode cX12_readAnd 8 = .ok (.invokevirtual 205, 3) := by decide +kernel
theorem dX12_readAnd_11 : decode cX12_readAnd 11 = .ok (.ifCond .eq 21, 3) := by decide +kernel
theorem dX12_readAnd_14 : decode cX12_readAnd 14 = .ok (.aload_n 0, 1) := by decide +kernel
theorem dX12_readAnd_15 : decode cX12_readAnd 15 = .ok (.invokevirtual 216, 3) := by decide +kernel
theorem dX12_readAnd_18 : decode cX12_readAnd 18 = .ok (.aload_n 0, 1) := by decide +kernel
theorem dX12_readAnd_19 : decode cX12_readAnd 19 = .ok (.iload_n 1, 1) := by decide +kernel
theorem dX12_readAnd_20 : decode cX12_readAnd 20 = .ok (.invokevirtual 249, 3) := by decide +kernel
theorem dX12_readAnd_23 : decode cX12_readAnd 23 = .ok (.aload_n 0, 1) := by decide +kernel
theorem dX12_readAnd_24 : decode cX12_readAnd 24 = .ok (.bipush (-26), 2) := by decide +kernel
theorem dX12_readAnd_26 : decode cX12_readAnd 26 = .ok (.invokevirtual 225, 3) := by decide +kernel
theorem dX12_readAnd_29 : decode cX12_readAnd 29 = .ok (.goto (-24), 3) := by decide +kernel
theorem dX12_readAnd_32 : decode cX12_readAnd 32 = .ok (.return_, 1) := by decide +kernel
set_option maxRecDepth 20000 in
theorem ggX12_readExpression_X12_isMarked : GoodIn wsX12_readExpression wsX12_isMarked := goodIn_r _ [7, 1, 2, 8, 9, 140, 141, 142, 143, 144, 145, 146, 147, 148, 149, 150, 151, 152, 153, 154, 155, 156, 157, 158, 159, 160, 161, 162, 163, 164, 165, 166, 167, 168, 169, 170, 171, 172, 173, 174, 175, 176, 177, 178, 179, 180, 181, 182, 183, 184, 185, 186, 187, 188, 189, 190, 191, 192, 193, 194, 195, 196] (by decide +kernel) (by decide +kernel)
set_option maxRecDepth 20000 in
theorem gX12_readExpression_X12_isMarked : GoodIn wsX12_readExpression (wsV RX12 209 RX12 yX12_isMarked wsX12_isMarked) := goodIn_app (goodIn_of _ (by decide +kernel)) ggX12_readExpression_X12_isMarked
set_option maxRecDepth 20000 in
theorem ggX12_readExpression_X12_wrong : GoodIn wsX12_readExpression wsX12_wrong := goodIn_r _ [13, 1, 9, 14, 140, 141, 142, 143, 144, 145, 146, 147, 148, 149, 150, 151, 152, 153, 154, 155, 156, 157, 158, 159, 160, 161, 162, 163, 164, 165, 166, 167, 168, 169, 170, 171, 172, 173, 174, 175, 176, 177, 178, 179, 180, 181, 182, 183, 184, 185, 186, 187, 188, 189, 190, 191, 192, 193, 194, 195, 196] (by decide +kernel) (by decide +kernel)
set_option maxRecDepth 20000 in
theorem gX12_readExpression_X12_wrong : GoodIn wsX12_readExpression (wsV RX12 212 RX12 yX12_wrong wsX12_wrong) := goodIn_app (goodIn_of _ (by decide +kernel)) ggX12_readExpression_X12_wrong
set_option maxRecDepth 20000 in
theorem ggX12_readExpression_X12_readAnd : GoodIn wsX12_readExpression wsX12_readAnd := goodIn_r _ [103, 104, 105, 106, 6, 18, 19, 20, 21, 1, 2, 22, 9, 8, 23, 24, 25, 26, 27, 28, 29, 30, 31, 32, 33, 34, 35, 36, 37, 38, 39, 40, 41, 42, 43, 44, 45, 46, 47, 48, 49, 50, 51, 52, 53, 54, 55, 56, 57, 58, 59, 60, 61, 62, 63, 64, 65, 66, 67, 68, 69, 70, 71, 72, 73, 74, 75, 76, 77, 78, 79, 80, 81, 82, 83, 84, 85, 86, 87, 88, 89, 90, 91, 92, 93, 94, 95, 96, 97, 98, 99, 100, 101, 102, 0, 3, 4, 5, 7, 10, 11, 12, 13, 14, 15, 16, 17, 107, 108, 109, 110, 111, 112, 113, 114, 115, 116, 117, 118, 119, 120, 121, 122, 123, 124, 125, 126, 127, 128, 129, 130, 131, 132, 133, 134, 135, 136, 137, 138, 139, 140, 141, 142, 143, 144, 145, 146, 147, 148, 149, 150, 151, 152, 153, 154, 155, 156, 157, 158, 159, 160, 161, 162, 163, 164, 165, 166, 167, 168, 169, 170, 171, 172, 173, 174, 175, 176, 177, 178, 179, 180, 181, 182, 183, 184, 185, 186, 187, 188, 189, 190, 191, 192, 193, 194, 195, 196] (by decide +kernel) (by decide +kernel)
set_option maxRecDepth 20000 in
theorem gX12_readExpression_X12_readAnd : GoodIn wsX12_readExpression (wsV RX12 254 RX12 yX12_readAnd wsX12_readAnd) := goodIn_app (goodIn_of _ (by decide +kernel)) ggX12_readExpression_X12_readAnd
set_option maxRecDepth 20000 in
theorem ggX12_readExpression_X12_is : GoodIn wsX12_readExpression wsX12_is := goodIn_r _ [21, 1, 2, 22, 9, 8, 23, 24, 25, 26, 27, 28, 29, 30, 31, 32, 33, 34, 35, 36, 37, 38, 39, 40, 41, 42, 43, 44, 45, 46, 47, 48, 49, 50, 51, 52, 53, 54, 55, 56, 57, 58, 59, 60, 61, 62, 63, 64, 65, 66, 67, 68, 69, 70, 71, 140, 141, 142, 143, 144, 145, 146, 147, 148, 149, 150, 151, 152, 153, 154, 155, 156, 157, 158, 159, 160, 161, 162, 163, 164, 165, 166, 167, 168, 169, 170, 171, 172, 173, 174, 175, 176, 177, 178, 179, 180, 181, 182, 183, 184, 185, 186, 187, 188, 189, 190, 191, 192, 193, 194, 195, 196] (by decide +kernel) (by decide +kernel)
set_option maxRecDepth 20000 in
theorem gX12_readExpression_X12_is : GoodIn wsX12_readExpression (wsV RX12 205 RX12 yX12_is wsX12_is) := goodIn_app (goodIn_of _ (by decide +kernel)) ggX12_readExpression_X12_is
set_option maxRecDepth 20000 in
theorem ggX12_readExpression_X12_stepOn : GoodIn wsX12_readExpression wsX12_stepOn := goodIn_r _ [75, 76, 9, 2, 77, 78, 79, 80, 81, 82, 22, 83, 84, 85, 6, 86, 87, 8, 88, 89, 90, 91, 92, 93, 94, 95, 96, 140, 141, 142, 143, 144, 145, 146, 147, 148, 149, 150, 151, 152, 153, 154, 155, 156, 157, 158, 159, 160, 161, 162, 163, 164, 165, 166, 167, 168, 169, 170, 171, 172, 173, 174, 175, 176, 177, 178, 179, 180, 181, 182, 183, 184, 185, 186, 187, 188, 189, 190, 191, 192, 193, 194, 195, 196] (by decide +kernel) (by decide +kernel)
set_option maxRecDepth 20000 in
theorem gX12_readExpression_X12_stepOn : GoodIn wsX12_readExpression (wsV RX12 216 RX12 yX12_stepOn wsX12_stepOn) := goodIn_app (goodIn_of _ (by decide +kernel)) ggX12_readExpression_X12_stepOn
set_option maxRecDepth 20000 in
theorem ggX12_readExpression_X12_lay : GoodIn wsX12_readExpression wsX12_lay := goodIn_r _ [100, 1, 101, 102, 140, 141, 142, 143, 144, 145, 146, 147, 148, 149, 150, 151, 152, 153, 154, 155, 156, 157, 158, 159, 160, 161, 162, 163, 164, 165, 166, 167, 168, 169, 170, 171, 172, 173, 174, 175, 176, 177, 178, 179, 180, 181, 182, 183, 184, 185, 186, 187, 188, 189, 190, 191, 192, 193, 194, 195, 196] (by decide +kernel) (by decide +kernel)
set_option maxRecDepth 20000 in
theorem gX12_readExpression_X12_lay : GoodIn wsX12_readExpression (wsV RX12 225 RX12 yX12_lay wsX12_lay) := goodIn_app (goodIn_of _ (by decide +kernel)) ggX12_readExpression_X12_lay
theorem dX12_readExpression_0 : decode cX12_readExpression 0 = .ok (.aload_n 0, 1) := by decide +kernel
theorem dX12_readExpression_1 : decode cX12_readExpression 1 = .ok (.getfield 191, 3) := by decide +kernel
theorem dX12_readExpression_4 : decode cX12_readExpression 4 = .ok (.ifCond .eq 4, 3) := by decide +kernel
theorem dX12_readExpression_7 : decode cX12_readExpression 7 = .ok (.return_, 1) := by decide +kernel
theorem dX12_readExpression_8 : decode cX12_readExpression 8 = .ok (.aload_n 0, 1) := by decide +kernel
theorem dX12_readExpression_9 : decode cX12_readExpression 9 = .ok (.getfield 165, 3) := by decide +kernel
theorem dX12_readExpression_12 : decode cX12_readExpression 12 = .ok (.iconst 2, 1) := by decide +kernel
theorem dX12_readExpression_13 : decode cX12_readExpression 13 = .ok (.if_icmp .eq 20, 3) := by decide +kernel
theorem dX12_readExpression_16 : decode cX12_readExpression 16 = .ok (.aload_n 0, 1) := by decide +kernel
theorem dX12_readExpression_17 : decode cX12_readExpression 17 = .ok (.getfield 165, 3) := by decide +kernel
theorem dX12_readExpression_20 : decode cX12_readExpression 20 = .ok (.iconst 1, 1) := by decide +kernel
theorem dX12_readExpression_21 : decode cX12_readExpression 21 = .ok (.if_icmp .eq 12, 3) := by decide +kernel
theorem dX12_readExpression_24 : decode cX12_readExpression 24 = .ok (.aload_n 0, 1) := by decide +kernel
theorem dX12_readExpression_25 : decode cX12_readExpression 25 = .ok (.bipush 40, 2) := by decide +kernel
theorem dX12_readExpression_27 : decode cX12_readExpression 27 = .ok (.invokevirtual 209, 3) := by decide +kernel
theorem dX12_readExpression_30 : decode cX12_readExpression 30 = .ok (.ifCond .eq 7, 3) := by decide +kernel
theorem dX12_readExpression_33 : decode cX12_readExpression 33 = .ok (.iconst 1, 1) := by decide +kernel
theorem dX12_readExpression_34 : decode cX12_readExpression 34 = .ok (.goto 4, 3) := by decide +kernel
theorem dX12_readExpression_37 : decode cX12_readExpression 37 = .ok (.iconst 0, 1) := by decide +kernel
theorem dX12_readExpression_38 : decode cX12_readExpression 38 = .ok (.istore_n 2, 1) := by decide +kernel
theorem dX12_readExpression_39 : decode cX12_readExpression 39 = .ok (.iload_n 2, 1) := by decide +kernel
theorem dX12_readExpression_40 : decode cX12_readExpression 40 = .ok (.ifCond .ne 11, 3) := by decide +kernel
theorem dX12_readExpression_43 : decode cX12_readExpression 43 = .ok (.aload_n 0, 1) := by decide +kernel
theorem dX12_readExpression_44 : decode cX12_readExpression 44 = .ok (.iconst 1, 1) := by decide +kernel
theorem dX12_readExpression_45 : decode cX12_readExpression 45 = .ok (.invokevirtual 212, 3) := by decide +kernel
theorem dX12_readExpression_48 : decode cX12_readExpression 48 = .ok (.goto 14, 3) := by decide +kernel
theorem dX12_readExpression_51 : decode cX12_readExpression 51 = .ok (.iload_n 1, 1) := by decide +kernel
theorem dX12_readExpression_52 : decode cX12_readExpression 52 = .ok (.bipush 6, 2) := by decide +kernel
theorem dX12_readExpression_54 : decode cX12_readExpression 54 = .ok (.if_icmp .ne 8, 3) := by decide +kernel
theorem dX12_readExpression_57 : decode cX12_readExpression 57 = .ok (.aload_n 0, 1) := by decide +kernel
theorem dX12_readExpression_58 : decode cX12_readExpression 58 = .ok (.iconst 2, 1) := by decide +kernel
theorem dX12_readExpression_59 : decode cX12_readExpression 59 = .ok (.invokevirtual 212, 3) := by decide +kernel
theorem dX12_readExpression_62 : decode cX12_readExpression 62 = .ok (.aload_n 0, 1) := by decide +kernel
theorem dX12_readExpression_63 : decode cX12_readExpression 63 = .ok (.iload_n 1, 1) := by decide +kernel
theorem dX12_readExpression_64 : decode cX12_readExpression 64 = .ok (.invokevirtual 254, 3) := by decide +kernel
theorem dX12_readExpression_67 : decode cX12_readExpression 67 = .ok (.aload_n 0, 1) := by decide +kernel
theorem dX12_readExpression_68 : decode cX12_readExpression 68 = .ok (.ldc_w 257, 3) := by decide +kernel
theorem dX12_readExpression_71 : decode cX12_readExpression 71 = .ok (.invokevirtual 205, 3) := by decide +kernel
theorem dX12_readExpression_74 : decode cX12_readExpression 74 = .ok (.ifCond .eq 21, 3) := by decide +kernel
theorem dX12_readExpression_77 : decode cX12_readExpression 77 = .ok (.aload_n 0, 1) := by decide +kernel
theorem dX12_readExpression_78 : decode cX12_readExpression 78 = .ok (.invokevirtual 216, 3) := by decide +kernel
theorem dX12_readExpression_81 : decode cX12_readExpression 81 = .ok (.aload_n 0, 1) := by decide +kernel
theorem dX12_readExpression_82 : decode cX12_readExpression 82 = .ok (.iload_n 1, 1) := by decide +kernel
theorem dX12_readExpression_83 : decode cX12_readExpression 83 = .ok (.invokevirtual 254, 3) := by decide +kernel
theorem dX12_readExpression_86 : decode cX12_readExpression 86 = .ok (.aload_n 0, 1) := by decide +kernel
theorem dX12_readExpression_87 : decode cX12_readExpression 87 = .ok (.bipush (-27), 2) := by decide +kernel
theorem dX12_readExpression_89 : decode cX12_readExpression 89 = .ok (.invokevirtual 225, 3) := by decide +kernel
theorem dX12_readExpression_92 : decode cX12_readExpression 92 = .ok (.goto (-25), 3) := by decide +kernel
theorem dX12_readExpression_95 : decode cX12_readExpression 95 = .ok (.return_, 1) := by decide +kernel
set_option maxRecDepth 20000 in
theorem ggX12_sayFarm_X12_wrong : GoodIn wsX12_sayFarm wsX12_wrong := goodIn_r _ [12, 2, 13, 14, 51, 52, 53, 54, 55, 56, 57, 58, 59, 60, 61, 62, 63, 64, 65, 66, 67, 68, 69, 70, 71, 72, 73, 74, 75, 76, 77, 78, 79, 80, 81, 82, 83, 84, 85, 86, 87, 88, 89, 90, 91, 92, 93, 94, 95, 96, 97, 98, 99, 100, 101, 102, 103, 104, 105, 106, 107] (by decide +kernel) (by decide +kernel)
set_option maxRecDepth 20000 in
theorem gX12_sayFarm_X12_wrong : GoodIn wsX12_sayFarm (wsV RX12 212 RX12 yX12_wrong wsX12_wrong) := goodIn_app (goodIn_of _ (by decide +kernel)) ggX12_sayFarm_X12_wrong
set_option maxRecDepth 20000 in
theorem ggX12_sayFarm_X12_stepOn : GoodIn wsX12_sayFarm wsX12_stepOn := goodIn_r _ [18, 19, 13, 20, 21, 22, 23, 24, 25, 26, 27, 28, 29, 30, 11, 31, 32, 33, 34, 35, 36, 37, 38, 39, 40, 41, 42, 51, 52, 53, 54, 55, 56, 57, 58, 59, 60, 61, 62, 63, 64, 65, 66, 67, 68, 69, 70, 71, 72, 73, 74, 75, 76, 77, 78, 79, 80, 81, 82, 83, 84, 85, 86, 87, 88, 89, 90, 91, 92, 93, 94, 95, 96, 97, 98, 99, 100, 101, 102, 103, 104, 105, 106, 107] (by decide +kernel) (by decide +kernel)
set_option maxRecDepth 20000 in
theorem gX12_sayFarm_X12_stepOn : GoodIn wsX12_sayFarm (wsV RX12 216 RX12 yX12_stepOn wsX12_stepOn) := goodIn_app (goodIn_of _ (by decide +kernel)) ggX12_sayFarm_X12_stepOn
set_option maxRecDepth 20000 in
theorem ggX12_sayFarm_X12_numberNow : GoodIn wsX12_sayFarm wsX12_numberNow := goodIn_r _ [46, 2, 20, 27, 13, 21, 8, 9, 10, 11, 12, 14, 51, 52, 53, 54, 55, 56, 57, 58, 59, 60, 61, 62, 63, 64, 65, 66, 67, 68, 69, 70, 71, 72, 73, 74, 75, 76, 77, 78, 79, 80, 81, 82, 83, 84, 85, 86, 87, 88, 89, 90, 91, 92, 93, 94, 95, 96, 97, 98, 99, 100, 101, 102, 103, 104, 105, 106, 107] (by decide +kernel) (by decide +kernel)
set_option maxRecDepth 20000 in
theorem gX12_sayFarm_X12_numberNow : GoodIn wsX12_sayFarm (wsV RX12 219 RX12 yX12_numberNow wsX12_numberNow) := goodIn_app (goodIn_of _ (by decide +kernel)) ggX12_sayFarm_X12_numberNow
set_option maxRecDepth 20000 in
theorem ggX12_sayFarm_X12_readNumber : GoodIn wsX12_sayFarm wsX12_readNumber := goodIn_r _ [50, 2, 43, 44, 45, 11, 46, 20, 27, 13, 21, 8, 9, 10, 12, 14, 15, 16, 17, 18, 19, 22, 23, 24, 25, 26, 28, 29, 30, 31, 32, 33, 34, 35, 36, 37, 38, 39, 40, 41, 42, 51, 52, 53, 54, 55, 56, 57, 58, 59, 60, 61, 62, 63, 64, 65, 66, 67, 68, 69, 70, 71, 72, 73, 74, 75, 76, 77, 78, 79, 80, 81, 82, 83, 84, 85, 86, 87, 88, 89, 90, 91, 92, 93, 94, 95, 96, 97, 98, 99, 100, 101, 102, 103, 104, 105, 106, 107] (by decide +kernel) (by decide +kernel)
set_option maxRecDepth 20000 in
theorem gX12_sayFarm_X12_readNumber : GoodIn wsX12_sayFarm (wsV RX12 222 RX12 yX12_readNumber wsX12_readNumber) := goodIn_app (goodIn_of _ (by decide +kernel)) ggX12_sayFarm_X12_readNumber
theorem dX12_sayFarm_0 : decode cX12_sayFarm 0 = .ok (.aload_n 0, 1) := by decide +kernel
theorem dX12_sayFarm_1 : decode cX12_sayFarm 1 = .ok (.getfield 34, 3) := by decide +kernel
theorem dX12_sayFarm_4 : decode cX12_sayFarm 4 = .ok (.iconst 5, 1) := by decide +kernel
theorem dX12_sayFarm_5 : decode cX12_sayFarm 5 = .ok (.iaload, 1) := by decide +kernel
theorem dX12_sayFarm_6 : decode cX12_sayFarm 6 = .ok (.bipush 9, 2) := by decide +kernel
theorem dX12_sayFarm_8 : decode cX12_sayFarm 8 = .ok (.if_icmp .ne 8, 3) := by decide +kernel
theorem dX12_sayFarm_11 : decode cX12_sayFarm 11 = .ok (.aload_n 0, 1) := by decide +kernel
theorem dX12_sayFarm_12 : decode cX12_sayFarm 12 = .ok (.iconst 2, 1) := by decide +kernel
theorem dX12_sayFarm_13 : decode cX12_sayFarm 13 = .ok (.invokevirtual 212, 3) := by decide +kernel
theorem dX12_sayFarm_16 : decode cX12_sayFarm 16 = .ok (.aload_n 0, 1) := by decide +kernel
theorem dX12_sayFarm_17 : decode cX12_sayFarm 17 = .ok (.getfield 191, 3) := by decide +kernel
theorem dX12_sayFarm_20 : decode cX12_sayFarm 20 = .ok (.ifCond .eq 4, 3) := by decide +kernel
theorem dX12_sayFarm_23 : decode cX12_sayFarm 23 = .ok (.return_, 1) := by decide +kernel
theorem dX12_sayFarm_24 : decode cX12_sayFarm 24 = .ok (.aload_n 0, 1) := by decide +kernel
theorem dX12_sayFarm_25 : decode cX12_sayFarm 25 = .ok (.invokevirtual 216, 3) := by decide +kernel
theorem dX12_sayFarm_28 : decode cX12_sayFarm 28 = .ok (.bipush 9, 2) := by decide +kernel
theorem dX12_sayFarm_30 : decode cX12_sayFarm 30 = .ok (.aload_n 0, 1) := by decide +kernel
theorem dX12_sayFarm_31 : decode cX12_sayFarm 31 = .ok (.getfield 34, 3) := by decide +kernel
theorem dX12_sayFarm_34 : decode cX12_sayFarm 34 = .ok (.iconst 5, 1) := by decide +kernel
theorem dX12_sayFarm_35 : decode cX12_sayFarm 35 = .ok (.iaload, 1) := by decide +kernel
theorem dX12_sayFarm_36 : decode cX12_sayFarm 36 = .ok (.iadd, 1) := by decide +kernel
theorem dX12_sayFarm_37 : decode cX12_sayFarm 37 = .ok (.istore_n 2, 1) := by decide +kernel
theorem dX12_sayFarm_38 : decode cX12_sayFarm 38 = .ok (.aload_n 0, 1) := by decide +kernel
theorem dX12_sayFarm_39 : decode cX12_sayFarm 39 = .ok (.getfield 38, 3) := by decide +kernel
theorem dX12_sayFarm_42 : decode cX12_sayFarm 42 = .ok (.iload_n 2, 1) := by decide +kernel
theorem dX12_sayFarm_43 : decode cX12_sayFarm 43 = .ok (.iload_n 1, 1) := by decide +kernel
theorem dX12_sayFarm_44 : decode cX12_sayFarm 44 = .ok (.iastore, 1) := by decide +kernel
theorem dX12_sayFarm_45 : decode cX12_sayFarm 45 = .ok (.aload_n 0, 1) := by decide +kernel
theorem dX12_sayFarm_46 : decode cX12_sayFarm 46 = .ok (.iconst 0, 1) := by decide +kernel
theorem dX12_sayFarm_47 : decode cX12_sayFarm 47 = .ok (.bipush 99, 2) := by decide +kernel
theorem dX12_sayFarm_49 : decode cX12_sayFarm 49 = .ok (.invokevirtual 219, 3) := by decide +kernel
theorem dX12_sayFarm_52 : decode cX12_sayFarm 52 = .ok (.istore_n 3, 1) := by decide +kernel
theorem dX12_sayFarm_53 : decode cX12_sayFarm 53 = .ok (.bipush 9, 2) := by decide +kernel
theorem dX12_sayFarm_55 : decode cX12_sayFarm 55 = .ok (.istore 4, 2) := by decide +kernel
theorem dX12_sayFarm_57 : decode cX12_sayFarm 57 = .ok (.iload 4, 2) := by decide +kernel
theorem dX12_sayFarm_59 : decode cX12_sayFarm 59 = .ok (.iload_n 2, 1) := by decide +kernel
theorem dX12_sayFarm_60 : decode cX12_sayFarm 60 = .ok (.if_icmp .ge 25, 3) := by decide +kernel
theorem dX12_sayFarm_63 : decode cX12_sayFarm 63 = .ok (.aload_n 0, 1) := by decide +kernel
theorem dX12_sayFarm_64 : decode cX12_sayFarm 64 = .ok (.getfield 41, 3) := by decide +kernel
theorem dX12_sayFarm_67 : decode cX12_sayFarm 67 = .ok (.iload 4, 2) := by decide +kernel
theorem dX12_sayFarm_69 : decode cX12_sayFarm 69 = .ok (.iaload, 1) := by decide +kernel
theorem dX12_sayFarm_70 : decode cX12_sayFarm 70 = .ok (.iload_n 3, 1) := by decide +kernel
theorem dX12_sayFarm_71 : decode cX12_sayFarm 71 = .ok (.if_icmp .ne 8, 3) := by decide +kernel
theorem dX12_sayFarm_74 : decode cX12_sayFarm 74 = .ok (.aload_n 0, 1) := by decide +kernel
theorem dX12_sayFarm_75 : decode cX12_sayFarm 75 = .ok (.iconst 4, 1) := by decide +kernel
theorem dX12_sayFarm_76 : decode cX12_sayFarm 76 = .ok (.invokevirtual 212, 3) := by decide +kernel
theorem dX12_sayFarm_79 : decode cX12_sayFarm 79 = .ok (.iinc 4 1, 3) := by decide +kernel
theorem dX12_sayFarm_82 : decode cX12_sayFarm 82 = .ok (.goto (-25), 3) := by decide +kernel
theorem dX12_sayFarm_85 : decode cX12_sayFarm 85 = .ok (.aload_n 0, 1) := by decide +kernel
theorem dX12_sayFarm_86 : decode cX12_sayFarm 86 = .ok (.getfield 191, 3) := by decide +kernel
theorem dX12_sayFarm_89 : decode cX12_sayFarm 89 = .ok (.ifCond .ne 7, 3) := by decide +kernel
theorem dX12_sayFarm_92 : decode cX12_sayFarm 92 = .ok (.aload_n 0, 1) := by decide +kernel
theorem dX12_sayFarm_93 : decode cX12_sayFarm 93 = .ok (.invokevirtual 216, 3) := by decide +kernel
theorem dX12_sayFarm_96 : decode cX12_sayFarm 96 = .ok (.aload_n 0, 1) := by decide +kernel
theorem dX12_sayFarm_97 : decode cX12_sayFarm 97 = .ok (.getfield 41, 3) := by decide +kernel
theorem dX12_sayFarm_100 : decode cX12_sayFarm 100 = .ok (.iload_n 2, 1) := by decide +kernel
theorem dX12_sayFarm_101 : decode cX12_sayFarm 101 = .ok (.iload_n 3, 1) := by decide +kernel
theorem dX12_sayFarm_102 : decode cX12_sayFarm 102 = .ok (.iastore, 1) := by decide +kernel
theorem dX12_sayFarm_103 : decode cX12_sayFarm 103 = .ok (.aload_n 0, 1) := by decide +kernel
theorem dX12_sayFarm_104 : decode cX12_sayFarm 104 = .ok (.getfield 44, 3) := by decide +kernel
theorem dX12_sayFarm_107 : decode cX12_sayFarm 107 = .ok (.iload_n 2, 1) := by decide +kernel
theorem dX12_sayFarm_108 : decode cX12_sayFarm 108 = .ok (.aload_n 0, 1) := by decide +kernel
theorem dX12_sayFarm_109 : decode cX12_sayFarm 109 = .ok (.iconst 0, 1) := by decide +kernel
theorem dX12_sayFarm_110 : decode cX12_sayFarm 110 = .ok (.bipush 99, 2) := by decide +kernel
theorem dX12_sayFarm_112 : decode cX12_sayFarm 112 = .ok (.invokevirtual 222, 3) := by decide +kernel
theorem dX12_sayFarm_115 : decode cX12_sayFarm 115 = .ok (.iastore, 1) := by decide +kernel
theorem dX12_sayFarm_116 : decode cX12_sayFarm 116 = .ok (.aload_n 0, 1) := by decide +kernel
theorem dX12_sayFarm_117 : decode cX12_sayFarm 117 = .ok (.getfield 47, 3) := by decide +kernel
theorem dX12_sayFarm_120 : decode cX12_sayFarm 120 = .ok (.iload_n 2, 1) := by decide +kernel
theorem dX12_sayFarm_121 : decode cX12_sayFarm 121 = .ok (.aload_n 0, 1) := by decide +kernel
theorem dX12_sayFarm_122 : decode cX12_sayFarm 122 = .ok (.iconst 0, 1) := by decide +kernel
theorem dX12_sayFarm_123 : decode cX12_sayFarm 123 = .ok (.bipush 20, 2) := by decide +kernel
theorem dX12_sayFarm_125 : decode cX12_sayFarm 125 = .ok (.invokevirtual 222, 3) := by decide +kernel
theorem dX12_sayFarm_128 : decode cX12_sayFarm 128 = .ok (.iastore, 1) := by decide +kernel
theorem dX12_sayFarm_129 : decode cX12_sayFarm 129 = .ok (.aload_n 0, 1) := by decide +kernel
theorem dX12_sayFarm_130 : decode cX12_sayFarm 130 = .ok (.getfield 50, 3) := by decide +kernel
theorem dX12_sayFarm_133 : decode cX12_sayFarm 133 = .ok (.iload_n 2, 1) := by decide +kernel
theorem dX12_sayFarm_134 : decode cX12_sayFarm 134 = .ok (.aload_n 0, 1) := by decide +kernel
theorem dX12_sayFarm_135 : decode cX12_sayFarm 135 = .ok (.iconst 1, 1) := by decide +kernel
theorem dX12_sayFarm_136 : decode cX12_sayFarm 136 = .ok (.iconst 5, 1) := by decide +kernel
theorem dX12_sayFarm_137 : decode cX12_sayFarm 137 = .ok (.invokevirtual 222, 3) := by decide +kernel
theorem dX12_sayFarm_140 : decode cX12_sayFarm 140 = .ok (.iastore, 1) := by decide +kernel
theorem dX12_sayFarm_141 : decode cX12_sayFarm 141 = .ok (.aload_n 0, 1) := by decide +kernel
theorem dX12_sayFarm_142 : decode cX12_sayFarm 142 = .ok (.getfield 34, 3) := by decide +kernel
theorem dX12_sayFarm_145 : decode cX12_sayFarm 145 = .ok (.iconst 5, 1) := by decide +kernel
theorem dX12_sayFarm_146 : decode cX12_sayFarm 146 = .ok (.dup2, 1) := by decide +kernel
theorem dX12_sayFarm_147 : decode cX12_sayFarm 147 = .ok (.iaload, 1) := by decide +kernel
theorem dX12_sayFarm_148 : decode cX12_sayFarm 148 = .ok (.iconst 1, 1) := by decide +kernel
theorem dX12_sayFarm_149 : decode cX12_sayFarm 149 = .ok (.iadd, 1) := by decide +kernel
theorem dX12_sayFarm_150 : decode cX12_sayFarm 150 = .ok (.iastore, 1) := by decide +kernel
theorem dX12_sayFarm_151 : decode cX12_sayFarm 151 = .ok (.return_, 1) := by decide +kernel
set_option maxRecDepth 20000 in
theorem ggX12_sayMists_X12_wrong : GoodIn wsX12_sayMists wsX12_wrong := goodIn_r _ [9, 1, 10, 11, 47, 48, 49, 50, 51, 52, 53, 54, 55, 56, 57, 58, 59, 60, 61, 62, 63, 64, 65, 66, 67, 68, 69, 70, 71, 72, 73, 74, 75, 76, 77, 78, 79, 80, 81, 82, 83, 84, 85, 86, 87, 88, 89, 90, 91, 92, 93, 94, 95, 96, 97, 98, 99, 100, 101, 102, 103] (by decide +kernel) (by decide +kernel)
set_option maxRecDepth 20000 in
theorem gX12_sayMists_X12_wrong : GoodIn wsX12_sayMists (wsV RX12 212 RX12 yX12_wrong wsX12_wrong) := goodIn_app (goodIn_of _ (by decide +kernel)) ggX12_sayMists_X12_wrong
set_option maxRecDepth 20000 in
theorem ggX12_sayMists_X12_readNumber : GoodIn wsX12_sayMists wsX12_readNumber := goodIn_r _ [15, 1, 16, 17, 18, 8, 19, 2, 20, 10, 21, 5, 6, 7, 9, 11, 22, 23, 24, 25, 26, 27, 28, 29, 30, 31, 32, 33, 34, 35, 36, 37, 38, 39, 40, 41, 42, 43, 44, 45, 46, 47, 48, 49, 50, 51, 52, 53, 54, 55, 56, 57, 58, 59, 60, 61, 62, 63, 64, 65, 66, 67, 68, 69, 70, 71, 72, 73, 74, 75, 76, 77, 78, 79, 80, 81, 82, 83, 84, 85, 86, 87, 88, 89, 90, 91, 92, 93, 94, 95, 96, 97, 98, 99, 100, 101, 102, 103] (by decide +kernel) (by decide +kernel)
set_option maxRecDepth 20000 in
theorem gX12_sayMists_X12_readNumber : GoodIn wsX12_sayMists (wsV RX12 222 RX12 yX12_readNumber wsX12_readNumber) := goodIn_app (goodIn_of _ (by decide +kernel)) ggX12_sayMists_X12_readNumber
theorem dX12_sayMists_0 : decode cX12_sayMists 0 = .ok (.iconst 0, 1) := by decide +kernel
theorem dX12_sayMists_1 : decode cX12_sayMists 1 = .ok (.istore_n 1, 1) := by decide +kernel
theorem dX12_sayMists_2 : decode cX12_sayMists 2 = .ok (.aload_n 0, 1) := by decide +kernel
theorem dX12_sayMists_3 : decode cX12_sayMists 3 = .ok (.getfield 191, 3) := by decide +kernel
theorem dX12_sayMists_6 : decode cX12_sayMists 6 = .ok (.ifCond .ne 16, 3) := by decide +kernel
theorem dX12_sayMists_9 : decode cX12_sayMists 9 = .ok (.aload_n 0, 1) := by decide +kernel
theorem dX12_sayMists_10 : decode cX12_sayMists 10 = .ok (.getfield 165, 3) := by decide +kernel
theorem dX12_sayMists_13 : decode cX12_sayMists 13 = .ok (.iconst 2, 1) := by decide +kernel
theorem dX12_sayMists_14 : decode cX12_sayMists 14 = .ok (.if_icmp .eq 8, 3) := by decide +kernel
theorem dX12_sayMists_17 : decode cX12_sayMists 17 = .ok (.aload_n 0, 1) := by decide +kernel
theorem dX12_sayMists_18 : decode cX12_sayMists 18 = .ok (.iconst 1, 1) := by decide +kernel
theorem dX12_sayMists_19 : decode cX12_sayMists 19 = .ok (.invokevirtual 212, 3) := by decide +kernel
theorem dX12_sayMists_22 : decode cX12_sayMists 22 = .ok (.aload_n 0, 1) := by decide +kernel
theorem dX12_sayMists_23 : decode cX12_sayMists 23 = .ok (.getfield 191, 3) := by decide +kernel
theorem dX12_sayMists_26 : decode cX12_sayMists 26 = .ok (.ifCond .ne 54, 3) := by decide +kernel
theorem dX12_sayMists_29 : decode cX12_sayMists 29 = .ok (.aload_n 0, 1) := by decide +kernel
theorem dX12_sayMists_30 : decode cX12_sayMists 30 = .ok (.getfield 165, 3) := by decide +kernel
theorem dX12_sayMists_33 : decode cX12_sayMists 33 = .ok (.iconst 2, 1) := by decide +kernel
theorem dX12_sayMists_34 : decode cX12_sayMists 34 = .ok (.if_icmp .ne 46, 3) := by decide +kernel
theorem dX12_sayMists_37 : decode cX12_sayMists 37 = .ok (.iload_n 1, 1) := by decide +kernel
theorem dX12_sayMists_38 : decode cX12_sayMists 38 = .ok (.bipush 8, 2) := by decide +kernel
theorem dX12_sayMists_40 : decode cX12_sayMists 40 = .ok (.if_icmp .ne 8, 3) := by decide +kernel
theorem dX12_sayMists_43 : decode cX12_sayMists 43 = .ok (.aload_n 0, 1) := by decide +kernel
theorem dX12_sayMists_44 : decode cX12_sayMists 44 = .ok (.iconst 2, 1) := by decide +kernel
theorem dX12_sayMists_45 : decode cX12_sayMists 45 = .ok (.invokevirtual 212, 3) := by decide +kernel
theorem dX12_sayMists_48 : decode cX12_sayMists 48 = .ok (.aload_n 0, 1) := by decide +kernel
theorem dX12_sayMists_49 : decode cX12_sayMists 49 = .ok (.iconst 0, 1) := by decide +kernel
theorem dX12_sayMists_50 : decode cX12_sayMists 50 = .ok (.bipush 9, 2) := by decide +kernel
theorem dX12_sayMists_52 : decode cX12_sayMists 52 = .ok (.invokevirtual 222, 3) := by decide +kernel
theorem dX12_sayMists_55 : decode cX12_sayMists 55 = .ok (.istore_n 2, 1) := by decide +kernel
theorem dX12_sayMists_56 : decode cX12_sayMists 56 = .ok (.aload_n 0, 1) := by decide +kernel
theorem dX12_sayMists_57 : decode cX12_sayMists 57 = .ok (.getfield 191, 3) := by decide +kernel
theorem dX12_sayMists_60 : decode cX12_sayMists 60 = .ok (.ifCond .eq 4, 3) := by decide +kernel
theorem dX12_sayMists_63 : decode cX12_sayMists 63 = .ok (.return_, 1) := by decide +kernel
theorem dX12_sayMists_64 : decode cX12_sayMists 64 = .ok (.aload_n 0, 1) := by decide +kernel
theorem dX12_sayMists_65 : decode cX12_sayMists 65 = .ok (.getfield 53, 3) := by decide +kernel
theorem dX12_sayMists_68 : decode cX12_sayMists 68 = .ok (.bipush 8, 2) := by decide +kernel
theorem dX12_sayMists_70 : decode cX12_sayMists 70 = .ok (.iload_n 1, 1) := by decide +kernel
theorem dX12_sayMists_71 : decode cX12_sayMists 71 = .ok (.iadd, 1) := by decide +kernel
theorem dX12_sayMists_72 : decode cX12_sayMists 72 = .ok (.iload_n 2, 1) := by decide +kernel
theorem dX12_sayMists_73 : decode cX12_sayMists 73 = .ok (.iastore, 1) := by decide +kernel
theorem dX12_sayMists_74 : decode cX12_sayMists 74 = .ok (.iinc 1 1, 3) := by decide +kernel
theorem dX12_sayMists_77 : decode cX12_sayMists 77 = .ok (.goto (-55), 3) := by decide +kernel
theorem dX12_sayMists_80 : decode cX12_sayMists 80 = .ok (.aload_n 0, 1) := by decide +kernel
theorem dX12_sayMists_81 : decode cX12_sayMists 81 = .ok (.getfield 34, 3) := by decide +kernel
theorem dX12_sayMists_84 : decode cX12_sayMists 84 = .ok (.bipush 8, 2) := by decide +kernel
theorem dX12_sayMists_86 : decode cX12_sayMists 86 = .ok (.iload_n 1, 1) := by decide +kernel
theorem dX12_sayMists_87 : decode cX12_sayMists 87 = .ok (.iastore, 1) := by decide +kernel
theorem dX12_sayMists_88 : decode cX12_sayMists 88 = .ok (.return_, 1) := by decide +kernel
set_option maxRecDepth 20000 in
theorem ggX12_sayOnce_X12_stepOn : GoodIn wsX12_sayOnce wsX12_stepOn := goodIn_r _ [6, 7, 8, 9, 10, 11, 12, 13, 14, 15, 16, 17, 18, 19, 5, 20, 21, 22, 23, 24, 25, 26, 27, 28, 29, 30, 31, 146, 147, 148, 149, 150, 151, 152, 153, 154, 155, 156, 157, 158, 159, 160, 161, 162, 163, 164, 165, 166, 167, 168, 169, 170, 171, 172, 173, 174, 175, 176, 177, 178, 179, 180, 181, 182, 183, 184, 185, 186, 187, 188, 189, 190, 191, 192, 193, 194, 195, 196, 197, 198, 199, 200, 201, 202] (by decide +kernel) (by decide +kernel)
set_option maxRecDepth 20000 in
theorem gX12_sayOnce_X12_stepOn : GoodIn wsX12_sayOnce (wsV RX12 216 RX12 yX12_stepOn wsX12_stepOn) := goodIn_app (goodIn_of _ (by decide +kernel)) ggX12_sayOnce_X12_stepOn
set_option maxRecDepth 20000 in
theorem ggX12_sayOnce_X12_sayMists : GoodIn wsX12_sayOnce wsX12_sayMists := goodIn_r _ [35, 36, 9, 37, 1, 38, 39, 40, 5, 41, 8, 42, 43, 44, 45, 46, 47, 48, 49, 50, 16, 10, 2, 3, 4, 6, 7, 11, 12, 13, 14, 15, 17, 18, 19, 20, 21, 22, 23, 24, 25, 26, 27, 28, 29, 30, 31, 146, 147, 148, 149, 150, 151, 152, 153, 154, 155, 156, 157, 158, 159, 160, 161, 162, 163, 164, 165, 166, 167, 168, 169, 170, 171, 172, 173, 174, 175, 176, 177, 178, 179, 180, 181, 182, 183, 184, 185, 186, 187, 188, 189, 190, 191, 192, 193, 194, 195, 196, 197, 198, 199, 200, 201, 202] (by decide +kernel) (by decide +kernel)
set_option maxRecDepth 20000 in
theorem gX12_sayOnce_X12_sayMists : GoodIn wsX12_sayOnce (wsV RX12 259 RX12 yX12_sayMists wsX12_sayMists) := goodIn_app (goodIn_of _ (by decide +kernel)) ggX12_sayOnce_X12_sayMists
set_option maxRecDepth 20000 in
theorem ggX12_sayOnce_X12_readNumber : GoodIn wsX12_sayOnce wsX12_readNumber := goodIn_r _ [46, 36, 47, 48, 49, 5, 50, 9, 16, 8, 10, 38, 39, 40, 41, 42, 2, 3, 4, 6, 7, 11, 12, 13, 14, 15, 17, 18, 19, 20, 21, 22, 23, 24, 25, 26, 27, 28, 29, 30, 31, 146, 147, 148, 149, 150, 151, 152, 153, 154, 155, 156, 157, 158, 159, 160, 161, 162, 163, 164, 165, 166, 167, 168, 169, 170, 171, 172, 173, 174, 175, 176, 177, 178, 179, 180, 181, 182, 183, 184, 185, 186, 187, 188, 189, 190, 191, 192, 193, 194, 195, 196, 197, 198, 199, 200, 201, 202] (by decide +kernel) (by decide +kernel)
set_option maxRecDepth 20000 in
theorem gX12_sayOnce_X12_readNumber : GoodIn wsX12_sayOnce (wsV RX12 222 RX12 yX12_readNumber wsX12_readNumber) := goodIn_app (goodIn_of _ (by decide +kernel)) ggX12_sayOnce_X12_readNumber
set_option maxRecDepth 20000 in
theorem ggX12_sayOnce_X12_readExpression : GoodIn wsX12_sayOnce wsX12_readExpression := goodIn_r _ [54, 36, 9, 55, 56, 57, 5, 58, 22, 8, 38, 39, 40, 41, 42, 59, 60, 61, 62, 63, 64, 65, 16, 66, 67, 68, 69, 70, 71, 72, 73, 74, 75, 76, 77, 78, 79, 80, 81, 82, 83, 84, 85, 86, 87, 88, 89, 90, 91, 92, 93, 94, 95, 96, 97, 98, 99, 100, 101, 102, 103, 104, 105, 106, 107, 108, 109, 110, 111, 112, 113, 114, 2, 3, 4, 6, 7, 10, 11, 12, 13, 14, 15, 17, 18, 19, 20, 21, 23, 24, 25, 26, 27, 28, 29, 30, 31, 115, 116, 117, 118, 119, 1, 120, 121, 122, 123, 124, 125, 126, 127, 128, 129, 43, 44, 45, 46, 47, 48, 49, 50, 130, 131, 132, 133, 134, 135, 136, 137, 51, 52, 53, 138, 139, 140, 141, 142, 143, 144, 145, 146, 147, 148, 149, 150, 151, 152, 153, 154, 155, 156, 157, 158, 159, 160, 161, 162, 163, 164, 165, 166, 167, 168, 169, 170, 171, 172, 173, 174, 175, 176, 177, 178, 179, 180, 181, 182, 183, 184, 185, 186, 187, 188, 189, 190, 191, 192, 193, 194, 195, 196, 197, 198, 199, 200, 201, 202] (by decide +kernel) (by decide +kernel)
set_option maxRecDepth 20000 in
theorem gX12_sayOnce_X12_readExpression : GoodIn wsX12_sayOnce (wsV RX12 235 RX12 yX12_readExpression wsX12_readExpression) := goodIn_app (goodIn_of _ (by decide +kernel)) ggX12_sayOnce_X12_readExpression
theorem dX12_sayOnce_0 : decode cX12_sayOnce 0 = .ok (.aload_n 0, 1) := by decide +kernel
theorem dX12_sayOnce_1 : decode cX12_sayOnce 1 = .ok (.invokevirtual 216, 3) := by decide +kernel
theorem dX12_sayOnce_4 : decode cX12_sayOnce 4 = .ok (.iload_n 1, 1) := by decide +kernel
theorem dX12_sayOnce_5 : decode cX12_sayOnce 5 = .ok (.iconst 1, 1) := by decide +kernel
theorem dX12_sayOnce_6 : decode cX12_sayOnce 6 = .ok (.if_icmp .ne 7, 3) := by decide +kernel
theorem dX12_sayOnce_9 : decode cX12_sayOnce 9 = .ok (.aload_n 0, 1) := by decide +kernel
theorem dX12_sayOnce_10 : decode cX12_sayOnce 10 = .ok (.invokevirtual 259, 3) := by decide +kernel
theorem dX12_sayOnce_13 : decode cX12_sayOnce 13 = .ok (.iload_n 1, 1) := by decide +kernel
theorem dX12_sayOnce_14 : decode cX12_sayOnce 14 = .ok (.iconst 2, 1) := by decide +kernel
theorem dX12_sayOnce_15 : decode cX12_sayOnce 15 = .ok (.if_icmp .ne 17, 3) := by decide +kernel
theorem dX12_sayOnce_18 : decode cX12_sayOnce 18 = .ok (.aload_n 0, 1) := by decide +kernel
theorem dX12_sayOnce_19 : decode cX12_sayOnce 19 = .ok (.getfield 34, 3) := by decide +kernel
theorem dX12_sayOnce_22 : decode cX12_sayOnce 22 = .ok (.bipush 6, 2) := by decide +kernel
theorem dX12_sayOnce_24 : decode cX12_sayOnce 24 = .ok (.aload_n 0, 1) := by decide +kernel
theorem dX12_sayOnce_25 : decode cX12_sayOnce 25 = .ok (.iconst 1, 1) := by decide +kernel
theorem dX12_sayOnce_26 : decode cX12_sayOnce 26 = .ok (.bipush 99, 2) := by decide +kernel
theorem dX12_sayOnce_28 : decode cX12_sayOnce 28 = .ok (.invokevirtual 222, 3) := by decide +kernel
theorem dX12_sayOnce_31 : decode cX12_sayOnce 31 = .ok (.iastore, 1) := by decide +kernel
theorem dX12_sayOnce_32 : decode cX12_sayOnce 32 = .ok (.iload_n 1, 1) := by decide +kernel
theorem dX12_sayOnce_33 : decode cX12_sayOnce 33 = .ok (.iconst 4, 1) := by decide +kernel
theorem dX12_sayOnce_34 : decode cX12_sayOnce 34 = .ok (.if_icmp .ne 17, 3) := by decide +kernel
theorem dX12_sayOnce_37 : decode cX12_sayOnce 37 = .ok (.aload_n 0, 1) := by decide +kernel
theorem dX12_sayOnce_38 : decode cX12_sayOnce 38 = .ok (.getfield 34, 3) := by decide +kernel
theorem dX12_sayOnce_41 : decode cX12_sayOnce 41 = .ok (.bipush 7, 2) := by decide +kernel
theorem dX12_sayOnce_43 : decode cX12_sayOnce 43 = .ok (.aload_n 0, 1) := by decide +kernel
theorem dX12_sayOnce_44 : decode cX12_sayOnce 44 = .ok (.iconst 0, 1) := by decide +kernel
theorem dX12_sayOnce_45 : decode cX12_sayOnce 45 = .ok (.bipush 9, 2) := by decide +kernel
theorem dX12_sayOnce_47 : decode cX12_sayOnce 47 = .ok (.invokevirtual 222, 3) := by decide +kernel
theorem dX12_sayOnce_50 : decode cX12_sayOnce 50 = .ok (.iastore, 1) := by decide +kernel
theorem dX12_sayOnce_51 : decode cX12_sayOnce 51 = .ok (.iload_n 1, 1) := by decide +kernel
theorem dX12_sayOnce_52 : decode cX12_sayOnce 52 = .ok (.bipush 8, 2) := by decide +kernel
theorem dX12_sayOnce_54 : decode cX12_sayOnce 54 = .ok (.if_icmp .ne 8, 3) := by decide +kernel
theorem dX12_sayOnce_57 : decode cX12_sayOnce 57 = .ok (.aload_n 0, 1) := by decide +kernel
theorem dX12_sayOnce_58 : decode cX12_sayOnce 58 = .ok (.iconst 0, 1) := by decide +kernel
theorem dX12_sayOnce_59 : decode cX12_sayOnce 59 = .ok (.invokevirtual 235, 3) := by decide +kernel
theorem dX12_sayOnce_62 : decode cX12_sayOnce 62 = .ok (.return_, 1) := by decide +kernel
set_option maxRecDepth 20000 in
theorem ggX12_readLine_X12_which : GoodIn wsX12_readLine wsX12_which := goodIn_r _ [7, 8, 9, 10, 6, 11, 2, 12, 13, 14, 15, 16, 17, 18, 19, 20, 21, 22, 23, 24, 25, 26, 27, 28, 29, 30, 31, 32, 33, 34, 35, 36, 37, 38, 39, 40, 41, 42, 43, 44, 45, 46, 47, 48, 49, 50, 51, 52, 53, 54, 55, 56, 57, 58, 59, 60, 61, 62, 63, 64, 160, 161, 162, 163, 164, 165, 166, 167, 168, 169, 170, 171, 172, 173, 174, 175, 176, 177, 178, 179, 180, 181, 182, 183, 184, 185, 186, 187, 188, 189, 190, 191, 192, 193, 194, 195, 196, 197, 198, 199, 200, 201, 202, 203, 204, 205, 206, 207, 208, 209, 210, 211, 212, 213, 214, 215, 216] (by decide +kernel) (by decide +kernel)
set_option maxRecDepth 20000 in
theorem gX12_readLine_X12_which : GoodIn wsX12_readLine (wsV RX12 228 RX12 yX12_which wsX12_which) := goodIn_app (goodIn_of _ (by decide +kernel)) ggX12_readLine_X12_which
set_option maxRecDepth 20000 in
theorem ggX12_readLine_X12_is : GoodIn wsX12_readLine wsX12_is := goodIn_r _ [11, 2, 12, 13, 14, 15, 16, 17, 18, 19, 20, 21, 22, 23, 24, 25, 26, 27, 28, 29, 30, 31, 32, 33, 34, 35, 36, 37, 38, 39, 40, 41, 42, 43, 44, 45, 46, 47, 48, 49, 50, 51, 52, 53, 54, 55, 56, 57, 58, 59, 60, 61, 62, 63, 64, 160, 161, 162, 163, 164, 165, 166, 167, 168, 169, 170, 171, 172, 173, 174, 175, 176, 177, 178, 179, 180, 181, 182, 183, 184, 185, 186, 187, 188, 189, 190, 191, 192, 193, 194, 195, 196, 197, 198, 199, 200, 201, 202, 203, 204, 205, 206, 207, 208, 209, 210, 211, 212, 213, 214, 215, 216] (by decide +kernel) (by decide +kernel)
set_option maxRecDepth 20000 in
theorem gX12_readLine_X12_is : GoodIn wsX12_readLine (wsV RX12 205 RX12 yX12_is wsX12_is) := goodIn_app (goodIn_of _ (by decide +kernel)) ggX12_readLine_X12_is
set_option maxRecDepth 20000 in
theorem ggX12_readLine_X12_wrong : GoodIn wsX12_readLine wsX12_wrong := goodIn_r _ [68, 2, 14, 69, 160, 161, 162, 163, 164, 165, 166, 167, 168, 169, 170, 171, 172, 173, 174, 175, 176, 177, 178, 179, 180, 181, 182, 183, 184, 185, 186, 187, 188, 189, 190, 191, 192, 193, 194, 195, 196, 197, 198, 199, 200, 201, 202, 203, 204, 205, 206, 207, 208, 209, 210, 211, 212, 213, 214, 215, 216] (by decide +kernel) (by decide +kernel)
set_option maxRecDepth 20000 in
theorem gX12_readLine_X12_wrong : GoodIn wsX12_readLine (wsV RX12 212 RX12 yX12_wrong wsX12_wrong) := goodIn_app (goodIn_of _ (by decide +kernel)) ggX12_readLine_X12_wrong
set_option maxRecDepth 20000 in
theorem ggX12_readLine_X12_sayOnce : GoodIn wsX12_readLine wsX12_sayOnce := goodIn_r _ [73, 74, 75, 76, 77, 6, 78, 79, 14, 12, 80, 81, 82, 83, 84, 85, 13, 86, 87, 88, 89, 90, 15, 91, 92, 93, 94, 95, 96, 97, 98, 99, 100, 101, 102, 103, 2, 104, 65, 66, 67, 68, 69, 105, 106, 107, 108, 109, 110, 111, 112, 113, 114, 115, 116, 117, 118, 119, 120, 121, 122, 123, 8, 9, 10, 11, 16, 17, 18, 19, 20, 21, 22, 23, 24, 25, 26, 27, 28, 29, 30, 31, 32, 33, 34, 35, 36, 37, 38, 39, 40, 41, 42, 43, 44, 45, 46, 47, 48, 49, 50, 51, 52, 53, 54, 55, 56, 57, 58, 59, 60, 61, 62, 63, 64, 124, 125, 126, 127, 128, 129, 130, 131, 132, 133, 134, 135, 136, 137, 138, 3, 4, 5, 7, 139, 140, 141, 142, 143, 144, 145, 146, 147, 148, 149, 150, 160, 161, 162, 163, 164, 165, 166, 167, 168, 169, 170, 171, 172, 173, 174, 175, 176, 177, 178, 179, 180, 181, 182, 183, 184, 185, 186, 187, 188, 189, 190, 191, 192, 193, 194, 195, 196, 197, 198, 199, 200, 201, 202, 203, 204, 205, 206, 207, 208, 209, 210, 211, 212, 213, 214, 215, 216] (by decide +kernel) (by decide +kernel)
set_option maxRecDepth 20000 in
theorem gX12_readLine_X12_sayOnce : GoodIn wsX12_readLine (wsV RX12 268 RX12 yX12_sayOnce wsX12_sayOnce) := goodIn_app (goodIn_of _ (by decide +kernel)) ggX12_readLine_X12_sayOnce
set_option maxRecDepth 20000 in
theorem ggX12_readLine_X12_sayFarm : GoodIn wsX12_readLine wsX12_sayFarm := goodIn_r _ [154, 74, 2, 155, 156, 157, 158, 159, 65, 66, 67, 6, 68, 14, 69, 75, 76, 77, 78, 79, 12, 80, 81, 82, 83, 84, 85, 13, 86, 87, 88, 89, 90, 15, 91, 92, 93, 94, 95, 96, 97, 98, 99, 109, 110, 111, 112, 105, 106, 107, 108, 160, 161, 162, 163, 164, 165, 166, 167, 168, 169, 170, 171, 172, 173, 174, 175, 176, 177, 178, 179, 180, 181, 182, 183, 184, 185, 186, 187, 188, 189, 190, 191, 192, 193, 194, 195, 196, 197, 198, 199, 200, 201, 202, 203, 204, 205, 206, 207, 208, 209, 210, 211, 212, 213, 214, 215, 216] (by decide +kernel) (by decide +kernel)
set_option maxRecDepth 20000 in
theorem gX12_readLine_X12_sayFarm : GoodIn wsX12_readLine (wsV RX12 271 RX12 yX12_sayFarm wsX12_sayFarm) := goodIn_app (goodIn_of _ (by decide +kernel)) ggX12_readLine_X12_sayFarm
set_option maxRecDepth 20000 in
theorem ggX12_readLine_X12_mark : GoodIn wsX12_readLine wsX12_mark := goodIn_r _ [142, 2, 117, 118, 119, 6, 120, 12, 15, 14, 65, 66, 67, 68, 69, 75, 76, 77, 78, 79, 80, 81, 82, 83, 84, 85, 13, 86, 87, 88, 89, 90, 91, 92, 93, 94, 95, 96, 97, 98, 99, 160, 161, 162, 163, 164, 165, 166, 167, 168, 169, 170, 171, 172, 173, 174, 175, 176, 177, 178, 179, 180, 181, 182, 183, 184, 185, 186, 187, 188, 189, 190, 191, 192, 193, 194, 195, 196, 197, 198, 199, 200, 201, 202, 203, 204, 205, 206, 207, 208, 209, 210, 211, 212, 213, 214, 215, 216] (by decide +kernel) (by decide +kernel)
set_option maxRecDepth 20000 in
theorem gX12_readLine_X12_mark : GoodIn wsX12_readLine (wsV RX12 232 RX12 yX12_mark wsX12_mark) := goodIn_app (goodIn_of _ (by decide +kernel)) ggX12_readLine_X12_mark
theorem dX12_readLine_0 : decode cX12_readLine 0 = .ok (.aload_n 0, 1) := by decide +kernel
theorem dX12_readLine_1 : decode cX12_readLine 1 = .ok (.aload_n 0, 1) := by decide +kernel
theorem dX12_readLine_2 : decode cX12_readLine 2 = .ok (.getfield 15, 3) := by decide +kernel
theorem dX12_readLine_5 : decode cX12_readLine 5 = .ok (.invokevirtual 228, 3) := by decide +kernel
theorem dX12_readLine_8 : decode cX12_readLine 8 = .ok (.istore_n 2, 1) := by decide +kernel
theorem dX12_readLine_9 : decode cX12_readLine 9 = .ok (.aload_n 0, 1) := by decide +kernel
theorem dX12_readLine_10 : decode cX12_readLine 10 = .ok (.ldc 27, 2) := by decide +kernel
theorem dX12_readLine_12 : decode cX12_readLine 12 = .ok (.invokevirtual 205, 3) := by decide +kernel
theorem dX12_readLine_15 : decode cX12_readLine 15 = .ok (.ifCond .eq 7, 3) := by decide +kernel
theorem dX12_readLine_18 : decode cX12_readLine 18 = .ok (.iconst 1, 1) := by decide +kernel
theorem dX12_readLine_19 : decode cX12_readLine 19 = .ok (.goto 47, 3) := by decide +kernel
theorem dX12_readLine_22 : decode cX12_readLine 22 = .ok (.aload_n 0, 1) := by decide +kernel
theorem dX12_readLine_23 : decode cX12_readLine 23 = .ok (.ldc_w 262, 3) := by decide +kernel
theorem dX12_readLine_26 : decode cX12_readLine 26 = .ok (.invokevirtual 205, 3) := by decide +kernel
theorem dX12_readLine_29 : decode cX12_readLine 29 = .ok (.ifCond .eq 7, 3) := by decide +kernel
theorem dX12_readLine_32 : decode cX12_readLine 32 = .ok (.iconst 2, 1) := by decide +kernel
theorem dX12_readLine_33 : decode cX12_readLine 33 = .ok (.goto 33, 3) := by decide +kernel
theorem dX12_readLine_36 : decode cX12_readLine 36 = .ok (.aload_n 0, 1) := by decide +kernel
theorem dX12_readLine_37 : decode cX12_readLine 37 = .ok (.ldc_w 264, 3) := by decide +kernel
theorem dX12_readLine_40 : decode cX12_readLine 40 = .ok (.invokevirtual 205, 3) := by decide +kernel
theorem dX12_readLine_43 : decode cX12_readLine 43 = .ok (.ifCond .eq 7, 3) := by decide +kernel
theorem dX12_readLine_46 : decode cX12_readLine 46 = .ok (.iconst 4, 1) := by decide +kernel
theorem dX12_readLine_47 : decode cX12_readLine 47 = .ok (.goto 19, 3) := by decide +kernel
theorem dX12_readLine_50 : decode cX12_readLine 50 = .ok (.aload_n 0, 1) := by decide +kernel
theorem dX12_readLine_51 : decode cX12_readLine 51 = .ok (.ldc_w 266, 3) := by decide +kernel
theorem dX12_readLine_54 : decode cX12_readLine 54 = .ok (.invokevirtual 205, 3) := by decide +kernel
theorem dX12_readLine_57 : decode cX12_readLine 57 = .ok (.ifCond .eq 8, 3) := by decide +kernel
theorem dX12_readLine_60 : decode cX12_readLine 60 = .ok (.bipush 8, 2) := by decide +kernel
theorem dX12_readLine_62 : decode cX12_readLine 62 = .ok (.goto 4, 3) := by decide +kernel
theorem dX12_readLine_65 : decode cX12_readLine 65 = .ok (.iconst 0, 1) := by decide +kernel
theorem dX12_readLine_66 : decode cX12_readLine 66 = .ok (.istore_n 3, 1) := by decide +kernel
theorem dX12_readLine_67 : decode cX12_readLine 67 = .ok (.iload_n 3, 1) := by decide +kernel
theorem dX12_readLine_68 : decode cX12_readLine 68 = .ok (.iload_n 1, 1) := by decide +kernel
theorem dX12_readLine_69 : decode cX12_readLine 69 = .ok (.iand, 1) := by decide +kernel
theorem dX12_readLine_70 : decode cX12_readLine 70 = .ok (.ifCond .eq 8, 3) := by decide +kernel
theorem dX12_readLine_73 : decode cX12_readLine 73 = .ok (.aload_n 0, 1) := by decide +kernel
theorem dX12_readLine_74 : decode cX12_readLine 74 = .ok (.iconst 5, 1) := by decide +kernel
theorem dX12_readLine_75 : decode cX12_readLine 75 = .ok (.invokevirtual 212, 3) := by decide +kernel
theorem dX12_readLine_78 : decode cX12_readLine 78 = .ok (.iload_n 3, 1) := by decide +kernel
theorem dX12_readLine_79 : decode cX12_readLine 79 = .ok (.ifCond .le 18, 3) := by decide +kernel
theorem dX12_readLine_82 : decode cX12_readLine 82 = .ok (.aload_n 0, 1) := by decide +kernel
theorem dX12_readLine_83 : decode cX12_readLine 83 = .ok (.getfield 191, 3) := by decide +kernel
theorem dX12_readLine_86 : decode cX12_readLine 86 = .ok (.ifCond .ne 11, 3) := by decide +kernel
theorem dX12_readLine_89 : decode cX12_readLine 89 = .ok (.aload_n 0, 1) := by decide +kernel
theorem dX12_readLine_90 : decode cX12_readLine 90 = .ok (.iload_n 3, 1) := by decide +kernel
theorem dX12_readLine_91 : decode cX12_readLine 91 = .ok (.invokevirtual 268, 3) := by decide +kernel
theorem dX12_readLine_94 : decode cX12_readLine 94 = .ok (.goto 21, 3) := by decide +kernel
theorem dX12_readLine_97 : decode cX12_readLine 97 = .ok (.iload_n 2, 1) := by decide +kernel
theorem dX12_readLine_98 : decode cX12_readLine 98 = .ok (.iconst (-1), 1) := by decide +kernel
theorem dX12_readLine_99 : decode cX12_readLine 99 = .ok (.if_icmp .eq 11, 3) := by decide +kernel
theorem dX12_readLine_102 : decode cX12_readLine 102 = .ok (.aload_n 0, 1) := by decide +kernel
theorem dX12_readLine_103 : decode cX12_readLine 103 = .ok (.iload_n 2, 1) := by decide +kernel
theorem dX12_readLine_104 : decode cX12_readLine 104 = .ok (.invokevirtual 271, 3) := by decide +kernel
theorem dX12_readLine_107 : decode cX12_readLine 107 = .ok (.goto 8, 3) := by decide +kernel
theorem dX12_readLine_110 : decode cX12_readLine 110 = .ok (.aload_n 0, 1) := by decide +kernel
theorem dX12_readLine_111 : decode cX12_readLine 111 = .ok (.iconst 1, 1) := by decide +kernel
theorem dX12_readLine_112 : decode cX12_readLine 112 = .ok (.invokevirtual 212, 3) := by decide +kernel
theorem dX12_readLine_115 : decode cX12_readLine 115 = .ok (.aload_n 0, 1) := by decide +kernel
theorem dX12_readLine_116 : decode cX12_readLine 116 = .ok (.bipush 59, 2) := by decide +kernel
theorem dX12_readLine_118 : decode cX12_readLine 118 = .ok (.invokevirtual 232, 3) := by decide +kernel
theorem dX12_readLine_121 : decode cX12_readLine 121 = .ok (.iload_n 1, 1) := by decide +kernel
theorem dX12_readLine_122 : decode cX12_readLine 122 = .ok (.iload_n 3, 1) := by decide +kernel
theorem dX12_readLine_123 : decode cX12_readLine 123 = .ok (.ior, 1) := by decide +kernel
theorem dX12_readLine_124 : decode cX12_readLine 124 = .ok (.ireturn, 1) := by decide +kernel
set_option maxRecDepth 20000 in
theorem ggX12_upland_X12_fail : GoodIn wsX12_upland wsX12_fail := goodIn_r _ [15, 1, 188, 189, 190, 191, 192, 193, 194, 195, 196, 197, 198, 199, 200, 201, 202, 203, 204, 205, 206, 207, 208, 209, 210, 211, 212, 213, 214, 215, 216, 217, 218, 219, 220, 221, 222, 223, 224, 225, 226, 227, 228, 229, 230, 231, 232, 233, 234, 235, 236, 237, 238, 239, 240, 241, 242, 243, 244] (by decide +kernel) (by decide +kernel)
set_option maxRecDepth 20000 in
theorem gX12_upland_X12_fail : GoodIn wsX12_upland (wsV RX12 274 RX12 yX12_fail wsX12_fail) := goodIn_app (goodIn_of _ (by decide +kernel)) ggX12_upland_X12_fail
set_option maxRecDepth 20000 in
theorem ggX12_upland_X12_stepOn : GoodIn wsX12_upland wsX12_stepOn := goodIn_r _ [19, 4, 20, 8, 21, 22, 23, 24, 25, 26, 27, 28, 29, 30, 14, 31, 3, 32, 33, 34, 35, 36, 37, 38, 39, 40, 41, 188, 189, 190, 191, 192, 193, 194, 195, 196, 197, 198, 199, 200, 201, 202, 203, 204, 205, 206, 207, 208, 209, 210, 211, 212, 213, 214, 215, 216, 217, 218, 219, 220, 221, 222, 223, 224, 225, 226, 227, 228, 229, 230, 231, 232, 233, 234, 235, 236, 237, 238, 239, 240, 241, 242, 243, 244] (by decide +kernel) (by decide +kernel)
set_option maxRecDepth 20000 in
theorem gX12_upland_X12_stepOn : GoodIn wsX12_upland (wsV RX12 216 RX12 yX12_stepOn wsX12_stepOn) := goodIn_app (goodIn_of _ (by decide +kernel)) ggX12_upland_X12_stepOn
set_option maxRecDepth 20000 in
theorem ggX12_upland_X12_readLine : GoodIn wsX12_upland wsX12_readLine := goodIn_r _ [45, 46, 5, 47, 48, 49, 14, 50, 51, 52, 53, 54, 8, 27, 20, 32, 55, 56, 57, 58, 59, 60, 61, 62, 63, 64, 65, 66, 67, 68, 69, 70, 71, 72, 73, 74, 75, 76, 77, 78, 79, 80, 81, 82, 83, 84, 85, 86, 87, 88, 89, 90, 91, 92, 93, 94, 95, 96, 97, 98, 99, 100, 101, 102, 103, 104, 105, 106, 107, 9, 108, 109, 110, 111, 7, 16, 17, 18, 19, 4, 21, 22, 23, 24, 25, 26, 28, 29, 30, 31, 3, 33, 34, 35, 36, 37, 38, 39, 40, 41, 112, 113, 114, 115, 116, 117, 118, 119, 120, 121, 122, 123, 124, 125, 126, 127, 128, 129, 130, 131, 132, 133, 134, 135, 136, 137, 138, 139, 140, 141, 142, 143, 144, 145, 146, 147, 148, 149, 150, 151, 152, 153, 154, 155, 156, 157, 158, 159, 160, 161, 162, 163, 164, 165, 166, 167, 168, 169, 170, 171, 188, 189, 190, 191, 192, 193, 194, 195, 196, 197, 198, 199, 200, 201, 202, 203, 204, 205, 206, 207, 208, 209, 210, 211, 212, 213, 214, 215, 216, 217, 218, 219, 220, 221, 222, 223, 224, 225, 226, 227, 228, 229, 230, 231, 232, 233, 234, 235, 236, 237, 238, 239, 240, 241, 242, 243, 244] (by decide +kernel) (by decide +kernel)
set_option maxRecDepth 20000 in
theorem gX12_upland_X12_readLine : GoodIn wsX12_upland (wsV RX12 277 RX12 yX12_readLine wsX12_readLine) := goodIn_app (goodIn_of _ (by decide +kernel)) ggX12_upland_X12_readLine
set_option maxRecDepth 20000 in
theorem ggX12_upland_X12_takeOver : GoodIn wsX12_upland wsX12_takeOver := goodIn_r _ [175, 7, 167, 168, 169, 170, 171, 116, 140, 176, 177, 178, 179, 180, 181, 182, 183, 184, 185, 186, 14, 187, 188, 189, 190, 191, 192, 193, 194, 195, 196, 197, 198, 199, 200, 201, 202, 203, 204, 205, 206, 207, 208, 209, 210, 211, 212, 213, 214, 215, 216, 217, 218, 219, 220, 221, 222, 223, 224, 225, 226, 227, 228, 229, 230, 231, 232, 233, 234, 235, 236, 237, 238, 239, 240, 241, 242, 243, 244] (by decide +kernel) (by decide +kernel)
set_option maxRecDepth 20000 in
theorem gX12_upland_X12_takeOver : GoodIn wsX12_upland (wsV RX12 280 RX12 yX12_takeOver wsX12_takeOver) := goodIn_app (goodIn_of _ (by decide +kernel)) ggX12_upland_X12_takeOver
theorem dX12_upland_0 : decode cX12_upland 0 = .ok (.aload_n 0, 1) := by decide +kernel
theorem dX12_upland_1 : decode cX12_upland 1 = .ok (.iconst 0, 1) := by decide +kernel
theorem dX12_upland_2 : decode cX12_upland 2 = .ok (.putfield 142, 3) := by decide +kernel
theorem dX12_upland_5 : decode cX12_upland 5 = .ok (.iload_n 1, 1) := by decide +kernel
theorem dX12_upland_6 : decode cX12_upland 6 = .ok (.ifCond .lt 11, 3) := by decide +kernel
theorem dX12_upland_9 : decode cX12_upland 9 = .ok (.iload_n 1, 1) := by decide +kernel
theorem dX12_upland_10 : decode cX12_upland 10 = .ok (.aload_n 0, 1) := by decide +kernel
theorem dX12_upland_11 : decode cX12_upland 11 = .ok (.getfield 149, 3) := by decide +kernel
theorem dX12_upland_14 : decode cX12_upland 14 = .ok (.if_icmp .le 9, 3) := by decide +kernel
theorem dX12_upland_17 : decode cX12_upland 17 = .ok (.aload_n 0, 1) := by decide +kernel
theorem dX12_upland_18 : decode cX12_upland 18 = .ok (.iconst 1, 1) := by decide +kernel
theorem dX12_upland_19 : decode cX12_upland 19 = .ok (.invokevirtual 274, 3) := by decide +kernel
theorem dX12_upland_22 : decode cX12_upland 22 = .ok (.ireturn, 1) := by decide +kernel
theorem dX12_upland_23 : decode cX12_upland 23 = .ok (.aload_n 0, 1) := by decide +kernel
theorem dX12_upland_24 : decode cX12_upland 24 = .ok (.iconst 0, 1) := by decide +kernel
theorem dX12_upland_25 : decode cX12_upland 25 = .ok (.putfield 149, 3) := by decide +kernel
theorem dX12_upland_28 : decode cX12_upland 28 = .ok (.aload_n 0, 1) := by decide +kernel
theorem dX12_upland_29 : decode cX12_upland 29 = .ok (.iload_n 1, 1) := by decide +kernel
theorem dX12_upland_30 : decode cX12_upland 30 = .ok (.putfield 152, 3) := by decide +kernel
theorem dX12_upland_33 : decode cX12_upland 33 = .ok (.aload_n 0, 1) := by decide +kernel
theorem dX12_upland_34 : decode cX12_upland 34 = .ok (.iconst 0, 1) := by decide +kernel
theorem dX12_upland_35 : decode cX12_upland 35 = .ok (.putfield 155, 3) := by decide +kernel
theorem dX12_upland_38 : decode cX12_upland 38 = .ok (.aload_n 0, 1) := by decide +kernel
theorem dX12_upland_39 : decode cX12_upland 39 = .ok (.iconst 0, 1) := by decide +kernel
theorem dX12_upland_40 : decode cX12_upland 40 = .ok (.putfield 191, 3) := by decide +kernel
theorem dX12_upland_43 : decode cX12_upland 43 = .ok (.aload_n 0, 1) := by decide +kernel
theorem dX12_upland_44 : decode cX12_upland 44 = .ok (.iconst (-1), 1) := by decide +kernel
theorem dX12_upland_45 : decode cX12_upland 45 = .ok (.putfield 65, 3) := by decide +kernel
theorem dX12_upland_48 : decode cX12_upland 48 = .ok (.iconst 0, 1) := by decide +kernel
theorem dX12_upland_49 : decode cX12_upland 49 = .ok (.istore_n 2, 1) := by decide +kernel
theorem dX12_upland_50 : decode cX12_upland 50 = .ok (.iload_n 2, 1) := by decide +kernel
theorem dX12_upland_51 : decode cX12_upland 51 = .ok (.iconst 5, 1) := by decide +kernel
theorem dX12_upland_52 : decode cX12_upland 52 = .ok (.if_icmp .ge 37, 3) := by decide +kernel
theorem dX12_upland_55 : decode cX12_upland 55 = .ok (.aload_n 0, 1) := by decide +kernel
theorem dX12_upland_56 : decode cX12_upland 56 = .ok (.getfield 34, 3) := by decide +kernel
theorem dX12_upland_59 : decode cX12_upland 59 = .ok (.iconst 5, 1) := by decide +kernel
theorem dX12_upland_60 : decode cX12_upland 60 = .ok (.iload_n 2, 1) := by decide +kernel
theorem dX12_upland_61 : decode cX12_upland 61 = .ok (.iadd, 1) := by decide +kernel
theorem dX12_upland_62 : decode cX12_upland 62 = .ok (.iload_n 2, 1) := by decide +kernel
theorem dX12_upland_63 : decode cX12_upland 63 = .ok (.iconst 1, 1) := by decide +kernel
theorem dX12_upland_64 : decode cX12_upland 64 = .ok (.if_icmp .ne 8, 3) := by decide +kernel
theorem dX12_upland_67 : decode cX12_upland 67 = .ok (.bipush 60, 2) := by decide +kernel
theorem dX12_upland_69 : decode cX12_upland 69 = .ok (.goto 13, 3) := by decide +kernel
theorem dX12_upland_72 : decode cX12_upland 72 = .ok (.iload_n 2, 1) := by decide +kernel
theorem dX12_upland_73 : decode cX12_upland 73 = .ok (.iconst 2, 1) := by decide +kernel
theorem dX12_upland_74 : decode cX12_upland 74 = .ok (.if_icmp .ne 7, 3) := by decide +kernel
theorem dX12_upland_77 : decode cX12_upland 77 = .ok (.iconst 3, 1) := by decide +kernel
theorem dX12_upland_78 : decode cX12_upland 78 = .ok (.goto 4, 3) := by decide +kernel
theorem dX12_upland_81 : decode cX12_upland 81 = .ok (.iconst 0, 1) := by decide +kernel
theorem dX12_upland_82 : decode cX12_upland 82 = .ok (.iastore, 1) := by decide +kernel
theorem dX12_upland_83 : decode cX12_upland 83 = .ok (.iinc 2 1, 3) := by decide +kernel
theorem dX12_upland_86 : decode cX12_upland 86 = .ok (.goto (-36), 3) := by decide +kernel
theorem dX12_upland_89 : decode cX12_upland 89 = .ok (.aload_n 0, 1) := by decide +kernel
theorem dX12_upland_90 : decode cX12_upland 90 = .ok (.invokevirtual 216, 3) := by decide +kernel
theorem dX12_upland_93 : decode cX12_upland 93 = .ok (.iconst 0, 1) := by decide +kernel
theorem dX12_upland_94 : decode cX12_upland 94 = .ok (.istore_n 2, 1) := by decide +kernel
theorem dX12_upland_95 : decode cX12_upland 95 = .ok (.aload_n 0, 1) := by decide +kernel
theorem dX12_upland_96 : decode cX12_upland 96 = .ok (.getfield 191, 3) := by decide +kernel
theorem dX12_upland_99 : decode cX12_upland 99 = .ok (.ifCond .ne 19, 3) := by decide +kernel
theorem dX12_upland_102 : decode cX12_upland 102 = .ok (.aload_n 0, 1) := by decide +kernel
theorem dX12_upland_103 : decode cX12_upland 103 = .ok (.getfield 165, 3) := by decide +kernel
theorem dX12_upland_106 : decode cX12_upland 106 = .ok (.ifCond .eq 12, 3) := by decide +kernel
theorem dX12_upland_109 : decode cX12_upland 109 = .ok (.aload_n 0, 1) := by decide +kernel
theorem dX12_upland_110 : decode cX12_upland 110 = .ok (.iload_n 2, 1) := by decide +kernel
theorem dX12_upland_111 : decode cX12_upland 111 = .ok (.invokevirtual 277, 3) := by decide +kernel
theorem dX12_upland_114 : decode cX12_upland 114 = .ok (.istore_n 2, 1) := by decide +kernel
theorem dX12_upland_115 : decode cX12_upland 115 = .ok (.goto (-20), 3) := by decide +kernel
theorem dX12_upland_118 : decode cX12_upland 118 = .ok (.aload_n 0, 1) := by decide +kernel
theorem dX12_upland_119 : decode cX12_upland 119 = .ok (.getfield 191, 3) := by decide +kernel
theorem dX12_upland_122 : decode cX12_upland 122 = .ok (.ifCond .eq 26, 3) := by decide +kernel
theorem dX12_upland_125 : decode cX12_upland 125 = .ok (.aload_n 0, 1) := by decide +kernel
theorem dX12_upland_126 : decode cX12_upland 126 = .ok (.aload_n 0, 1) := by decide +kernel
theorem dX12_upland_127 : decode cX12_upland 127 = .ok (.getfield 194, 3) := by decide +kernel
theorem dX12_upland_130 : decode cX12_upland 130 = .ok (.putfield 65, 3) := by decide +kernel
theorem dX12_upland_133 : decode cX12_upland 133 = .ok (.aload_n 0, 1) := by decide +kernel
theorem dX12_upland_134 : decode cX12_upland 134 = .ok (.getfield 59, 3) := by decide +kernel
theorem dX12_upland_137 : decode cX12_upland 137 = .ok (.iconst 0, 1) := by decide +kernel
theorem dX12_upland_138 : decode cX12_upland 138 = .ok (.dup2, 1) := by decide +kernel
theorem dX12_upland_139 : decode cX12_upland 139 = .ok (.iaload, 1) := by decide +kernel
theorem dX12_upland_140 : decode cX12_upland 140 = .ok (.iconst 1, 1) := by decide +kernel
theorem dX12_upland_141 : decode cX12_upland 141 = .ok (.iadd, 1) := by decide +kernel
theorem dX12_upland_142 : decode cX12_upland 142 = .ok (.iastore, 1) := by decide +kernel
theorem dX12_upland_143 : decode cX12_upland 143 = .ok (.aload_n 0, 1) := by decide +kernel
theorem dX12_upland_144 : decode cX12_upland 144 = .ok (.getfield 191, 3) := by decide +kernel
theorem dX12_upland_147 : decode cX12_upland 147 = .ok (.ireturn, 1) := by decide +kernel
theorem dX12_upland_148 : decode cX12_upland 148 = .ok (.aload_n 0, 1) := by decide +kernel
theorem dX12_upland_149 : decode cX12_upland 149 = .ok (.invokevirtual 280, 3) := by decide +kernel
theorem dX12_upland_152 : decode cX12_upland 152 = .ok (.iconst 0, 1) := by decide +kernel
theorem dX12_upland_153 : decode cX12_upland 153 = .ok (.ireturn, 1) := by decide +kernel
theorem dX12_takeHalf_0 : decode cX12_takeHalf 0 = .ok (.iconst 0, 1) := by decide +kernel
theorem dX12_takeHalf_1 : decode cX12_takeHalf 1 = .ok (.istore_n 1, 1) := by decide +kernel
theorem dX12_takeHalf_2 : decode cX12_takeHalf 2 = .ok (.iload_n 1, 1) := by decide +kernel
theorem dX12_takeHalf_3 : decode cX12_takeHalf 3 = .ok (.aload_n 0, 1) := by decide +kernel
theorem dX12_takeHalf_4 : decode cX12_takeHalf 4 = .ok (.arraylength, 1) := by decide +kernel
theorem dX12_takeHalf_5 : decode cX12_takeHalf 5 = .ok (.iconst 2, 1) := by decide +kernel
theorem dX12_takeHalf_6 : decode cX12_takeHalf 6 = .ok (.idiv, 1) := by decide +kernel
theorem dX12_takeHalf_7 : decode cX12_takeHalf 7 = .ok (.if_icmp .ge 20, 3) := by decide +kernel
theorem dX12_takeHalf_10 : decode cX12_takeHalf 10 = .ok (.aload_n 0, 1) := by decide +kernel
theorem dX12_takeHalf_11 : decode cX12_takeHalf 11 = .ok (.iload_n 1, 1) := by decide +kernel
theorem dX12_takeHalf_12 : decode cX12_takeHalf 12 = .ok (.aload_n 0, 1) := by decide +kernel
theorem dX12_takeHalf_13 : decode cX12_takeHalf 13 = .ok (.aload_n 0, 1) := by decide +kernel
theorem dX12_takeHalf_14 : decode cX12_takeHalf 14 = .ok (.arraylength, 1) := by decide +kernel
theorem dX12_takeHalf_15 : decode cX12_takeHalf 15 = .ok (.iconst 2, 1) := by decide +kernel
theorem dX12_takeHalf_16 : decode cX12_takeHalf 16 = .ok (.idiv, 1) := by decide +kernel
theorem dX12_takeHalf_17 : decode cX12_takeHalf 17 = .ok (.iload_n 1, 1) := by decide +kernel
theorem dX12_takeHalf_18 : decode cX12_takeHalf 18 = .ok (.iadd, 1) := by decide +kernel
theorem dX12_takeHalf_19 : decode cX12_takeHalf 19 = .ok (.iaload, 1) := by decide +kernel
theorem dX12_takeHalf_20 : decode cX12_takeHalf 20 = .ok (.iastore, 1) := by decide +kernel
theorem dX12_takeHalf_21 : decode cX12_takeHalf 21 = .ok (.iinc 1 1, 3) := by decide +kernel
theorem dX12_takeHalf_24 : decode cX12_takeHalf 24 = .ok (.goto (-22), 3) := by decide +kernel
theorem dX12_takeHalf_27 : decode cX12_takeHalf 27 = .ok (.return_, 1) := by decide +kernel
set_option maxRecDepth 20000 in
theorem ggX12_takeOver_X12_takeHalf : GoodIn wsX12_takeOver wsX12_takeHalf := goodIn_r _ [21] (by decide +kernel) (by decide +kernel)
set_option maxRecDepth 20000 in
theorem gX12_takeOver_X12_takeHalf : GoodIn wsX12_takeOver (va_wsS RX12 283 yX12_takeHalf wsX12_takeHalf) := goodIn_app (goodIn_of _ (by decide +kernel)) ggX12_takeOver_X12_takeHalf
theorem dX12_takeOver_0 : decode cX12_takeOver 0 = .ok (.aload_n 0, 1) := by decide +kernel
theorem dX12_takeOver_1 : decode cX12_takeOver 1 = .ok (.getfield 34, 3) := by decide +kernel
theorem dX12_takeOver_4 : decode cX12_takeOver 4 = .ok (.invokestatic 283, 3) := by decide +kernel
theorem dX12_takeOver_7 : decode cX12_takeOver 7 = .ok (.aload_n 0, 1) := by decide +kernel
theorem dX12_takeOver_8 : decode cX12_takeOver 8 = .ok (.getfield 38, 3) := by decide +kernel
theorem dX12_takeOver_11 : decode cX12_takeOver 11 = .ok (.invokestatic 283, 3) := by decide +kernel
theorem dX12_takeOver_14 : decode cX12_takeOver 14 = .ok (.aload_n 0, 1) := by decide +kernel
theorem dX12_takeOver_15 : decode cX12_takeOver 15 = .ok (.getfield 41, 3) := by decide +kernel
theorem dX12_takeOver_18 : decode cX12_takeOver 18 = .ok (.invokestatic 283, 3) := by decide +kernel
theorem dX12_takeOver_21 : decode cX12_takeOver 21 = .ok (.aload_n 0, 1) := by decide +kernel
theorem dX12_takeOver_22 : decode cX12_takeOver 22 = .ok (.getfield 44, 3) := by decide +kernel
theorem dX12_takeOver_25 : decode cX12_takeOver 25 = .ok (.invokestatic 283, 3) := by decide +kernel
theorem dX12_takeOver_28 : decode cX12_takeOver 28 = .ok (.aload_n 0, 1) := by decide +kernel
theorem dX12_takeOver_29 : decode cX12_takeOver 29 = .ok (.getfield 47, 3) := by decide +kernel
theorem dX12_takeOver_32 : decode cX12_takeOver 32 = .ok (.invokestatic 283, 3) := by decide +kernel
theorem dX12_takeOver_35 : decode cX12_takeOver 35 = .ok (.aload_n 0, 1) := by decide +kernel
theorem dX12_takeOver_36 : decode cX12_takeOver 36 = .ok (.getfield 50, 3) := by decide +kernel
theorem dX12_takeOver_39 : decode cX12_takeOver 39 = .ok (.invokestatic 283, 3) := by decide +kernel
theorem dX12_takeOver_42 : decode cX12_takeOver 42 = .ok (.aload_n 0, 1) := by decide +kernel
theorem dX12_takeOver_43 : decode cX12_takeOver 43 = .ok (.getfield 53, 3) := by decide +kernel
theorem dX12_takeOver_46 : decode cX12_takeOver 46 = .ok (.invokestatic 283, 3) := by decide +kernel
theorem dX12_takeOver_49 : decode cX12_takeOver 49 = .ok (.aload_n 0, 1) := by decide +kernel
theorem dX12_takeOver_50 : decode cX12_takeOver 50 = .ok (.getfield 56, 3) := by decide +kernel
theorem dX12_takeOver_53 : decode cX12_takeOver 53 = .ok (.invokestatic 283, 3) := by decide +kernel
theorem dX12_takeOver_56 : decode cX12_takeOver 56 = .ok (.aload_n 0, 1) := by decide +kernel
theorem dX12_takeOver_57 : decode cX12_takeOver 57 = .ok (.iconst 0, 1) := by decide +kernel
theorem dX12_takeOver_58 : decode cX12_takeOver 58 = .ok (.putfield 287, 3) := by decide +kernel
theorem dX12_takeOver_61 : decode cX12_takeOver 61 = .ok (.aload_n 0, 1) := by decide +kernel
theorem dX12_takeOver_62 : decode cX12_takeOver 62 = .ok (.iconst 0, 1) := by decide +kernel
theorem dX12_takeOver_63 : decode cX12_takeOver 63 = .ok (.putfield 290, 3) := by decide +kernel
theorem dX12_takeOver_66 : decode cX12_takeOver 66 = .ok (.iconst 0, 1) := by decide +kernel
theorem dX12_takeOver_67 : decode cX12_takeOver 67 = .ok (.istore_n 1, 1) := by decide +kernel
theorem dX12_takeOver_68 : decode cX12_takeOver 68 = .ok (.iload_n 1, 1) := by decide +kernel
theorem dX12_takeOver_69 : decode cX12_takeOver 69 = .ok (.bipush 9, 2) := by decide +kernel
theorem dX12_takeOver_71 : decode cX12_takeOver 71 = .ok (.if_icmp .ge 56, 3) := by decide +kernel
theorem dX12_takeOver_74 : decode cX12_takeOver 74 = .ok (.aload_n 0, 1) := by decide +kernel
theorem dX12_takeOver_75 : decode cX12_takeOver 75 = .ok (.getfield 69, 3) := by decide +kernel
theorem dX12_takeOver_78 : decode cX12_takeOver 78 = .ok (.iload_n 1, 1) := by decide +kernel
theorem dX12_takeOver_79 : decode cX12_takeOver 79 = .ok (.iconst 0, 1) := by decide +kernel
theorem dX12_takeOver_80 : decode cX12_takeOver 80 = .ok (.iastore, 1) := by decide +kernel
theorem dX12_takeOver_81 : decode cX12_takeOver 81 = .ok (.aload_n 0, 1) := by decide +kernel
theorem dX12_takeOver_82 : decode cX12_takeOver 82 = .ok (.getfield 72, 3) := by decide +kernel
theorem dX12_takeOver_85 : decode cX12_takeOver 85 = .ok (.iload_n 1, 1) := by decide +kernel
theorem dX12_takeOver_86 : decode cX12_takeOver 86 = .ok (.iconst 0, 1) := by decide +kernel
theorem dX12_takeOver_87 : decode cX12_takeOver 87 = .ok (.iastore, 1) := by decide +kernel
theorem dX12_takeOver_88 : decode cX12_takeOver 88 = .ok (.aload_n 0, 1) := by decide +kernel
theorem dX12_takeOver_89 : decode cX12_takeOver 89 = .ok (.getfield 75, 3) := by decide +kernel
theorem dX12_takeOver_92 : decode cX12_takeOver 92 = .ok (.iload_n 1, 1) := by decide +kernel
theorem dX12_takeOver_93 : decode cX12_takeOver 93 = .ok (.iconst 0, 1) := by decide +kernel
theorem dX12_takeOver_94 : decode cX12_takeOver 94 = .ok (.iastore, 1) := by decide +kernel
theorem dX12_takeOver_95 : decode cX12_takeOver 95 = .ok (.aload_n 0, 1) := by decide +kernel
theorem dX12_takeOver_96 : decode cX12_takeOver 96 = .ok (.getfield 78, 3) := by decide +kernel
theorem dX12_takeOver_99 : decode cX12_takeOver 99 = .ok (.iload_n 1, 1) := by decide +kernel
theorem dX12_takeOver_100 : decode cX12_takeOver 100 = .ok (.iload_n 1, 1) := by decide +kernel
theorem dX12_takeOver_101 : decode cX12_takeOver 101 = .ok (.aload_n 0, 1) := by decide +kernel
theorem dX12_takeOver_102 : decode cX12_takeOver 102 = .ok (.getfield 34, 3) := by decide +kernel
theorem dX12_takeOver_105 : decode cX12_takeOver 105 = .ok (.iconst 0, 1) := by decide +kernel
theorem dX12_takeOver_106 : decode cX12_takeOver 106 = .ok (.iaload, 1) := by decide +kernel
theorem dX12_takeOver_107 : decode cX12_takeOver 107 = .ok (.if_icmp .ge 12, 3) := by decide +kernel
theorem dX12_takeOver_110 : decode cX12_takeOver 110 = .ok (.aload_n 0, 1) := by decide +kernel
theorem dX12_takeOver_111 : decode cX12_takeOver 111 = .ok (.getfield 47, 3) := by decide +kernel
theorem dX12_takeOver_114 : decode cX12_takeOver 114 = .ok (.iload_n 1, 1) := by decide +kernel
theorem dX12_takeOver_115 : decode cX12_takeOver 115 = .ok (.iaload, 1) := by decide +kernel
theorem dX12_takeOver_116 : decode cX12_takeOver 116 = .ok (.goto 4, 3) := by decide +kernel
theorem dX12_takeOver_119 : decode cX12_takeOver 119 = .ok (.iconst 0, 1) := by decide +kernel
theorem dX12_takeOver_120 : decode cX12_takeOver 120 = .ok (.iastore, 1) := by decide +kernel
theorem dX12_takeOver_121 : decode cX12_takeOver 121 = .ok (.iinc 1 1, 3) := by decide +kernel
theorem dX12_takeOver_124 : decode cX12_takeOver 124 = .ok (.goto (-56), 3) := by decide +kernel
theorem dX12_takeOver_127 : decode cX12_takeOver 127 = .ok (.aload_n 0, 1) := by decide +kernel
theorem dX12_takeOver_128 : decode cX12_takeOver 128 = .ok (.iconst 0, 1) := by decide +kernel
theorem dX12_takeOver_129 : decode cX12_takeOver 129 = .ok (.putfield 293, 3) := by decide +kernel
theorem dX12_takeOver_132 : decode cX12_takeOver 132 = .ok (.aload_n 0, 1) := by decide +kernel
theorem dX12_takeOver_133 : decode cX12_takeOver 133 = .ok (.iconst 0, 1) := by decide +kernel
theorem dX12_takeOver_134 : decode cX12_takeOver 134 = .ok (.putfield 296, 3) := by decide +kernel
theorem dX12_takeOver_137 : decode cX12_takeOver 137 = .ok (.aload_n 0, 1) := by decide +kernel
theorem dX12_takeOver_138 : decode cX12_takeOver 138 = .ok (.iconst 0, 1) := by decide +kernel
theorem dX12_takeOver_139 : decode cX12_takeOver 139 = .ok (.putfield 298, 3) := by decide +kernel
theorem dX12_takeOver_142 : decode cX12_takeOver 142 = .ok (.return_, 1) := by decide +kernel
theorem dX12_fault_0 : decode cX12_fault 0 = .ok (.aload_n 0, 1) := by decide +kernel
theorem dX12_fault_1 : decode cX12_fault 1 = .ok (.iconst 0, 1) := by decide +kernel
theorem dX12_fault_2 : decode cX12_fault 2 = .ok (.putfield 142, 3) := by decide +kernel
theorem dX12_fault_5 : decode cX12_fault 5 = .ok (.aload_n 0, 1) := by decide +kernel
theorem dX12_fault_6 : decode cX12_fault 6 = .ok (.getfield 65, 3) := by decide +kernel
theorem dX12_fault_9 : decode cX12_fault 9 = .ok (.ireturn, 1) := by decide +kernel
theorem dX12_pack_0 : decode cX12_pack 0 = .ok (.aload_n 1, 1) := by decide +kernel
theorem dX12_pack_1 : decode cX12_pack 1 = .ok (.iload_n 2, 1) := by decide +kernel
theorem dX12_pack_2 : decode cX12_pack 2 = .ok (.aload_n 0, 1) := by decide +kernel
theorem dX12_pack_3 : decode cX12_pack 3 = .ok (.getfield 287, 3) := by decide +kernel
theorem dX12_pack_6 : decode cX12_pack 6 = .ok (.iastore, 1) := by decide +kernel
theorem dX12_pack_7 : decode cX12_pack 7 = .ok (.aload_n 1, 1) := by decide +kernel
theorem dX12_pack_8 : decode cX12_pack 8 = .ok (.iload_n 2, 1) := by decide +kernel
theorem dX12_pack_9 : decode cX12_pack 9 = .ok (.iconst 1, 1) := by decide +kernel
theorem dX12_pack_10 : decode cX12_pack 10 = .ok (.iadd, 1) := by decide +kernel
theorem dX12_pack_11 : decode cX12_pack 11 = .ok (.aload_n 0, 1) := by decide +kernel
theorem dX12_pack_12 : decode cX12_pack 12 = .ok (.getfield 290, 3) := by decide +kernel
theorem dX12_pack_15 : decode cX12_pack 15 = .ok (.iastore, 1) := by decide +kernel
theorem dX12_pack_16 : decode cX12_pack 16 = .ok (.iconst 0, 1) := by decide +kernel
theorem dX12_pack_17 : decode cX12_pack 17 = .ok (.istore_n 3, 1) := by decide +kernel
theorem dX12_pack_18 : decode cX12_pack 18 = .ok (.iload_n 3, 1) := by decide +kernel
theorem dX12_pack_19 : decode cX12_pack 19 = .ok (.bipush 9, 2) := by decide +kernel
theorem dX12_pack_21 : decode cX12_pack 21 = .ok (.if_icmp .ge 70, 3) := by decide +kernel
theorem dX12_pack_24 : decode cX12_pack 24 = .ok (.aload_n 1, 1) := by decide +kernel
theorem dX12_pack_25 : decode cX12_pack 25 = .ok (.iload_n 2, 1) := by decide +kernel
theorem dX12_pack_26 : decode cX12_pack 26 = .ok (.iconst 2, 1) := by decide +kernel
theorem dX12_pack_27 : decode cX12_pack 27 = .ok (.iadd, 1) := by decide +kernel
theorem dX12_pack_28 : decode cX12_pack 28 = .ok (.iload_n 3, 1) := by decide +kernel
theorem dX12_pack_29 : decode cX12_pack 29 = .ok (.iadd, 1) := by decide +kernel
theorem dX12_pack_30 : decode cX12_pack 30 = .ok (.aload_n 0, 1) := by decide +kernel
theorem dX12_pack_31 : decode cX12_pack 31 = .ok (.getfield 69, 3) := by decide +kernel
theorem dX12_pack_34 : decode cX12_pack 34 = .ok (.iload_n 3, 1) := by decide +kernel
theorem dX12_pack_35 : decode cX12_pack 35 = .ok (.iaload, 1) := by decide +kernel
theorem dX12_pack_36 : decode cX12_pack 36 = .ok (.iastore, 1) := by decide +kernel
theorem dX12_pack_37 : decode cX12_pack 37 = .ok (.aload_n 1, 1) := by decide +kernel
theorem dX12_pack_38 : decode cX12_pack 38 = .ok (.iload_n 2, 1) := by decide +kernel
theorem dX12_pack_39 : decode cX12_pack 39 = .ok (.iconst 2, 1) := by decide +kernel
theorem dX12_pack_40 : decode cX12_pack 40 = .ok (.iadd, 1) := by decide +kernel
theorem dX12_pack_41 : decode cX12_pack 41 = .ok (.bipush 9, 2) := by decide +kernel
theorem dX12_pack_43 : decode cX12_pack 43 = .ok (.iadd, 1) := by decide +kernel
theorem dX12_pack_44 : decode cX12_pack 44 = .ok (.iload_n 3, 1) := by decide +kernel
theorem dX12_pack_45 : decode cX12_pack 45 = .ok (.iadd, 1) := by decide +kernel
theorem dX12_pack_46 : decode cX12_pack 46 = .ok (.aload_n 0, 1) := by decide +kernel
theorem dX12_pack_47 : decode cX12_pack 47 = .ok (.getfield 72, 3) := by decide +kernel
theorem dX12_pack_50 : decode cX12_pack 50 = .ok (.iload_n 3, 1) := by decide +kernel
theorem dX12_pack_51 : decode cX12_pack 51 = .ok (.iaload, 1) := by decide +kernel
theorem dX12_pack_52 : decode cX12_pack 52 = .ok (.iastore, 1) := by decide +kernel
theorem dX12_pack_53 : decode cX12_pack 53 = .ok (.aload_n 1, 1) := by decide +kernel
theorem dX12_pack_54 : decode cX12_pack 54 = .ok (.iload_n 2, 1) := by decide +kernel
theorem dX12_pack_55 : decode cX12_pack 55 = .ok (.iconst 2, 1) := by decide +kernel
theorem dX12_pack_56 : decode cX12_pack 56 = .ok (.iadd, 1) := by decide +kernel
theorem dX12_pack_57 : decode cX12_pack 57 = .ok (.bipush 18, 2) := by decide +kernel
theorem dX12_pack_59 : decode cX12_pack 59 = .ok (.iadd, 1) := by decide +kernel
theorem dX12_pack_60 : decode cX12_pack 60 = .ok (.iload_n 3, 1) := by decide +kernel
theorem dX12_pack_61 : decode cX12_pack 61 = .ok (.iadd, 1) := by decide +kernel
theorem dX12_pack_62 : decode cX12_pack 62 = .ok (.aload_n 0, 1) := by decide +kernel
theorem dX12_pack_63 : decode cX12_pack 63 = .ok (.getfield 75, 3) := by decide +kernel
theorem dX12_pack_66 : decode cX12_pack 66 = .ok (.iload_n 3, 1) := by decide +kernel
theorem dX12_pack_67 : decode cX12_pack 67 = .ok (.iaload, 1) := by decide +kernel
theorem dX12_pack_68 : decode cX12_pack 68 = .ok (.iastore, 1) := by decide +kernel
theorem dX12_pack_69 : decode cX12_pack 69 = .ok (.aload_n 1, 1) := by decide +kernel
theorem dX12_pack_70 : decode cX12_pack 70 = .ok (.iload_n 2, 1) := by decide +kernel
theorem dX12_pack_71 : decode cX12_pack 71 = .ok (.iconst 2, 1) := by decide +kernel
theorem dX12_pack_72 : decode cX12_pack 72 = .ok (.iadd, 1) := by decide +kernel
theorem dX12_pack_73 : decode cX12_pack 73 = .ok (.bipush 27, 2) := by decide +kernel
theorem dX12_pack_75 : decode cX12_pack 75 = .ok (.iadd, 1) := by decide +kernel
theorem dX12_pack_76 : decode cX12_pack 76 = .ok (.iload_n 3, 1) := by decide +kernel
theorem dX12_pack_77 : decode cX12_pack 77 = .ok (.iadd, 1) := by decide +kernel
theorem dX12_pack_78 : decode cX12_pack 78 = .ok (.aload_n 0, 1) := by decide +kernel
theorem dX12_pack_79 : decode cX12_pack 79 = .ok (.getfield 78, 3) := by decide +kernel
theorem dX12_pack_82 : decode cX12_pack 82 = .ok (.iload_n 3, 1) := by decide +kernel
theorem dX12_pack_83 : decode cX12_pack 83 = .ok (.iaload, 1) := by decide +kernel
theorem dX12_pack_84 : decode cX12_pack 84 = .ok (.iastore, 1) := by decide +kernel
theorem dX12_pack_85 : decode cX12_pack 85 = .ok (.iinc 3 1, 3) := by decide +kernel
theorem dX12_pack_88 : decode cX12_pack 88 = .ok (.goto (-70), 3) := by decide +kernel
theorem dX12_pack_91 : decode cX12_pack 91 = .ok (.return_, 1) := by decide +kernel
theorem dX12_unpack_0 : decode cX12_unpack 0 = .ok (.aload_n 0, 1) := by decide +kernel
theorem dX12_unpack_1 : decode cX12_unpack 1 = .ok (.aload_n 1, 1) := by decide +kernel
theorem dX12_unpack_2 : decode cX12_unpack 2 = .ok (.iload_n 2, 1) := by decide +kernel
theorem dX12_unpack_3 : decode cX12_unpack 3 = .ok (.iaload, 1) := by decide +kernel
theorem dX12_unpack_4 : decode cX12_unpack 4 = .ok (.putfield 287, 3) := by decide +kernel
theorem dX12_unpack_7 : decode cX12_unpack 7 = .ok (.aload_n 0, 1) := by decide +kernel
theorem dX12_unpack_8 : decode cX12_unpack 8 = .ok (.aload_n 1, 1) := by decide +kernel
theorem dX12_unpack_9 : decode cX12_unpack 9 = .ok (.iload_n 2, 1) := by decide +kernel
theorem dX12_unpack_10 : decode cX12_unpack 10 = .ok (.iconst 1, 1) := by decide +kernel
theorem dX12_unpack_11 : decode cX12_unpack 11 = .ok (.iadd, 1) := by decide +kernel
theorem dX12_unpack_12 : decode cX12_unpack 12 = .ok (.iaload, 1) := by decide +kernel
theorem dX12_unpack_13 : decode cX12_unpack 13 = .ok (.putfield 290, 3) := by decide +kernel
theorem dX12_unpack_16 : decode cX12_unpack 16 = .ok (.iconst 0, 1) := by decide +kernel
theorem dX12_unpack_17 : decode cX12_unpack 17 = .ok (.istore_n 3, 1) := by decide +kernel
theorem dX12_unpack_18 : decode cX12_unpack 18 = .ok (.iload_n 3, 1) := by decide +kernel
theorem dX12_unpack_19 : decode cX12_unpack 19 = .ok (.bipush 9, 2) := by decide +kernel
theorem dX12_unpack_21 : decode cX12_unpack 21 = .ok (.if_icmp .ge 70, 3) := by decide +kernel
theorem dX12_unpack_24 : decode cX12_unpack 24 = .ok (.aload_n 0, 1) := by decide +kernel
theorem dX12_unpack_25 : decode cX12_unpack 25 = .ok (.getfield 69, 3) := by decide +kernel
theorem dX12_unpack_28 : decode cX12_unpack 28 = .ok (.iload_n 3, 1) := by decide +kernel
theorem dX12_unpack_29 : decode cX12_unpack 29 = .ok (.aload_n 1, 1) := by decide +kernel
theorem dX12_unpack_30 : decode cX12_unpack 30 = .ok (.iload_n 2, 1) := by decide +kernel
theorem dX12_unpack_31 : decode cX12_unpack 31 = .ok (.iconst 2, 1) := by decide +kernel
theorem dX12_unpack_32 : decode cX12_unpack 32 = .ok (.iadd, 1) := by decide +kernel
theorem dX12_unpack_33 : decode cX12_unpack 33 = .ok (.iload_n 3, 1) := by decide +kernel
theorem dX12_unpack_34 : decode cX12_unpack 34 = .ok (.iadd, 1) := by decide +kernel
theorem dX12_unpack_35 : decode cX12_unpack 35 = .ok (.iaload, 1) := by decide +kernel
theorem dX12_unpack_36 : decode cX12_unpack 36 = .ok (.iastore, 1) := by decide +kernel
theorem dX12_unpack_37 : decode cX12_unpack 37 = .ok (.aload_n 0, 1) := by decide +kernel
theorem dX12_unpack_38 : decode cX12_unpack 38 = .ok (.getfield 72, 3) := by decide +kernel
theorem dX12_unpack_41 : decode cX12_unpack 41 = .ok (.iload_n 3, 1) := by decide +kernel
theorem dX12_unpack_42 : decode cX12_unpack 42 = .ok (.aload_n 1, 1) := by decide +kernel
theorem dX12_unpack_43 : decode cX12_unpack 43 = .ok (.iload_n 2, 1) := by decide +kernel
theorem dX12_unpack_44 : decode cX12_unpack 44 = .ok (.iconst 2, 1) := by decide +kernel
theorem dX12_unpack_45 : decode cX12_unpack 45 = .ok (.iadd, 1) := by decide +kernel
theorem dX12_unpack_46 : decode cX12_unpack 46 = .ok (.bipush 9, 2) := by decide +kernel
theorem dX12_unpack_48 : decode cX12_unpack 48 = .ok (.iadd, 1) := by decide +kernel
theorem dX12_unpack_49 : decode cX12_unpack 49 = .ok (.iload_n 3, 1) := by decide +kernel
theorem dX12_unpack_50 : decode cX12_unpack 50 = .ok (.iadd, 1) := by decide +kernel
theorem dX12_unpack_51 : decode cX12_unpack 51 = .ok (.iaload, 1) := by decide +kernel
theorem dX12_unpack_52 : decode cX12_unpack 52 = .ok (.iastore, 1) := by decide +kernel
theorem dX12_unpack_53 : decode cX12_unpack 53 = .ok (.aload_n 0, 1) := by decide +kernel
theorem dX12_unpack_54 : decode cX12_unpack 54 = .ok (.getfield 75, 3) := by decide +kernel
theorem dX12_unpack_57 : decode cX12_unpack 57 = .ok (.iload_n 3, 1) := by decide +kernel
theorem dX12_unpack_58 : decode cX12_unpack 58 = .ok (.aload_n 1, 1) := by decide +kernel
theorem dX12_unpack_59 : decode cX12_unpack 59 = .ok (.iload_n 2, 1) := by decide +kernel
theorem dX12_unpack_60 : decode cX12_unpack 60 = .ok (.iconst 2, 1) := by decide +kernel
theorem dX12_unpack_61 : decode cX12_unpack 61 = .ok (.iadd, 1) := by decide +kernel
theorem dX12_unpack_62 : decode cX12_unpack 62 = .ok (.bipush 18, 2) := by decide +kernel
theorem dX12_unpack_64 : decode cX12_unpack 64 = .ok (.iadd, 1) := by decide +kernel
theorem dX12_unpack_65 : decode cX12_unpack 65 = .ok (.iload_n 3, 1) := by decide +kernel
theorem dX12_unpack_66 : decode cX12_unpack 66 = .ok (.iadd, 1) := by decide +kernel
theorem dX12_unpack_67 : decode cX12_unpack 67 = .ok (.iaload, 1) := by decide +kernel
theorem dX12_unpack_68 : decode cX12_unpack 68 = .ok (.iastore, 1) := by decide +kernel
theorem dX12_unpack_69 : decode cX12_unpack 69 = .ok (.aload_n 0, 1) := by decide +kernel
theorem dX12_unpack_70 : decode cX12_unpack 70 = .ok (.getfield 78, 3) := by decide +kernel
theorem dX12_unpack_73 : decode cX12_unpack 73 = .ok (.iload_n 3, 1) := by decide +kernel
theorem dX12_unpack_74 : decode cX12_unpack 74 = .ok (.aload_n 1, 1) := by decide +kernel
theorem dX12_unpack_75 : decode cX12_unpack 75 = .ok (.iload_n 2, 1) := by decide +kernel
theorem dX12_unpack_76 : decode cX12_unpack 76 = .ok (.iconst 2, 1) := by decide +kernel
theorem dX12_unpack_77 : decode cX12_unpack 77 = .ok (.iadd, 1) := by decide +kernel
theorem dX12_unpack_78 : decode cX12_unpack 78 = .ok (.bipush 27, 2) := by decide +kernel
theorem dX12_unpack_80 : decode cX12_unpack 80 = .ok (.iadd, 1) := by decide +kernel
theorem dX12_unpack_81 : decode cX12_unpack 81 = .ok (.iload_n 3, 1) := by decide +kernel
theorem dX12_unpack_82 : decode cX12_unpack 82 = .ok (.iadd, 1) := by decide +kernel
theorem dX12_unpack_83 : decode cX12_unpack 83 = .ok (.iaload, 1) := by decide +kernel
theorem dX12_unpack_84 : decode cX12_unpack 84 = .ok (.iastore, 1) := by decide +kernel
theorem dX12_unpack_85 : decode cX12_unpack 85 = .ok (.iinc 3 1, 3) := by decide +kernel
theorem dX12_unpack_88 : decode cX12_unpack 88 = .ok (.goto (-70), 3) := by decide +kernel
theorem dX12_unpack_91 : decode cX12_unpack 91 = .ok (.return_, 1) := by decide +kernel
theorem dX12_mistOf_0 : decode cX12_mistOf 0 = .ok (.aload_n 0, 1) := by decide +kernel
theorem dX12_mistOf_1 : decode cX12_mistOf 1 = .ok (.getfield 84, 3) := by decide +kernel
theorem dX12_mistOf_4 : decode cX12_mistOf 4 = .ok (.iconst (-1), 1) := by decide +kernel
theorem dX12_mistOf_5 : decode cX12_mistOf 5 = .ok (.if_icmp .eq 10, 3) := by decide +kernel
theorem dX12_mistOf_8 : decode cX12_mistOf 8 = .ok (.aload_n 0, 1) := by decide +kernel
theorem dX12_mistOf_9 : decode cX12_mistOf 9 = .ok (.getfield 84, 3) := by decide +kernel
theorem dX12_mistOf_12 : decode cX12_mistOf 12 = .ok (.goto 32, 3) := by decide +kernel
theorem dX12_mistOf_15 : decode cX12_mistOf 15 = .ok (.aload_n 0, 1) := by decide +kernel
theorem dX12_mistOf_16 : decode cX12_mistOf 16 = .ok (.getfield 34, 3) := by decide +kernel
theorem dX12_mistOf_19 : decode cX12_mistOf 19 = .ok (.iconst 3, 1) := by decide +kernel
theorem dX12_mistOf_20 : decode cX12_mistOf 20 = .ok (.iaload, 1) := by decide +kernel
theorem dX12_mistOf_21 : decode cX12_mistOf 21 = .ok (.ifCond .ne 7, 3) := by decide +kernel
theorem dX12_mistOf_24 : decode cX12_mistOf 24 = .ok (.iconst 0, 1) := by decide +kernel
theorem dX12_mistOf_25 : decode cX12_mistOf 25 = .ok (.goto 19, 3) := by decide +kernel
theorem dX12_mistOf_28 : decode cX12_mistOf 28 = .ok (.aload_n 0, 1) := by decide +kernel
theorem dX12_mistOf_29 : decode cX12_mistOf 29 = .ok (.getfield 53, 3) := by decide +kernel
theorem dX12_mistOf_32 : decode cX12_mistOf 32 = .ok (.aload_n 0, 1) := by decide +kernel
theorem dX12_mistOf_33 : decode cX12_mistOf 33 = .ok (.getfield 287, 3) := by decide +kernel
theorem dX12_mistOf_36 : decode cX12_mistOf 36 = .ok (.aload_n 0, 1) := by decide +kernel
theorem dX12_mistOf_37 : decode cX12_mistOf 37 = .ok (.getfield 34, 3) := by decide +kernel
theorem dX12_mistOf_40 : decode cX12_mistOf 40 = .ok (.iconst 3, 1) := by decide +kernel
theorem dX12_mistOf_41 : decode cX12_mistOf 41 = .ok (.iaload, 1) := by decide +kernel
theorem dX12_mistOf_42 : decode cX12_mistOf 42 = .ok (.irem, 1) := by decide +kernel
theorem dX12_mistOf_43 : decode cX12_mistOf 43 = .ok (.iaload, 1) := by decide +kernel
theorem dX12_mistOf_44 : decode cX12_mistOf 44 = .ok (.ireturn, 1) := by decide +kernel
theorem dX12_topOf_0 : decode cX12_topOf 0 = .ok (.aload_n 0, 1) := by decide +kernel
theorem dX12_topOf_1 : decode cX12_topOf 1 = .ok (.getfield 44, 3) := by decide +kernel
theorem dX12_topOf_4 : decode cX12_topOf 4 = .ok (.iload_n 1, 1) := by decide +kernel
theorem dX12_topOf_5 : decode cX12_topOf 5 = .ok (.iaload, 1) := by decide +kernel
theorem dX12_topOf_6 : decode cX12_topOf 6 = .ok (.aload_n 0, 1) := by decide +kernel
theorem dX12_topOf_7 : decode cX12_topOf 7 = .ok (.getfield 78, 3) := by decide +kernel
theorem dX12_topOf_10 : decode cX12_topOf 10 = .ok (.iload_n 1, 1) := by decide +kernel
theorem dX12_topOf_11 : decode cX12_topOf 11 = .ok (.iaload, 1) := by decide +kernel
theorem dX12_topOf_12 : decode cX12_topOf 12 = .ok (.iadd, 1) := by decide +kernel
theorem dX12_topOf_13 : decode cX12_topOf 13 = .ok (.ireturn, 1) := by decide +kernel
theorem dX12_isBetween_0 : decode cX12_isBetween 0 = .ok (.aload_n 0, 1) := by decide +kernel
theorem dX12_isBetween_1 : decode cX12_isBetween 1 = .ok (.getfield 41, 3) := by decide +kernel
theorem dX12_isBetween_4 : decode cX12_isBetween 4 = .ok (.iload_n 1, 1) := by decide +kernel
theorem dX12_isBetween_5 : decode cX12_isBetween 5 = .ok (.iaload, 1) := by decide +kernel
theorem dX12_isBetween_6 : decode cX12_isBetween 6 = .ok (.aload_n 0, 1) := by decide +kernel
theorem dX12_isBetween_7 : decode cX12_isBetween 7 = .ok (.getfield 41, 3) := by decide +kernel
theorem dX12_isBetween_10 : decode cX12_isBetween 10 = .ok (.iload_n 2, 1) := by decide +kernel
theorem dX12_isBetween_11 : decode cX12_isBetween 11 = .ok (.iaload, 1) := by decide +kernel
theorem dX12_isBetween_12 : decode cX12_isBetween 12 = .ok (.aload_n 0, 1) := by decide +kernel
theorem dX12_isBetween_13 : decode cX12_isBetween 13 = .ok (.getfield 41, 3) := by decide +kernel
theorem dX12_isBetween_16 : decode cX12_isBetween 16 = .ok (.iload_n 3, 1) := by decide +kernel
theorem dX12_isBetween_17 : decode cX12_isBetween 17 = .ok (.iaload, 1) := by decide +kernel
theorem dX12_isBetween_18 : decode cX12_isBetween 18 = .ok (.invokestatic 179, 3) := by decide +kernel
theorem dX12_isBetween_21 : decode cX12_isBetween 21 = .ok (.if_icmp .le 31, 3) := by decide +kernel
theorem dX12_isBetween_24 : decode cX12_isBetween 24 = .ok (.aload_n 0, 1) := by decide +kernel
theorem dX12_isBetween_25 : decode cX12_isBetween 25 = .ok (.getfield 41, 3) := by decide +kernel
theorem dX12_isBetween_28 : decode cX12_isBetween 28 = .ok (.iload_n 1, 1) := by decide +kernel
theorem dX12_isBetween_29 : decode cX12_isBetween 29 = .ok (.iaload, 1) := by decide +kernel
theorem dX12_isBetween_30 : decode cX12_isBetween 30 = .ok (.aload_n 0, 1) := by decide +kernel
theorem dX12_isBetween_31 : decode cX12_isBetween 31 = .ok (.getfield 41, 3) := by decide +kernel
theorem dX12_isBetween_34 : decode cX12_isBetween 34 = .ok (.iload_n 2, 1) := by decide +kernel
theorem dX12_isBetween_35 : decode cX12_isBetween 35 = .ok (.iaload, 1) := by decide +kernel
theorem dX12_isBetween_36 : decode cX12_isBetween 36 = .ok (.aload_n 0, 1) := by decide +kernel
theorem dX12_isBetween_37 : decode cX12_isBetween 37 = .ok (.getfield 41, 3) := by decide +kernel
theorem dX12_isBetween_40 : decode cX12_isBetween 40 = .ok (.iload_n 3, 1) := by decide +kernel
theorem dX12_isBetween_41 : decode cX12_isBetween 41 = .ok (.iaload, 1) := by decide +kernel
theorem dX12_isBetween_42 : decode cX12_isBetween 42 = .ok (.invokestatic 302, 3) := by decide +kernel
theorem dX12_isBetween_45 : decode cX12_isBetween 45 = .ok (.if_icmp .ge 7, 3) := by decide +kernel
theorem dX12_isBetween_48 : decode cX12_isBetween 48 = .ok (.iconst 1, 1) := by decide +kernel
theorem dX12_isBetween_49 : decode cX12_isBetween 49 = .ok (.goto 4, 3) := by decide +kernel
theorem dX12_isBetween_52 : decode cX12_isBetween 52 = .ok (.iconst 0, 1) := by decide +kernel
theorem dX12_isBetween_53 : decode cX12_isBetween 53 = .ok (.ireturn, 1) := by decide +kernel
set_option maxRecDepth 20000 in
theorem ggX12_isBelow_X12_topOf : GoodIn wsX12_isBelow wsX12_topOf := goodIn_r _ [6, 7, 8, 9, 10, 11, 12, 13, 14, 15, 16, 17, 18, 19, 20, 21, 22, 23, 24, 25, 26, 27, 28, 29, 30, 31, 32, 33, 34, 35, 36, 37, 38, 39, 40, 41, 42, 43, 44, 45, 46, 47, 48, 49, 50, 51, 52, 53, 54, 55, 56, 57, 58, 59, 60, 61, 62, 63, 64, 65] (by decide +kernel) (by decide +kernel)
set_option maxRecDepth 20000 in
theorem gX12_isBelow_X12_topOf : GoodIn wsX12_isBelow (wsV RX12 305 RX12 yX12_topOf wsX12_topOf) := goodIn_app (goodIn_of _ (by decide +kernel)) ggX12_isBelow_X12_topOf
theorem dX12_isBelow_0 : decode cX12_isBelow 0 = .ok (.aload_n 0, 1) := by decide +kernel
theorem dX12_isBelow_1 : decode cX12_isBelow 1 = .ok (.getfield 41, 3) := by decide +kernel
theorem dX12_isBelow_4 : decode cX12_isBelow 4 = .ok (.iload_n 2, 1) := by decide +kernel
theorem dX12_isBelow_5 : decode cX12_isBelow 5 = .ok (.iaload, 1) := by decide +kernel
theorem dX12_isBelow_6 : decode cX12_isBelow 6 = .ok (.aload_n 0, 1) := by decide +kernel
theorem dX12_isBelow_7 : decode cX12_isBelow 7 = .ok (.getfield 41, 3) := by decide +kernel
theorem dX12_isBelow_10 : decode cX12_isBelow 10 = .ok (.iload_n 3, 1) := by decide +kernel
theorem dX12_isBelow_11 : decode cX12_isBelow 11 = .ok (.iaload, 1) := by decide +kernel
theorem dX12_isBelow_12 : decode cX12_isBelow 12 = .ok (.if_icmp .ge 7, 3) := by decide +kernel
theorem dX12_isBelow_15 : decode cX12_isBelow 15 = .ok (.iload_n 2, 1) := by decide +kernel
theorem dX12_isBelow_16 : decode cX12_isBelow 16 = .ok (.goto 4, 3) := by decide +kernel
theorem dX12_isBelow_19 : decode cX12_isBelow 19 = .ok (.iload_n 3, 1) := by decide +kernel
theorem dX12_isBelow_20 : decode cX12_isBelow 20 = .ok (.istore 4, 2) := by decide +kernel
theorem dX12_isBelow_22 : decode cX12_isBelow 22 = .ok (.aload_n 0, 1) := by decide +kernel
theorem dX12_isBelow_23 : decode cX12_isBelow 23 = .ok (.getfield 41, 3) := by decide +kernel
theorem dX12_isBelow_26 : decode cX12_isBelow 26 = .ok (.iload_n 2, 1) := by decide +kernel
theorem dX12_isBelow_27 : decode cX12_isBelow 27 = .ok (.iaload, 1) := by decide +kernel
theorem dX12_isBelow_28 : decode cX12_isBelow 28 = .ok (.aload_n 0, 1) := by decide +kernel
theorem dX12_isBelow_29 : decode cX12_isBelow 29 = .ok (.getfield 41, 3) := by decide +kernel
theorem dX12_isBelow_32 : decode cX12_isBelow 32 = .ok (.iload_n 3, 1) := by decide +kernel
theorem dX12_isBelow_33 : decode cX12_isBelow 33 = .ok (.iaload, 1) := by decide +kernel
theorem dX12_isBelow_34 : decode cX12_isBelow 34 = .ok (.if_icmp .ge 7, 3) := by decide +kernel
theorem dX12_isBelow_37 : decode cX12_isBelow 37 = .ok (.iload_n 3, 1) := by decide +kernel
theorem dX12_isBelow_38 : decode cX12_isBelow 38 = .ok (.goto 4, 3) := by decide +kernel
theorem dX12_isBelow_41 : decode cX12_isBelow 41 = .ok (.iload_n 2, 1) := by decide +kernel
theorem dX12_isBelow_42 : decode cX12_isBelow 42 = .ok (.istore 5, 2) := by decide +kernel
theorem dX12_isBelow_44 : decode cX12_isBelow 44 = .ok (.aload_n 0, 1) := by decide +kernel
theorem dX12_isBelow_45 : decode cX12_isBelow 45 = .ok (.iload_n 1, 1) := by decide +kernel
theorem dX12_isBelow_46 : decode cX12_isBelow 46 = .ok (.invokevirtual 305, 3) := by decide +kernel
theorem dX12_isBelow_49 : decode cX12_isBelow 49 = .ok (.aload_n 0, 1) := by decide +kernel
theorem dX12_isBelow_50 : decode cX12_isBelow 50 = .ok (.getfield 41, 3) := by decide +kernel
theorem dX12_isBelow_53 : decode cX12_isBelow 53 = .ok (.iload 5, 2) := by decide +kernel
theorem dX12_isBelow_55 : decode cX12_isBelow 55 = .ok (.iaload, 1) := by decide +kernel
theorem dX12_isBelow_56 : decode cX12_isBelow 56 = .ok (.aload_n 0, 1) := by decide +kernel
theorem dX12_isBelow_57 : decode cX12_isBelow 57 = .ok (.getfield 41, 3) := by decide +kernel
theorem dX12_isBelow_60 : decode cX12_isBelow 60 = .ok (.iload 4, 2) := by decide +kernel
theorem dX12_isBelow_62 : decode cX12_isBelow 62 = .ok (.iaload, 1) := by decide +kernel
theorem dX12_isBelow_63 : decode cX12_isBelow 63 = .ok (.isub, 1) := by decide +kernel
theorem dX12_isBelow_64 : decode cX12_isBelow 64 = .ok (.imul, 1) := by decide +kernel
theorem dX12_isBelow_65 : decode cX12_isBelow 65 = .ok (.aload_n 0, 1) := by decide +kernel
theorem dX12_isBelow_66 : decode cX12_isBelow 66 = .ok (.iload 4, 2) := by decide +kernel
theorem dX12_isBelow_68 : decode cX12_isBelow 68 = .ok (.invokevirtual 305, 3) := by decide +kernel
theorem dX12_isBelow_71 : decode cX12_isBelow 71 = .ok (.aload_n 0, 1) := by decide +kernel
theorem dX12_isBelow_72 : decode cX12_isBelow 72 = .ok (.getfield 41, 3) := by decide +kernel
theorem dX12_isBelow_75 : decode cX12_isBelow 75 = .ok (.iload 5, 2) := by decide +kernel
theorem dX12_isBelow_77 : decode cX12_isBelow 77 = .ok (.iaload, 1) := by decide +kernel
theorem dX12_isBelow_78 : decode cX12_isBelow 78 = .ok (.aload_n 0, 1) := by decide +kernel
theorem dX12_isBelow_79 : decode cX12_isBelow 79 = .ok (.getfield 41, 3) := by decide +kernel
theorem dX12_isBelow_82 : decode cX12_isBelow 82 = .ok (.iload_n 1, 1) := by decide +kernel
theorem dX12_isBelow_83 : decode cX12_isBelow 83 = .ok (.iaload, 1) := by decide +kernel
theorem dX12_isBelow_84 : decode cX12_isBelow 84 = .ok (.isub, 1) := by decide +kernel
theorem dX12_isBelow_85 : decode cX12_isBelow 85 = .ok (.imul, 1) := by decide +kernel
theorem dX12_isBelow_86 : decode cX12_isBelow 86 = .ok (.aload_n 0, 1) := by decide +kernel
theorem dX12_isBelow_87 : decode cX12_isBelow 87 = .ok (.iload 5, 2) := by decide +kernel
theorem dX12_isBelow_89 : decode cX12_isBelow 89 = .ok (.invokevirtual 305, 3) := by decide +kernel
theorem dX12_isBelow_92 : decode cX12_isBelow 92 = .ok (.aload_n 0, 1) := by decide +kernel
theorem dX12_isBelow_93 : decode cX12_isBelow 93 = .ok (.getfield 41, 3) := by decide +kernel
theorem dX12_isBelow_96 : decode cX12_isBelow 96 = .ok (.iload_n 1, 1) := by decide +kernel
theorem dX12_isBelow_97 : decode cX12_isBelow 97 = .ok (.iaload, 1) := by decide +kernel
theorem dX12_isBelow_98 : decode cX12_isBelow 98 = .ok (.aload_n 0, 1) := by decide +kernel
theorem dX12_isBelow_99 : decode cX12_isBelow 99 = .ok (.getfield 41, 3) := by decide +kernel
theorem dX12_isBelow_102 : decode cX12_isBelow 102 = .ok (.iload 4, 2) := by decide +kernel
theorem dX12_isBelow_104 : decode cX12_isBelow 104 = .ok (.iaload, 1) := by decide +kernel
theorem dX12_isBelow_105 : decode cX12_isBelow 105 = .ok (.isub, 1) := by decide +kernel
theorem dX12_isBelow_106 : decode cX12_isBelow 106 = .ok (.imul, 1) := by decide +kernel
theorem dX12_isBelow_107 : decode cX12_isBelow 107 = .ok (.iadd, 1) := by decide +kernel
theorem dX12_isBelow_108 : decode cX12_isBelow 108 = .ok (.if_icmp .ge 7, 3) := by decide +kernel
theorem dX12_isBelow_111 : decode cX12_isBelow 111 = .ok (.iconst 1, 1) := by decide +kernel
theorem dX12_isBelow_112 : decode cX12_isBelow 112 = .ok (.goto 4, 3) := by decide +kernel
theorem dX12_isBelow_115 : decode cX12_isBelow 115 = .ok (.iconst 0, 1) := by decide +kernel
theorem dX12_isBelow_116 : decode cX12_isBelow 116 = .ok (.ireturn, 1) := by decide +kernel
set_option maxRecDepth 20000 in
theorem ggX12_inTheWay_X12_isBetween : GoodIn wsX12_inTheWay wsX12_isBetween := goodIn_r _ [6, 7, 8, 9, 10, 11, 12, 13, 14, 25, 26, 27, 28, 29, 30, 31, 32, 33, 34, 35, 36, 37, 38, 39, 40, 41, 42, 43, 44, 45, 46, 47, 48, 49, 50, 51, 52, 53, 54, 55, 56, 57, 58, 59, 60, 61, 62, 63, 64, 65, 66, 67, 68, 69, 70, 71, 72, 73, 74, 75, 76, 77, 78, 79, 80, 81] (by decide +kernel) (by decide +kernel)
set_option maxRecDepth 20000 in
theorem gX12_inTheWay_X12_isBetween : GoodIn wsX12_inTheWay (wsV RX12 308 RX12 yX12_isBetween wsX12_isBetween) := goodIn_app (goodIn_of _ (by decide +kernel)) ggX12_inTheWay_X12_isBetween
set_option maxRecDepth 20000 in
theorem ggX12_inTheWay_X12_isBelow : GoodIn wsX12_inTheWay wsX12_isBelow := goodIn_r _ [18, 7, 19, 20, 21, 5, 22, 23, 24, 25, 26, 27, 28, 29, 30, 31, 32, 33, 34, 35, 36, 37, 38, 39, 40, 41, 42, 43, 44, 45, 46, 47, 48, 49, 50, 51, 52, 53, 54, 55, 56, 57, 58, 59, 60, 61, 62, 63, 64, 65, 66, 67, 68, 69, 70, 71, 72, 73, 74, 75, 76, 77, 78, 79, 80, 81] (by decide +kernel) (by decide +kernel)
set_option maxRecDepth 20000 in
theorem gX12_inTheWay_X12_isBelow : GoodIn wsX12_inTheWay (wsV RX12 312 RX12 yX12_isBelow wsX12_isBelow) := goodIn_app (goodIn_of _ (by decide +kernel)) ggX12_inTheWay_X12_isBelow
theorem dX12_inTheWay_0 : decode cX12_inTheWay 0 = .ok (.iconst 0, 1) := by decide +kernel
theorem dX12_inTheWay_1 : decode cX12_inTheWay 1 = .ok (.istore_n 3, 1) := by decide +kernel
theorem dX12_inTheWay_2 : decode cX12_inTheWay 2 = .ok (.iconst 0, 1) := by decide +kernel
theorem dX12_inTheWay_3 : decode cX12_inTheWay 3 = .ok (.istore 4, 2) := by decide +kernel
theorem dX12_inTheWay_5 : decode cX12_inTheWay 5 = .ok (.iload 4, 2) := by decide +kernel
theorem dX12_inTheWay_7 : decode cX12_inTheWay 7 = .ok (.aload_n 0, 1) := by decide +kernel
theorem dX12_inTheWay_8 : decode cX12_inTheWay 8 = .ok (.getfield 34, 3) := by decide +kernel
theorem dX12_inTheWay_11 : decode cX12_inTheWay 11 = .ok (.iconst 0, 1) := by decide +kernel
theorem dX12_inTheWay_12 : decode cX12_inTheWay 12 = .ok (.iaload, 1) := by decide +kernel
theorem dX12_inTheWay_13 : decode cX12_inTheWay 13 = .ok (.if_icmp .ge 42, 3) := by decide +kernel
theorem dX12_inTheWay_16 : decode cX12_inTheWay 16 = .ok (.iload_n 3, 1) := by decide +kernel
theorem dX12_inTheWay_17 : decode cX12_inTheWay 17 = .ok (.aload_n 0, 1) := by decide +kernel
theorem dX12_inTheWay_18 : decode cX12_inTheWay 18 = .ok (.iload 4, 2) := by decide +kernel
theorem dX12_inTheWay_20 : decode cX12_inTheWay 20 = .ok (.iload_n 1, 1) := by decide +kernel
theorem dX12_inTheWay_21 : decode cX12_inTheWay 21 = .ok (.iload_n 2, 1) := by decide +kernel
theorem dX12_inTheWay_22 : decode cX12_inTheWay 22 = .ok (.invokevirtual 308, 3) := by decide +kernel
theorem dX12_inTheWay_25 : decode cX12_inTheWay 25 = .ok (.ifCond .eq 21, 3) := by decide +kernel
theorem dX12_inTheWay_28 : decode cX12_inTheWay 28 = .ok (.aload_n 0, 1) := by decide +kernel
theorem dX12_inTheWay_29 : decode cX12_inTheWay 29 = .ok (.iload 4, 2) := by decide +kernel
theorem dX12_inTheWay_31 : decode cX12_inTheWay 31 = .ok (.iload_n 1, 1) := by decide +kernel
theorem dX12_inTheWay_32 : decode cX12_inTheWay 32 = .ok (.iload_n 2, 1) := by decide +kernel
theorem dX12_inTheWay_33 : decode cX12_inTheWay 33 = .ok (.invokevirtual 312, 3) := by decide +kernel
theorem dX12_inTheWay_36 : decode cX12_inTheWay 36 = .ok (.ifCond .ne 10, 3) := by decide +kernel
theorem dX12_inTheWay_39 : decode cX12_inTheWay 39 = .ok (.iconst 1, 1) := by decide +kernel
theorem dX12_inTheWay_40 : decode cX12_inTheWay 40 = .ok (.iload 4, 2) := by decide +kernel
theorem dX12_inTheWay_42 : decode cX12_inTheWay 42 = .ok (.ishl, 1) := by decide +kernel
theorem dX12_inTheWay_43 : decode cX12_inTheWay 43 = .ok (.goto 4, 3) := by decide +kernel
theorem dX12_inTheWay_46 : decode cX12_inTheWay 46 = .ok (.iconst 0, 1) := by decide +kernel
theorem dX12_inTheWay_47 : decode cX12_inTheWay 47 = .ok (.ior, 1) := by decide +kernel
theorem dX12_inTheWay_48 : decode cX12_inTheWay 48 = .ok (.istore_n 3, 1) := by decide +kernel
theorem dX12_inTheWay_49 : decode cX12_inTheWay 49 = .ok (.iinc 4 1, 3) := by decide +kernel
theorem dX12_inTheWay_52 : decode cX12_inTheWay 52 = .ok (.goto (-47), 3) := by decide +kernel
theorem dX12_inTheWay_55 : decode cX12_inTheWay 55 = .ok (.iload_n 3, 1) := by decide +kernel
theorem dX12_inTheWay_56 : decode cX12_inTheWay 56 = .ok (.ireturn, 1) := by decide +kernel
set_option maxRecDepth 20000 in
theorem ggX12_inSight_X12_mistOf : GoodIn wsX12_inSight wsX12_mistOf := goodIn_r _ [11, 12, 6, 13, 14, 39, 40, 41, 42, 43, 44, 45, 46, 47, 48, 49, 50, 51, 52, 53, 54, 55, 56, 57, 58, 59, 60, 61, 62, 63, 64, 65, 66, 67, 68, 69, 70, 71, 72, 73, 74, 75, 76, 77, 78, 79, 80, 81, 82, 83, 84, 85, 86, 87, 88, 89, 90, 91, 92, 93, 94, 95] (by decide +kernel) (by decide +kernel)
set_option maxRecDepth 20000 in
theorem gX12_inSight_X12_mistOf : GoodIn wsX12_inSight (wsV RX12 318 RX12 yX12_mistOf wsX12_mistOf) := goodIn_app (goodIn_of _ (by decide +kernel)) ggX12_inSight_X12_mistOf
set_option maxRecDepth 20000 in
theorem ggX12_inSight_X12_inTheWay : GoodIn wsX12_inSight wsX12_inTheWay := goodIn_r _ [18, 6, 19, 20, 21, 10, 22, 1, 23, 24, 4, 25, 26, 27, 28, 29, 30, 31, 32, 33, 34, 35, 36, 37, 38, 39, 40, 41, 42, 43, 44, 45, 46, 47, 48, 49, 50, 51, 52, 53, 54, 55, 56, 57, 58, 59, 60, 61, 62, 63, 64, 65, 66, 67, 68, 69, 70, 71, 72, 73, 74, 75, 76, 77, 78, 79, 80, 81, 82, 83, 84, 85, 86, 87, 88, 89, 90, 91, 92, 93, 94, 95] (by decide +kernel) (by decide +kernel)
set_option maxRecDepth 20000 in
theorem gX12_inSight_X12_inTheWay : GoodIn wsX12_inSight (wsV RX12 321 RX12 yX12_inTheWay wsX12_inTheWay) := goodIn_app (goodIn_of _ (by decide +kernel)) ggX12_inSight_X12_inTheWay
theorem dX12_inSight_0 : decode cX12_inSight 0 = .ok (.iload_n 1, 1) := by decide +kernel
theorem dX12_inSight_1 : decode cX12_inSight 1 = .ok (.iload_n 2, 1) := by decide +kernel
theorem dX12_inSight_2 : decode cX12_inSight 2 = .ok (.if_icmp .eq 49, 3) := by decide +kernel
theorem dX12_inSight_5 : decode cX12_inSight 5 = .ok (.aload_n 0, 1) := by decide +kernel
theorem dX12_inSight_6 : decode cX12_inSight 6 = .ok (.getfield 41, 3) := by decide +kernel
theorem dX12_inSight_9 : decode cX12_inSight 9 = .ok (.iload_n 1, 1) := by decide +kernel
theorem dX12_inSight_10 : decode cX12_inSight 10 = .ok (.iaload, 1) := by decide +kernel
theorem dX12_inSight_11 : decode cX12_inSight 11 = .ok (.aload_n 0, 1) := by decide +kernel
theorem dX12_inSight_12 : decode cX12_inSight 12 = .ok (.getfield 41, 3) := by decide +kernel
theorem dX12_inSight_15 : decode cX12_inSight 15 = .ok (.iload_n 2, 1) := by decide +kernel
theorem dX12_inSight_16 : decode cX12_inSight 16 = .ok (.iaload, 1) := by decide +kernel
theorem dX12_inSight_17 : decode cX12_inSight 17 = .ok (.isub, 1) := by decide +kernel
theorem dX12_inSight_18 : decode cX12_inSight 18 = .ok (.invokestatic 315, 3) := by decide +kernel
theorem dX12_inSight_21 : decode cX12_inSight 21 = .ok (.aload_n 0, 1) := by decide +kernel
theorem dX12_inSight_22 : decode cX12_inSight 22 = .ok (.getfield 34, 3) := by decide +kernel
theorem dX12_inSight_25 : decode cX12_inSight 25 = .ok (.iconst 1, 1) := by decide +kernel
theorem dX12_inSight_26 : decode cX12_inSight 26 = .ok (.iaload, 1) := by decide +kernel
theorem dX12_inSight_27 : decode cX12_inSight 27 = .ok (.bipush 9, 2) := by decide +kernel
theorem dX12_inSight_29 : decode cX12_inSight 29 = .ok (.aload_n 0, 1) := by decide +kernel
theorem dX12_inSight_30 : decode cX12_inSight 30 = .ok (.invokevirtual 318, 3) := by decide +kernel
theorem dX12_inSight_33 : decode cX12_inSight 33 = .ok (.imul, 1) := by decide +kernel
theorem dX12_inSight_34 : decode cX12_inSight 34 = .ok (.isub, 1) := by decide +kernel
theorem dX12_inSight_35 : decode cX12_inSight 35 = .ok (.if_icmp .gt 16, 3) := by decide +kernel
theorem dX12_inSight_38 : decode cX12_inSight 38 = .ok (.aload_n 0, 1) := by decide +kernel
theorem dX12_inSight_39 : decode cX12_inSight 39 = .ok (.iload_n 1, 1) := by decide +kernel
theorem dX12_inSight_40 : decode cX12_inSight 40 = .ok (.iload_n 2, 1) := by decide +kernel
theorem dX12_inSight_41 : decode cX12_inSight 41 = .ok (.invokevirtual 321, 3) := by decide +kernel
theorem dX12_inSight_44 : decode cX12_inSight 44 = .ok (.ifCond .ne 7, 3) := by decide +kernel
theorem dX12_inSight_47 : decode cX12_inSight 47 = .ok (.iconst 1, 1) := by decide +kernel
theorem dX12_inSight_48 : decode cX12_inSight 48 = .ok (.goto 4, 3) := by decide +kernel
theorem dX12_inSight_51 : decode cX12_inSight 51 = .ok (.iconst 0, 1) := by decide +kernel
theorem dX12_inSight_52 : decode cX12_inSight 52 = .ok (.ireturn, 1) := by decide +kernel
set_option maxRecDepth 20000 in
theorem ggX12_seesOf_X12_inSight : GoodIn wsX12_seesOf wsX12_inSight := goodIn_r _ [6, 7, 8, 9, 10, 11, 1, 12, 13, 14, 5, 15, 16, 17, 18, 19, 20, 21, 22, 23, 24, 25, 26, 27, 28, 29, 30, 31, 32, 33, 34, 35, 36, 37, 38, 39, 40, 41, 42, 43, 44, 45, 46, 47, 48, 49, 50, 51, 52, 53, 54, 55, 56, 57, 58, 59, 60, 61, 62, 63, 64, 65, 66, 67, 68, 69, 70, 71, 72, 73, 74, 75, 76, 77, 78, 79, 80, 81, 82, 83, 84, 85, 86, 87, 88, 89, 90, 91, 92, 93, 94, 95, 96, 97, 98, 99] (by decide +kernel) (by decide +kernel)
set_option maxRecDepth 20000 in
theorem gX12_seesOf_X12_inSight : GoodIn wsX12_seesOf (wsV RX12 324 RX12 yX12_inSight wsX12_inSight) := goodIn_app (goodIn_of _ (by decide +kernel)) ggX12_seesOf_X12_inSight
theorem dX12_seesOf_0 : decode cX12_seesOf 0 = .ok (.iconst 0, 1) := by decide +kernel
theorem dX12_seesOf_1 : decode cX12_seesOf 1 = .ok (.istore_n 2, 1) := by decide +kernel
theorem dX12_seesOf_2 : decode cX12_seesOf 2 = .ok (.iconst 0, 1) := by decide +kernel
theorem dX12_seesOf_3 : decode cX12_seesOf 3 = .ok (.istore_n 3, 1) := by decide +kernel
theorem dX12_seesOf_4 : decode cX12_seesOf 4 = .ok (.iload_n 3, 1) := by decide +kernel
theorem dX12_seesOf_5 : decode cX12_seesOf 5 = .ok (.aload_n 0, 1) := by decide +kernel
theorem dX12_seesOf_6 : decode cX12_seesOf 6 = .ok (.getfield 34, 3) := by decide +kernel
theorem dX12_seesOf_9 : decode cX12_seesOf 9 = .ok (.iconst 0, 1) := by decide +kernel
theorem dX12_seesOf_10 : decode cX12_seesOf 10 = .ok (.iaload, 1) := by decide +kernel
theorem dX12_seesOf_11 : decode cX12_seesOf 11 = .ok (.if_icmp .ge 28, 3) := by decide +kernel
theorem dX12_seesOf_14 : decode cX12_seesOf 14 = .ok (.iload_n 2, 1) := by decide +kernel
theorem dX12_seesOf_15 : decode cX12_seesOf 15 = .ok (.aload_n 0, 1) := by decide +kernel
theorem dX12_seesOf_16 : decode cX12_seesOf 16 = .ok (.iload_n 1, 1) := by decide +kernel
theorem dX12_seesOf_17 : decode cX12_seesOf 17 = .ok (.iload_n 3, 1) := by decide +kernel
theorem dX12_seesOf_18 : decode cX12_seesOf 18 = .ok (.invokevirtual 324, 3) := by decide +kernel
theorem dX12_seesOf_21 : decode cX12_seesOf 21 = .ok (.ifCond .eq 9, 3) := by decide +kernel
theorem dX12_seesOf_24 : decode cX12_seesOf 24 = .ok (.iconst 1, 1) := by decide +kernel
theorem dX12_seesOf_25 : decode cX12_seesOf 25 = .ok (.iload_n 3, 1) := by decide +kernel
theorem dX12_seesOf_26 : decode cX12_seesOf 26 = .ok (.ishl, 1) := by decide +kernel
theorem dX12_seesOf_27 : decode cX12_seesOf 27 = .ok (.goto 4, 3) := by decide +kernel
theorem dX12_seesOf_30 : decode cX12_seesOf 30 = .ok (.iconst 0, 1) := by decide +kernel
theorem dX12_seesOf_31 : decode cX12_seesOf 31 = .ok (.ior, 1) := by decide +kernel
theorem dX12_seesOf_32 : decode cX12_seesOf 32 = .ok (.istore_n 2, 1) := by decide +kernel
theorem dX12_seesOf_33 : decode cX12_seesOf 33 = .ok (.iinc 3 1, 3) := by decide +kernel
theorem dX12_seesOf_36 : decode cX12_seesOf 36 = .ok (.goto (-32), 3) := by decide +kernel
theorem dX12_seesOf_39 : decode cX12_seesOf 39 = .ok (.iload_n 2, 1) := by decide +kernel
theorem dX12_seesOf_40 : decode cX12_seesOf 40 = .ok (.ireturn, 1) := by decide +kernel
theorem dX12_reckon_0 : decode cX12_reckon 0 = .ok (.iload_n 0, 1) := by decide +kernel
theorem dX12_reckon_1 : decode cX12_reckon 1 = .ok (.tableswitch 103 (-26) (-20) #[89, 78, 67, 55, 51, 47, 43], 43) := by decide +kernel
theorem dX12_reckon_44 : decode cX12_reckon 44 = .ok (.iload_n 1, 1) := by decide +kernel
theorem dX12_reckon_45 : decode cX12_reckon 45 = .ok (.iload_n 2, 1) := by decide +kernel
theorem dX12_reckon_46 : decode cX12_reckon 46 = .ok (.iadd, 1) := by decide +kernel
theorem dX12_reckon_47 : decode cX12_reckon 47 = .ok (.ireturn, 1) := by decide +kernel
theorem dX12_reckon_48 : decode cX12_reckon 48 = .ok (.iload_n 1, 1) := by decide +kernel
theorem dX12_reckon_49 : decode cX12_reckon 49 = .ok (.iload_n 2, 1) := by decide +kernel
theorem dX12_reckon_50 : decode cX12_reckon 50 = .ok (.isub, 1) := by decide +kernel
theorem dX12_reckon_51 : decode cX12_reckon 51 = .ok (.ireturn, 1) := by decide +kernel
theorem dX12_reckon_52 : decode cX12_reckon 52 = .ok (.iload_n 1, 1) := by decide +kernel
theorem dX12_reckon_53 : decode cX12_reckon 53 = .ok (.iload_n 2, 1) := by decide +kernel
theorem dX12_reckon_54 : decode cX12_reckon 54 = .ok (.imul, 1) := by decide +kernel
theorem dX12_reckon_55 : decode cX12_reckon 55 = .ok (.ireturn, 1) := by decide +kernel
theorem dX12_reckon_56 : decode cX12_reckon 56 = .ok (.iload_n 2, 1) := by decide +kernel
theorem dX12_reckon_57 : decode cX12_reckon 57 = .ok (.ifCond .ne 7, 3) := by decide +kernel
theorem dX12_reckon_60 : decode cX12_reckon 60 = .ok (.iconst 0, 1) := by decide +kernel
theorem dX12_reckon_61 : decode cX12_reckon 61 = .ok (.goto 6, 3) := by decide +kernel
theorem dX12_reckon_64 : decode cX12_reckon 64 = .ok (.iload_n 1, 1) := by decide +kernel
theorem dX12_reckon_65 : decode cX12_reckon 65 = .ok (.iload_n 2, 1) := by decide +kernel
theorem dX12_reckon_66 : decode cX12_reckon 66 = .ok (.idiv, 1) := by decide +kernel
theorem dX12_reckon_67 : decode cX12_reckon 67 = .ok (.ireturn, 1) := by decide +kernel
theorem dX12_reckon_68 : decode cX12_reckon 68 = .ok (.iload_n 1, 1) := by decide +kernel
theorem dX12_reckon_69 : decode cX12_reckon 69 = .ok (.iload_n 2, 1) := by decide +kernel
theorem dX12_reckon_70 : decode cX12_reckon 70 = .ok (.if_icmp .ge 7, 3) := by decide +kernel
theorem dX12_reckon_73 : decode cX12_reckon 73 = .ok (.iconst 1, 1) := by decide +kernel
theorem dX12_reckon_74 : decode cX12_reckon 74 = .ok (.goto 4, 3) := by decide +kernel
theorem dX12_reckon_77 : decode cX12_reckon 77 = .ok (.iconst 0, 1) := by decide +kernel
