theorem dX8_nextToken_52 : decode cX8_nextToken 52 = .ok (.invokevirtual 90, 3) := by decide +kernel
theorem dX8_nextToken_55 : decode cX8_nextToken 55 = .ok (.istore_n 1, 1) := by decide +kernel
theorem dX8_nextToken_56 : decode cX8_nextToken 56 = .ok (.iload_n 1, 1) := by decide +kernel
theorem dX8_nextToken_57 : decode cX8_nextToken 57 = .ok (.ifCond .ge 11, 3) := by decide +kernel
theorem dX8_nextToken_60 : decode cX8_nextToken 60 = .ok (.aload_n 0, 1) := by decide +kernel
theorem dX8_nextToken_61 : decode cX8_nextToken 61 = .ok (.iconst 0, 1) := by decide +kernel
theorem dX8_nextToken_62 : decode cX8_nextToken 62 = .ok (.putfield 97, 3) := by decide +kernel
theorem dX8_nextToken_65 : decode cX8_nextToken 65 = .ok (.goto 325, 3) := by decide +kernel
theorem dX8_nextToken_68 : decode cX8_nextToken 68 = .ok (.iload_n 1, 1) := by decide +kernel
theorem dX8_nextToken_69 : decode cX8_nextToken 69 = .ok (.invokestatic 100, 3) := by decide +kernel
theorem dX8_nextToken_72 : decode cX8_nextToken 72 = .ok (.ifCond .eq 72, 3) := by decide +kernel
theorem dX8_nextToken_75 : decode cX8_nextToken 75 = .ok (.aload_n 0, 1) := by decide +kernel
theorem dX8_nextToken_76 : decode cX8_nextToken 76 = .ok (.iconst 1, 1) := by decide +kernel
theorem dX8_nextToken_77 : decode cX8_nextToken 77 = .ok (.putfield 97, 3) := by decide +kernel
theorem dX8_nextToken_80 : decode cX8_nextToken 80 = .ok (.aload_n 0, 1) := by decide +kernel
theorem dX8_nextToken_81 : decode cX8_nextToken 81 = .ok (.iconst 0, 1) := by decide +kernel
theorem dX8_nextToken_82 : decode cX8_nextToken 82 = .ok (.putfield 104, 3) := by decide +kernel
theorem dX8_nextToken_85 : decode cX8_nextToken 85 = .ok (.aload_n 0, 1) := by decide +kernel
theorem dX8_nextToken_86 : decode cX8_nextToken 86 = .ok (.aload_n 0, 1) := by decide +kernel
theorem dX8_nextToken_87 : decode cX8_nextToken 87 = .ok (.getfield 87, 3) := by decide +kernel
theorem dX8_nextToken_90 : decode cX8_nextToken 90 = .ok (.invokevirtual 90, 3) := by decide +kernel
theorem dX8_nextToken_93 : decode cX8_nextToken 93 = .ok (.invokestatic 100, 3) := by decide +kernel
theorem dX8_nextToken_96 : decode cX8_nextToken 96 = .ok (.ifCond .eq 294, 3) := by decide +kernel
theorem dX8_nextToken_99 : decode cX8_nextToken 99 = .ok (.aload_n 0, 1) := by decide +kernel
theorem dX8_nextToken_100 : decode cX8_nextToken 100 = .ok (.getfield 104, 3) := by decide +kernel
theorem dX8_nextToken_103 : decode cX8_nextToken 103 = .ok (.ldc 107, 2) := by decide +kernel
theorem dX8_nextToken_105 : decode cX8_nextToken 105 = .ok (.if_icmp .ge 26, 3) := by decide +kernel
theorem dX8_nextToken_108 : decode cX8_nextToken 108 = .ok (.aload_n 0, 1) := by decide +kernel
theorem dX8_nextToken_109 : decode cX8_nextToken 109 = .ok (.bipush 10, 2) := by decide +kernel
theorem dX8_nextToken_111 : decode cX8_nextToken 111 = .ok (.aload_n 0, 1) := by decide +kernel
theorem dX8_nextToken_112 : decode cX8_nextToken 112 = .ok (.getfield 104, 3) := by decide +kernel
theorem dX8_nextToken_115 : decode cX8_nextToken 115 = .ok (.imul, 1) := by decide +kernel
theorem dX8_nextToken_116 : decode cX8_nextToken 116 = .ok (.aload_n 0, 1) := by decide +kernel
theorem dX8_nextToken_117 : decode cX8_nextToken 117 = .ok (.aload_n 0, 1) := by decide +kernel
theorem dX8_nextToken_118 : decode cX8_nextToken 118 = .ok (.getfield 87, 3) := by decide +kernel
theorem dX8_nextToken_121 : decode cX8_nextToken 121 = .ok (.invokevirtual 90, 3) := by decide +kernel
theorem dX8_nextToken_124 : decode cX8_nextToken 124 = .ok (.iadd, 1) := by decide +kernel
theorem dX8_nextToken_125 : decode cX8_nextToken 125 = .ok (.bipush 48, 2) := by decide +kernel
theorem dX8_nextToken_127 : decode cX8_nextToken 127 = .ok (.isub, 1) := by decide +kernel
theorem dX8_nextToken_128 : decode cX8_nextToken 128 = .ok (.putfield 104, 3) := by decide +kernel
theorem dX8_nextToken_131 : decode cX8_nextToken 131 = .ok (.aload_n 0, 1) := by decide +kernel
theorem dX8_nextToken_132 : decode cX8_nextToken 132 = .ok (.dup, 1) := by decide +kernel
theorem dX8_nextToken_133 : decode cX8_nextToken 133 = .ok (.getfield 87, 3) := by decide +kernel
theorem dX8_nextToken_136 : decode cX8_nextToken 136 = .ok (.iconst 1, 1) := by decide +kernel
theorem dX8_nextToken_137 : decode cX8_nextToken 137 = .ok (.iadd, 1) := by decide +kernel
theorem dX8_nextToken_138 : decode cX8_nextToken 138 = .ok (.putfield 87, 3) := by decide +kernel
theorem dX8_nextToken_141 : decode cX8_nextToken 141 = .ok (.goto (-56), 3) := by decide +kernel
theorem dX8_nextToken_144 : decode cX8_nextToken 144 = .ok (.iload_n 1, 1) := by decide +kernel
theorem dX8_nextToken_145 : decode cX8_nextToken 145 = .ok (.invokestatic 108, 3) := by decide +kernel
theorem dX8_nextToken_148 : decode cX8_nextToken 148 = .ok (.ifCond .eq 97, 3) := by decide +kernel
theorem dX8_nextToken_151 : decode cX8_nextToken 151 = .ok (.aload_n 0, 1) := by decide +kernel
theorem dX8_nextToken_152 : decode cX8_nextToken 152 = .ok (.iconst 2, 1) := by decide +kernel
theorem dX8_nextToken_153 : decode cX8_nextToken 153 = .ok (.putfield 97, 3) := by decide +kernel
theorem dX8_nextToken_156 : decode cX8_nextToken 156 = .ok (.aload_n 0, 1) := by decide +kernel
theorem dX8_nextToken_157 : decode cX8_nextToken 157 = .ok (.lconst 0, 1) := by decide +kernel
theorem dX8_nextToken_158 : decode cX8_nextToken 158 = .ok (.putfield 111, 3) := by decide +kernel
theorem dX8_nextToken_161 : decode cX8_nextToken 161 = .ok (.aload_n 0, 1) := by decide +kernel
theorem dX8_nextToken_162 : decode cX8_nextToken 162 = .ok (.aload_n 0, 1) := by decide +kernel
theorem dX8_nextToken_163 : decode cX8_nextToken 163 = .ok (.getfield 87, 3) := by decide +kernel
theorem dX8_nextToken_166 : decode cX8_nextToken 166 = .ok (.invokevirtual 90, 3) := by decide +kernel
theorem dX8_nextToken_169 : decode cX8_nextToken 169 = .ok (.invokestatic 108, 3) := by decide +kernel
theorem dX8_nextToken_172 : decode cX8_nextToken 172 = .ok (.ifCond .eq 51, 3) := by decide +kernel
theorem dX8_nextToken_175 : decode cX8_nextToken 175 = .ok (.aload_n 0, 1) := by decide +kernel
theorem dX8_nextToken_176 : decode cX8_nextToken 176 = .ok (.getfield 87, 3) := by decide +kernel
theorem dX8_nextToken_179 : decode cX8_nextToken 179 = .ok (.aload_n 0, 1) := by decide +kernel
theorem dX8_nextToken_180 : decode cX8_nextToken 180 = .ok (.getfield 94, 3) := by decide +kernel
theorem dX8_nextToken_183 : decode cX8_nextToken 183 = .ok (.isub, 1) := by decide +kernel
theorem dX8_nextToken_184 : decode cX8_nextToken 184 = .ok (.bipush 7, 2) := by decide +kernel
theorem dX8_nextToken_186 : decode cX8_nextToken 186 = .ok (.if_icmp .ge 24, 3) := by decide +kernel
theorem dX8_nextToken_189 : decode cX8_nextToken 189 = .ok (.aload_n 0, 1) := by decide +kernel
theorem dX8_nextToken_190 : decode cX8_nextToken 190 = .ok (.aload_n 0, 1) := by decide +kernel
theorem dX8_nextToken_191 : decode cX8_nextToken 191 = .ok (.getfield 111, 3) := by decide +kernel
theorem dX8_nextToken_194 : decode cX8_nextToken 194 = .ok (.bipush 8, 2) := by decide +kernel
theorem dX8_nextToken_196 : decode cX8_nextToken 196 = .ok (.lshl, 1) := by decide +kernel
theorem dX8_nextToken_197 : decode cX8_nextToken 197 = .ok (.aload_n 0, 1) := by decide +kernel
theorem dX8_nextToken_198 : decode cX8_nextToken 198 = .ok (.aload_n 0, 1) := by decide +kernel
theorem dX8_nextToken_199 : decode cX8_nextToken 199 = .ok (.getfield 87, 3) := by decide +kernel
theorem dX8_nextToken_202 : decode cX8_nextToken 202 = .ok (.invokevirtual 90, 3) := by decide +kernel
theorem dX8_nextToken_205 : decode cX8_nextToken 205 = .ok (.i2l, 1) := by decide +kernel
theorem dX8_nextToken_206 : decode cX8_nextToken 206 = .ok (.lor, 1) := by decide +kernel
theorem dX8_nextToken_207 : decode cX8_nextToken 207 = .ok (.putfield 111, 3) := by decide +kernel
theorem dX8_nextToken_210 : decode cX8_nextToken 210 = .ok (.aload_n 0, 1) := by decide +kernel
theorem dX8_nextToken_211 : decode cX8_nextToken 211 = .ok (.dup, 1) := by decide +kernel
theorem dX8_nextToken_212 : decode cX8_nextToken 212 = .ok (.getfield 87, 3) := by decide +kernel
theorem dX8_nextToken_215 : decode cX8_nextToken 215 = .ok (.iconst 1, 1) := by decide +kernel
theorem dX8_nextToken_216 : decode cX8_nextToken 216 = .ok (.iadd, 1) := by decide +kernel
theorem dX8_nextToken_217 : decode cX8_nextToken 217 = .ok (.putfield 87, 3) := by decide +kernel
theorem dX8_nextToken_220 : decode cX8_nextToken 220 = .ok (.goto (-59), 3) := by decide +kernel
theorem dX8_nextToken_223 : decode cX8_nextToken 223 = .ok (.aload_n 0, 1) := by decide +kernel
theorem dX8_nextToken_224 : decode cX8_nextToken 224 = .ok (.getfield 87, 3) := by decide +kernel
theorem dX8_nextToken_227 : decode cX8_nextToken 227 = .ok (.aload_n 0, 1) := by decide +kernel
theorem dX8_nextToken_228 : decode cX8_nextToken 228 = .ok (.getfield 94, 3) := by decide +kernel
theorem dX8_nextToken_231 : decode cX8_nextToken 231 = .ok (.isub, 1) := by decide +kernel
theorem dX8_nextToken_232 : decode cX8_nextToken 232 = .ok (.bipush 7, 2) := by decide +kernel
theorem dX8_nextToken_234 : decode cX8_nextToken 234 = .ok (.if_icmp .le 156, 3) := by decide +kernel
theorem dX8_nextToken_237 : decode cX8_nextToken 237 = .ok (.aload_n 0, 1) := by decide +kernel
theorem dX8_nextToken_238 : decode cX8_nextToken 238 = .ok (.lconst 0, 1) := by decide +kernel
theorem dX8_nextToken_239 : decode cX8_nextToken 239 = .ok (.putfield 111, 3) := by decide +kernel
theorem dX8_nextToken_242 : decode cX8_nextToken 242 = .ok (.goto 148, 3) := by decide +kernel
theorem dX8_nextToken_245 : decode cX8_nextToken 245 = .ok (.aload_n 0, 1) := by decide +kernel
theorem dX8_nextToken_246 : decode cX8_nextToken 246 = .ok (.dup, 1) := by decide +kernel
theorem dX8_nextToken_247 : decode cX8_nextToken 247 = .ok (.getfield 87, 3) := by decide +kernel
theorem dX8_nextToken_250 : decode cX8_nextToken 250 = .ok (.iconst 1, 1) := by decide +kernel
theorem dX8_nextToken_251 : decode cX8_nextToken 251 = .ok (.iadd, 1) := by decide +kernel
theorem dX8_nextToken_252 : decode cX8_nextToken 252 = .ok (.putfield 87, 3) := by decide +kernel
theorem dX8_nextToken_255 : decode cX8_nextToken 255 = .ok (.iload_n 1, 1) := by decide +kernel
theorem dX8_nextToken_256 : decode cX8_nextToken 256 = .ok (.bipush 60, 2) := by decide +kernel
theorem dX8_nextToken_258 : decode cX8_nextToken 258 = .ok (.if_icmp .eq 63, 3) := by decide +kernel
theorem dX8_nextToken_261 : decode cX8_nextToken 261 = .ok (.iload_n 1, 1) := by decide +kernel
theorem dX8_nextToken_262 : decode cX8_nextToken 262 = .ok (.bipush 62, 2) := by decide +kernel
theorem dX8_nextToken_264 : decode cX8_nextToken 264 = .ok (.if_icmp .eq 57, 3) := by decide +kernel
theorem dX8_nextToken_267 : decode cX8_nextToken 267 = .ok (.iload_n 1, 1) := by decide +kernel
theorem dX8_nextToken_268 : decode cX8_nextToken 268 = .ok (.bipush 61, 2) := by decide +kernel
theorem dX8_nextToken_270 : decode cX8_nextToken 270 = .ok (.if_icmp .eq 51, 3) := by decide +kernel
theorem dX8_nextToken_273 : decode cX8_nextToken 273 = .ok (.iload_n 1, 1) := by decide +kernel
theorem dX8_nextToken_274 : decode cX8_nextToken 274 = .ok (.bipush 35, 2) := by decide +kernel
theorem dX8_nextToken_276 : decode cX8_nextToken 276 = .ok (.if_icmp .eq 45, 3) := by decide +kernel
theorem dX8_nextToken_279 : decode cX8_nextToken 279 = .ok (.iload_n 1, 1) := by decide +kernel
theorem dX8_nextToken_280 : decode cX8_nextToken 280 = .ok (.bipush 43, 2) := by decide +kernel
theorem dX8_nextToken_282 : decode cX8_nextToken 282 = .ok (.if_icmp .eq 39, 3) := by decide +kernel
theorem dX8_nextToken_285 : decode cX8_nextToken 285 = .ok (.iload_n 1, 1) := by decide +kernel
theorem dX8_nextToken_286 : decode cX8_nextToken 286 = .ok (.bipush 45, 2) := by decide +kernel
theorem dX8_nextToken_288 : decode cX8_nextToken 288 = .ok (.if_icmp .eq 33, 3) := by decide +kernel
theorem dX8_nextToken_291 : decode cX8_nextToken 291 = .ok (.iload_n 1, 1) := by decide +kernel
theorem dX8_nextToken_292 : decode cX8_nextToken 292 = .ok (.bipush 42, 2) := by decide +kernel
theorem dX8_nextToken_294 : decode cX8_nextToken 294 = .ok (.if_icmp .eq 27, 3) := by decide +kernel
theorem dX8_nextToken_297 : decode cX8_nextToken 297 = .ok (.iload_n 1, 1) := by decide +kernel
theorem dX8_nextToken_298 : decode cX8_nextToken 298 = .ok (.bipush 47, 2) := by decide +kernel
theorem dX8_nextToken_300 : decode cX8_nextToken 300 = .ok (.if_icmp .eq 21, 3) := by decide +kernel
theorem dX8_nextToken_303 : decode cX8_nextToken 303 = .ok (.iload_n 1, 1) := by decide +kernel
theorem dX8_nextToken_304 : decode cX8_nextToken 304 = .ok (.bipush 40, 2) := by decide +kernel
theorem dX8_nextToken_306 : decode cX8_nextToken 306 = .ok (.if_icmp .eq 15, 3) := by decide +kernel
theorem dX8_nextToken_309 : decode cX8_nextToken 309 = .ok (.iload_n 1, 1) := by decide +kernel
theorem dX8_nextToken_310 : decode cX8_nextToken 310 = .ok (.bipush 41, 2) := by decide +kernel
theorem dX8_nextToken_312 : decode cX8_nextToken 312 = .ok (.if_icmp .eq 9, 3) := by decide +kernel
theorem dX8_nextToken_315 : decode cX8_nextToken 315 = .ok (.iload_n 1, 1) := by decide +kernel
theorem dX8_nextToken_316 : decode cX8_nextToken 316 = .ok (.bipush 59, 2) := by decide +kernel
theorem dX8_nextToken_318 : decode cX8_nextToken 318 = .ok (.if_icmp .ne 7, 3) := by decide +kernel
theorem dX8_nextToken_321 : decode cX8_nextToken 321 = .ok (.iconst 1, 1) := by decide +kernel
theorem dX8_nextToken_322 : decode cX8_nextToken 322 = .ok (.goto 4, 3) := by decide +kernel
theorem dX8_nextToken_325 : decode cX8_nextToken 325 = .ok (.iconst 0, 1) := by decide +kernel
theorem dX8_nextToken_326 : decode cX8_nextToken 326 = .ok (.istore_n 2, 1) := by decide +kernel
theorem dX8_nextToken_327 : decode cX8_nextToken 327 = .ok (.aload_n 0, 1) := by decide +kernel
theorem dX8_nextToken_328 : decode cX8_nextToken 328 = .ok (.iload_n 2, 1) := by decide +kernel
theorem dX8_nextToken_329 : decode cX8_nextToken 329 = .ok (.ifCond .eq 7, 3) := by decide +kernel
theorem dX8_nextToken_332 : decode cX8_nextToken 332 = .ok (.iload_n 1, 1) := by decide +kernel
theorem dX8_nextToken_333 : decode cX8_nextToken 333 = .ok (.goto 4, 3) := by decide +kernel
theorem dX8_nextToken_336 : decode cX8_nextToken 336 = .ok (.iconst 3, 1) := by decide +kernel
theorem dX8_nextToken_337 : decode cX8_nextToken 337 = .ok (.putfield 97, 3) := by decide +kernel
theorem dX8_nextToken_340 : decode cX8_nextToken 340 = .ok (.iload_n 1, 1) := by decide +kernel
theorem dX8_nextToken_341 : decode cX8_nextToken 341 = .ok (.bipush 60, 2) := by decide +kernel
theorem dX8_nextToken_343 : decode cX8_nextToken 343 = .ok (.if_icmp .eq 9, 3) := by decide +kernel
theorem dX8_nextToken_346 : decode cX8_nextToken 346 = .ok (.iload_n 1, 1) := by decide +kernel
theorem dX8_nextToken_347 : decode cX8_nextToken 347 = .ok (.bipush 62, 2) := by decide +kernel
theorem dX8_nextToken_349 : decode cX8_nextToken 349 = .ok (.if_icmp .ne 41, 3) := by decide +kernel
theorem dX8_nextToken_352 : decode cX8_nextToken 352 = .ok (.aload_n 0, 1) := by decide +kernel
theorem dX8_nextToken_353 : decode cX8_nextToken 353 = .ok (.aload_n 0, 1) := by decide +kernel
theorem dX8_nextToken_354 : decode cX8_nextToken 354 = .ok (.getfield 87, 3) := by decide +kernel
theorem dX8_nextToken_357 : decode cX8_nextToken 357 = .ok (.invokevirtual 90, 3) := by decide +kernel
theorem dX8_nextToken_360 : decode cX8_nextToken 360 = .ok (.bipush 61, 2) := by decide +kernel
theorem dX8_nextToken_362 : decode cX8_nextToken 362 = .ok (.if_icmp .ne 28, 3) := by decide +kernel
theorem dX8_nextToken_365 : decode cX8_nextToken 365 = .ok (.aload_n 0, 1) := by decide +kernel
theorem dX8_nextToken_366 : decode cX8_nextToken 366 = .ok (.dup, 1) := by decide +kernel
theorem dX8_nextToken_367 : decode cX8_nextToken 367 = .ok (.getfield 87, 3) := by decide +kernel
theorem dX8_nextToken_370 : decode cX8_nextToken 370 = .ok (.iconst 1, 1) := by decide +kernel
theorem dX8_nextToken_371 : decode cX8_nextToken 371 = .ok (.iadd, 1) := by decide +kernel
theorem dX8_nextToken_372 : decode cX8_nextToken 372 = .ok (.putfield 87, 3) := by decide +kernel
theorem dX8_nextToken_375 : decode cX8_nextToken 375 = .ok (.aload_n 0, 1) := by decide +kernel
theorem dX8_nextToken_376 : decode cX8_nextToken 376 = .ok (.iload_n 1, 1) := by decide +kernel
theorem dX8_nextToken_377 : decode cX8_nextToken 377 = .ok (.bipush 60, 2) := by decide +kernel
theorem dX8_nextToken_379 : decode cX8_nextToken 379 = .ok (.if_icmp .ne 7, 3) := by decide +kernel
theorem dX8_nextToken_382 : decode cX8_nextToken 382 = .ok (.iconst 4, 1) := by decide +kernel
theorem dX8_nextToken_383 : decode cX8_nextToken 383 = .ok (.goto 4, 3) := by decide +kernel
theorem dX8_nextToken_386 : decode cX8_nextToken 386 = .ok (.iconst 5, 1) := by decide +kernel
theorem dX8_nextToken_387 : decode cX8_nextToken 387 = .ok (.putfield 97, 3) := by decide +kernel
theorem dX8_nextToken_390 : decode cX8_nextToken 390 = .ok (.return_, 1) := by decide +kernel
theorem dX8_w3_0 : decode cX8_w3 0 = .ok (.iload_n 0, 1) := by decide +kernel
theorem dX8_w3_1 : decode cX8_w3 1 = .ok (.i2l, 1) := by decide +kernel
theorem dX8_w3_2 : decode cX8_w3 2 = .ok (.bipush 8, 2) := by decide +kernel
theorem dX8_w3_4 : decode cX8_w3 4 = .ok (.lshl, 1) := by decide +kernel
theorem dX8_w3_5 : decode cX8_w3 5 = .ok (.iload_n 1, 1) := by decide +kernel
theorem dX8_w3_6 : decode cX8_w3 6 = .ok (.i2l, 1) := by decide +kernel
theorem dX8_w3_7 : decode cX8_w3 7 = .ok (.lor, 1) := by decide +kernel
theorem dX8_w3_8 : decode cX8_w3 8 = .ok (.bipush 8, 2) := by decide +kernel
theorem dX8_w3_10 : decode cX8_w3 10 = .ok (.lshl, 1) := by decide +kernel
theorem dX8_w3_11 : decode cX8_w3 11 = .ok (.iload_n 2, 1) := by decide +kernel
theorem dX8_w3_12 : decode cX8_w3 12 = .ok (.i2l, 1) := by decide +kernel
theorem dX8_w3_13 : decode cX8_w3 13 = .ok (.lor, 1) := by decide +kernel
theorem dX8_w3_14 : decode cX8_w3 14 = .ok (.lreturn, 1) := by decide +kernel
theorem dX8_w5_0 : decode cX8_w5 0 = .ok (.iload_n 0, 1) := by decide +kernel
theorem dX8_w5_1 : decode cX8_w5 1 = .ok (.iload_n 1, 1) := by decide +kernel
theorem dX8_w5_2 : decode cX8_w5 2 = .ok (.iload_n 2, 1) := by decide +kernel
theorem dX8_w5_3 : decode cX8_w5 3 = .ok (.invokestatic 115, 3) := by decide +kernel
theorem dX8_w5_6 : decode cX8_w5 6 = .ok (.bipush 8, 2) := by decide +kernel
theorem dX8_w5_8 : decode cX8_w5 8 = .ok (.lshl, 1) := by decide +kernel
theorem dX8_w5_9 : decode cX8_w5 9 = .ok (.iload_n 3, 1) := by decide +kernel
theorem dX8_w5_10 : decode cX8_w5 10 = .ok (.i2l, 1) := by decide +kernel
theorem dX8_w5_11 : decode cX8_w5 11 = .ok (.lor, 1) := by decide +kernel
theorem dX8_w5_12 : decode cX8_w5 12 = .ok (.bipush 8, 2) := by decide +kernel
theorem dX8_w5_14 : decode cX8_w5 14 = .ok (.lshl, 1) := by decide +kernel
theorem dX8_w5_15 : decode cX8_w5 15 = .ok (.iload 4, 2) := by decide +kernel
theorem dX8_w5_17 : decode cX8_w5 17 = .ok (.i2l, 1) := by decide +kernel
theorem dX8_w5_18 : decode cX8_w5 18 = .ok (.lor, 1) := by decide +kernel
theorem dX8_w5_19 : decode cX8_w5 19 = .ok (.lreturn, 1) := by decide +kernel
theorem dX8_w4_0 : decode cX8_w4 0 = .ok (.iload_n 0, 1) := by decide +kernel
theorem dX8_w4_1 : decode cX8_w4 1 = .ok (.iload_n 1, 1) := by decide +kernel
theorem dX8_w4_2 : decode cX8_w4 2 = .ok (.iload_n 2, 1) := by decide +kernel
theorem dX8_w4_3 : decode cX8_w4 3 = .ok (.invokestatic 115, 3) := by decide +kernel
theorem dX8_w4_6 : decode cX8_w4 6 = .ok (.bipush 8, 2) := by decide +kernel
theorem dX8_w4_8 : decode cX8_w4 8 = .ok (.lshl, 1) := by decide +kernel
theorem dX8_w4_9 : decode cX8_w4 9 = .ok (.iload_n 3, 1) := by decide +kernel
theorem dX8_w4_10 : decode cX8_w4 10 = .ok (.i2l, 1) := by decide +kernel
theorem dX8_w4_11 : decode cX8_w4 11 = .ok (.lor, 1) := by decide +kernel
theorem dX8_w4_12 : decode cX8_w4 12 = .ok (.lreturn, 1) := by decide +kernel
theorem dX8_w6_0 : decode cX8_w6 0 = .ok (.iload_n 0, 1) := by decide +kernel
theorem dX8_w6_1 : decode cX8_w6 1 = .ok (.iload_n 1, 1) := by decide +kernel
theorem dX8_w6_2 : decode cX8_w6 2 = .ok (.iload_n 2, 1) := by decide +kernel
theorem dX8_w6_3 : decode cX8_w6 3 = .ok (.iload_n 3, 1) := by decide +kernel
theorem dX8_w6_4 : decode cX8_w6 4 = .ok (.iload 4, 2) := by decide +kernel
theorem dX8_w6_6 : decode cX8_w6 6 = .ok (.invokestatic 119, 3) := by decide +kernel
theorem dX8_w6_9 : decode cX8_w6 9 = .ok (.bipush 8, 2) := by decide +kernel
theorem dX8_w6_11 : decode cX8_w6 11 = .ok (.lshl, 1) := by decide +kernel
theorem dX8_w6_12 : decode cX8_w6 12 = .ok (.iload 5, 2) := by decide +kernel
theorem dX8_w6_14 : decode cX8_w6 14 = .ok (.i2l, 1) := by decide +kernel
theorem dX8_w6_15 : decode cX8_w6 15 = .ok (.lor, 1) := by decide +kernel
theorem dX8_w6_16 : decode cX8_w6 16 = .ok (.lreturn, 1) := by decide +kernel
theorem dX8_isWord_0 : decode cX8_isWord 0 = .ok (.aload_n 0, 1) := by decide +kernel
theorem dX8_isWord_1 : decode cX8_isWord 1 = .ok (.getfield 97, 3) := by decide +kernel
theorem dX8_isWord_4 : decode cX8_isWord 4 = .ok (.iconst 2, 1) := by decide +kernel
theorem dX8_isWord_5 : decode cX8_isWord 5 = .ok (.if_icmp .ne 16, 3) := by decide +kernel
theorem dX8_isWord_8 : decode cX8_isWord 8 = .ok (.aload_n 0, 1) := by decide +kernel
theorem dX8_isWord_9 : decode cX8_isWord 9 = .ok (.getfield 111, 3) := by decide +kernel
theorem dX8_isWord_12 : decode cX8_isWord 12 = .ok (.lload_n 1, 1) := by decide +kernel
theorem dX8_isWord_13 : decode cX8_isWord 13 = .ok (.lcmp, 1) := by decide +kernel
theorem dX8_isWord_14 : decode cX8_isWord 14 = .ok (.ifCond .ne 7, 3) := by decide +kernel
theorem dX8_isWord_17 : decode cX8_isWord 17 = .ok (.iconst 1, 1) := by decide +kernel
theorem dX8_isWord_18 : decode cX8_isWord 18 = .ok (.goto 4, 3) := by decide +kernel
theorem dX8_isWord_21 : decode cX8_isWord 21 = .ok (.iconst 0, 1) := by decide +kernel
theorem dX8_isWord_22 : decode cX8_isWord 22 = .ok (.ireturn, 1) := by decide +kernel
theorem dX8_emit_0 : decode cX8_emit 0 = .ok (.aload_n 0, 1) := by decide +kernel
theorem dX8_emit_1 : decode cX8_emit 1 = .ok (.getfield 19, 3) := by decide +kernel
theorem dX8_emit_4 : decode cX8_emit 4 = .ok (.aload_n 0, 1) := by decide +kernel
theorem dX8_emit_5 : decode cX8_emit 5 = .ok (.getfield 123, 3) := by decide +kernel
theorem dX8_emit_8 : decode cX8_emit 8 = .ok (.bipush 75, 2) := by decide +kernel
theorem dX8_emit_10 : decode cX8_emit 10 = .ok (.iadd, 1) := by decide +kernel
theorem dX8_emit_11 : decode cX8_emit 11 = .ok (.iconst 2, 1) := by decide +kernel
theorem dX8_emit_12 : decode cX8_emit 12 = .ok (.aload_n 0, 1) := by decide +kernel
theorem dX8_emit_13 : decode cX8_emit 13 = .ok (.getfield 126, 3) := by decide +kernel
theorem dX8_emit_16 : decode cX8_emit 16 = .ok (.imul, 1) := by decide +kernel
theorem dX8_emit_17 : decode cX8_emit 17 = .ok (.iadd, 1) := by decide +kernel
theorem dX8_emit_18 : decode cX8_emit 18 = .ok (.iload_n 1, 1) := by decide +kernel
theorem dX8_emit_19 : decode cX8_emit 19 = .ok (.iastore, 1) := by decide +kernel
theorem dX8_emit_20 : decode cX8_emit 20 = .ok (.aload_n 0, 1) := by decide +kernel
theorem dX8_emit_21 : decode cX8_emit 21 = .ok (.getfield 19, 3) := by decide +kernel
theorem dX8_emit_24 : decode cX8_emit 24 = .ok (.aload_n 0, 1) := by decide +kernel
theorem dX8_emit_25 : decode cX8_emit 25 = .ok (.getfield 123, 3) := by decide +kernel
theorem dX8_emit_28 : decode cX8_emit 28 = .ok (.bipush 75, 2) := by decide +kernel
theorem dX8_emit_30 : decode cX8_emit 30 = .ok (.iadd, 1) := by decide +kernel
theorem dX8_emit_31 : decode cX8_emit 31 = .ok (.iconst 2, 1) := by decide +kernel
theorem dX8_emit_32 : decode cX8_emit 32 = .ok (.aload_n 0, 1) := by decide +kernel
theorem dX8_emit_33 : decode cX8_emit 33 = .ok (.getfield 126, 3) := by decide +kernel
theorem dX8_emit_36 : decode cX8_emit 36 = .ok (.imul, 1) := by decide +kernel
theorem dX8_emit_37 : decode cX8_emit 37 = .ok (.iadd, 1) := by decide +kernel
theorem dX8_emit_38 : decode cX8_emit 38 = .ok (.iconst 1, 1) := by decide +kernel
theorem dX8_emit_39 : decode cX8_emit 39 = .ok (.iadd, 1) := by decide +kernel
theorem dX8_emit_40 : decode cX8_emit 40 = .ok (.iload_n 2, 1) := by decide +kernel
theorem dX8_emit_41 : decode cX8_emit 41 = .ok (.iastore, 1) := by decide +kernel
theorem dX8_emit_42 : decode cX8_emit 42 = .ok (.aload_n 0, 1) := by decide +kernel
theorem dX8_emit_43 : decode cX8_emit 43 = .ok (.dup, 1) := by decide +kernel
theorem dX8_emit_44 : decode cX8_emit 44 = .ok (.getfield 126, 3) := by decide +kernel
theorem dX8_emit_47 : decode cX8_emit 47 = .ok (.iconst 1, 1) := by decide +kernel
theorem dX8_emit_48 : decode cX8_emit 48 = .ok (.iadd, 1) := by decide +kernel
theorem dX8_emit_49 : decode cX8_emit 49 = .ok (.putfield 126, 3) := by decide +kernel
theorem dX8_emit_52 : decode cX8_emit 52 = .ok (.return_, 1) := by decide +kernel
theorem dX8_push_0 : decode cX8_push 0 = .ok (.aload_n 0, 1) := by decide +kernel
theorem dX8_push_1 : decode cX8_push 1 = .ok (.getfield 32, 3) := by decide +kernel
theorem dX8_push_4 : decode cX8_push 4 = .ok (.aload_n 0, 1) := by decide +kernel
theorem dX8_push_5 : decode cX8_push 5 = .ok (.getfield 129, 3) := by decide +kernel
theorem dX8_push_8 : decode cX8_push 8 = .ok (.iload_n 1, 1) := by decide +kernel
theorem dX8_push_9 : decode cX8_push 9 = .ok (.iastore, 1) := by decide +kernel
theorem dX8_push_10 : decode cX8_push 10 = .ok (.aload_n 0, 1) := by decide +kernel
theorem dX8_push_11 : decode cX8_push 11 = .ok (.dup, 1) := by decide +kernel
theorem dX8_push_12 : decode cX8_push 12 = .ok (.getfield 129, 3) := by decide +kernel
theorem dX8_push_15 : decode cX8_push 15 = .ok (.iconst 1, 1) := by decide +kernel
theorem dX8_push_16 : decode cX8_push 16 = .ok (.iadd, 1) := by decide +kernel
theorem dX8_push_17 : decode cX8_push 17 = .ok (.putfield 129, 3) := by decide +kernel
theorem dX8_push_20 : decode cX8_push 20 = .ok (.return_, 1) := by decide +kernel
theorem dX8_whole_0 : decode cX8_whole 0 = .ok (.aload_n 0, 1) := by decide +kernel
theorem dX8_whole_1 : decode cX8_whole 1 = .ok (.iconst 1, 1) := by decide +kernel
theorem dX8_whole_2 : decode cX8_whole 2 = .ok (.putfield 132, 3) := by decide +kernel
theorem dX8_whole_5 : decode cX8_whole 5 = .ok (.aload_n 0, 1) := by decide +kernel
theorem dX8_whole_6 : decode cX8_whole 6 = .ok (.getfield 129, 3) := by decide +kernel
theorem dX8_whole_9 : decode cX8_whole 9 = .ok (.ifCond .le 47, 3) := by decide +kernel
theorem dX8_whole_12 : decode cX8_whole 12 = .ok (.aload_n 0, 1) := by decide +kernel
theorem dX8_whole_13 : decode cX8_whole 13 = .ok (.getfield 32, 3) := by decide +kernel
theorem dX8_whole_16 : decode cX8_whole 16 = .ok (.aload_n 0, 1) := by decide +kernel
theorem dX8_whole_17 : decode cX8_whole 17 = .ok (.getfield 129, 3) := by decide +kernel
theorem dX8_whole_20 : decode cX8_whole 20 = .ok (.iconst 1, 1) := by decide +kernel
theorem dX8_whole_21 : decode cX8_whole 21 = .ok (.isub, 1) := by decide +kernel
theorem dX8_whole_22 : decode cX8_whole 22 = .ok (.iaload, 1) := by decide +kernel
theorem dX8_whole_23 : decode cX8_whole 23 = .ok (.iconst 2, 1) := by decide +kernel
theorem dX8_whole_24 : decode cX8_whole 24 = .ok (.if_icmp .ne 32, 3) := by decide +kernel
theorem dX8_whole_27 : decode cX8_whole 27 = .ok (.aload_n 0, 1) := by decide +kernel
theorem dX8_whole_28 : decode cX8_whole 28 = .ok (.dup, 1) := by decide +kernel
theorem dX8_whole_29 : decode cX8_whole 29 = .ok (.getfield 129, 3) := by decide +kernel
theorem dX8_whole_32 : decode cX8_whole 32 = .ok (.iconst 1, 1) := by decide +kernel
theorem dX8_whole_33 : decode cX8_whole 33 = .ok (.isub, 1) := by decide +kernel
theorem dX8_whole_34 : decode cX8_whole 34 = .ok (.putfield 129, 3) := by decide +kernel
theorem dX8_whole_37 : decode cX8_whole 37 = .ok (.aload_n 0, 1) := by decide +kernel
theorem dX8_whole_38 : decode cX8_whole 38 = .ok (.dup, 1) := by decide +kernel
theorem dX8_whole_39 : decode cX8_whole 39 = .ok (.getfield 136, 3) := by decide +kernel
theorem dX8_whole_42 : decode cX8_whole 42 = .ok (.iconst 1, 1) := by decide +kernel
theorem dX8_whole_43 : decode cX8_whole 43 = .ok (.isub, 1) := by decide +kernel
theorem dX8_whole_44 : decode cX8_whole 44 = .ok (.putfield 136, 3) := by decide +kernel
theorem dX8_whole_47 : decode cX8_whole 47 = .ok (.aload_n 0, 1) := by decide +kernel
theorem dX8_whole_48 : decode cX8_whole 48 = .ok (.iconst 2, 1) := by decide +kernel
theorem dX8_whole_49 : decode cX8_whole 49 = .ok (.iconst 0, 1) := by decide +kernel
theorem dX8_whole_50 : decode cX8_whole 50 = .ok (.invokevirtual 139, 3) := by decide +kernel
theorem dX8_whole_53 : decode cX8_whole 53 = .ok (.goto (-48), 3) := by decide +kernel
theorem dX8_whole_56 : decode cX8_whole 56 = .ok (.return_, 1) := by decide +kernel
theorem dX8_settle_0 : decode cX8_settle 0 = .ok (.aload_n 0, 1) := by decide +kernel
theorem dX8_settle_1 : decode cX8_settle 1 = .ok (.getfield 129, 3) := by decide +kernel
theorem dX8_settle_4 : decode cX8_settle 4 = .ok (.ifCond .le 61, 3) := by decide +kernel
theorem dX8_settle_7 : decode cX8_settle 7 = .ok (.aload_n 0, 1) := by decide +kernel
theorem dX8_settle_8 : decode cX8_settle 8 = .ok (.getfield 32, 3) := by decide +kernel
theorem dX8_settle_11 : decode cX8_settle 11 = .ok (.aload_n 0, 1) := by decide +kernel
theorem dX8_settle_12 : decode cX8_settle 12 = .ok (.getfield 129, 3) := by decide +kernel
theorem dX8_settle_15 : decode cX8_settle 15 = .ok (.iconst 1, 1) := by decide +kernel
theorem dX8_settle_16 : decode cX8_settle 16 = .ok (.isub, 1) := by decide +kernel
theorem dX8_settle_17 : decode cX8_settle 17 = .ok (.iaload, 1) := by decide +kernel
theorem dX8_settle_18 : decode cX8_settle 18 = .ok (.bipush 40, 2) := by decide +kernel
theorem dX8_settle_20 : decode cX8_settle 20 = .ok (.if_icmp .ge 45, 3) := by decide +kernel
theorem dX8_settle_23 : decode cX8_settle 23 = .ok (.aload_n 0, 1) := by decide +kernel
theorem dX8_settle_24 : decode cX8_settle 24 = .ok (.getfield 32, 3) := by decide +kernel
theorem dX8_settle_27 : decode cX8_settle 27 = .ok (.aload_n 0, 1) := by decide +kernel
theorem dX8_settle_28 : decode cX8_settle 28 = .ok (.getfield 129, 3) := by decide +kernel
theorem dX8_settle_31 : decode cX8_settle 31 = .ok (.iconst 1, 1) := by decide +kernel
theorem dX8_settle_32 : decode cX8_settle 32 = .ok (.isub, 1) := by decide +kernel
theorem dX8_settle_33 : decode cX8_settle 33 = .ok (.iaload, 1) := by decide +kernel
theorem dX8_settle_34 : decode cX8_settle 34 = .ok (.iload_n 1, 1) := by decide +kernel
theorem dX8_settle_35 : decode cX8_settle 35 = .ok (.if_icmp .lt 30, 3) := by decide +kernel
theorem dX8_settle_38 : decode cX8_settle 38 = .ok (.aload_n 0, 1) := by decide +kernel
theorem dX8_settle_39 : decode cX8_settle 39 = .ok (.dup, 1) := by decide +kernel
theorem dX8_settle_40 : decode cX8_settle 40 = .ok (.getfield 129, 3) := by decide +kernel
theorem dX8_settle_43 : decode cX8_settle 43 = .ok (.iconst 1, 1) := by decide +kernel
theorem dX8_settle_44 : decode cX8_settle 44 = .ok (.isub, 1) := by decide +kernel
theorem dX8_settle_45 : decode cX8_settle 45 = .ok (.putfield 129, 3) := by decide +kernel
theorem dX8_settle_48 : decode cX8_settle 48 = .ok (.aload_n 0, 1) := by decide +kernel
theorem dX8_settle_49 : decode cX8_settle 49 = .ok (.aload_n 0, 1) := by decide +kernel
theorem dX8_settle_50 : decode cX8_settle 50 = .ok (.getfield 32, 3) := by decide +kernel
theorem dX8_settle_53 : decode cX8_settle 53 = .ok (.aload_n 0, 1) := by decide +kernel
theorem dX8_settle_54 : decode cX8_settle 54 = .ok (.getfield 129, 3) := by decide +kernel
theorem dX8_settle_57 : decode cX8_settle 57 = .ok (.iaload, 1) := by decide +kernel
theorem dX8_settle_58 : decode cX8_settle 58 = .ok (.iconst 0, 1) := by decide +kernel
theorem dX8_settle_59 : decode cX8_settle 59 = .ok (.invokevirtual 139, 3) := by decide +kernel
theorem dX8_settle_62 : decode cX8_settle 62 = .ok (.goto (-62), 3) := by decide +kernel
theorem dX8_settle_65 : decode cX8_settle 65 = .ok (.return_, 1) := by decide +kernel
theorem dX8_nameOf_0 : decode cX8_nameOf 0 = .ok (.aload_n 0, 1) := by decide +kernel
theorem dX8_nameOf_1 : decode cX8_nameOf 1 = .ok (.getfield 97, 3) := by decide +kernel
theorem dX8_nameOf_4 : decode cX8_nameOf 4 = .ok (.iconst 2, 1) := by decide +kernel
theorem dX8_nameOf_5 : decode cX8_nameOf 5 = .ok (.if_icmp .eq 5, 3) := by decide +kernel
theorem dX8_nameOf_8 : decode cX8_nameOf 8 = .ok (.iconst (-1), 1) := by decide +kernel
theorem dX8_nameOf_9 : decode cX8_nameOf 9 = .ok (.ireturn, 1) := by decide +kernel
theorem dX8_nameOf_10 : decode cX8_nameOf 10 = .ok (.aload_n 0, 1) := by decide +kernel
theorem dX8_nameOf_11 : decode cX8_nameOf 11 = .ok (.getfield 111, 3) := by decide +kernel
theorem dX8_nameOf_14 : decode cX8_nameOf 14 = .ok (.bipush 101, 2) := by decide +kernel
theorem dX8_nameOf_16 : decode cX8_nameOf 16 = .ok (.bipush 121, 2) := by decide +kernel
theorem dX8_nameOf_18 : decode cX8_nameOf 18 = .ok (.bipush 101, 2) := by decide +kernel
theorem dX8_nameOf_20 : decode cX8_nameOf 20 = .ok (.invokestatic 115, 3) := by decide +kernel
theorem dX8_nameOf_23 : decode cX8_nameOf 23 = .ok (.lcmp, 1) := by decide +kernel
theorem dX8_nameOf_24 : decode cX8_nameOf 24 = .ok (.ifCond .ne 5, 3) := by decide +kernel
theorem dX8_nameOf_27 : decode cX8_nameOf 27 = .ok (.iconst 0, 1) := by decide +kernel
theorem dX8_nameOf_28 : decode cX8_nameOf 28 = .ok (.ireturn, 1) := by decide +kernel
theorem dX8_nameOf_29 : decode cX8_nameOf 29 = .ok (.aload_n 0, 1) := by decide +kernel
theorem dX8_nameOf_30 : decode cX8_nameOf 30 = .ok (.getfield 111, 3) := by decide +kernel
theorem dX8_nameOf_33 : decode cX8_nameOf 33 = .ok (.bipush 99, 2) := by decide +kernel
theorem dX8_nameOf_35 : decode cX8_nameOf 35 = .ok (.bipush 111, 2) := by decide +kernel
theorem dX8_nameOf_37 : decode cX8_nameOf 37 = .ok (.bipush 108, 2) := by decide +kernel
theorem dX8_nameOf_39 : decode cX8_nameOf 39 = .ok (.bipush 111, 2) := by decide +kernel
theorem dX8_nameOf_41 : decode cX8_nameOf 41 = .ok (.bipush 117, 2) := by decide +kernel
theorem dX8_nameOf_43 : decode cX8_nameOf 43 = .ok (.bipush 114, 2) := by decide +kernel
theorem dX8_nameOf_45 : decode cX8_nameOf 45 = .ok (.invokestatic 143, 3) := by decide +kernel
theorem dX8_nameOf_48 : decode cX8_nameOf 48 = .ok (.lcmp, 1) := by decide +kernel
theorem dX8_nameOf_49 : decode cX8_nameOf 49 = .ok (.ifCond .ne 5, 3) := by decide +kernel
theorem dX8_nameOf_52 : decode cX8_nameOf 52 = .ok (.iconst 1, 1) := by decide +kernel
theorem dX8_nameOf_53 : decode cX8_nameOf 53 = .ok (.ireturn, 1) := by decide +kernel
theorem dX8_nameOf_54 : decode cX8_nameOf 54 = .ok (.aload_n 0, 1) := by decide +kernel
theorem dX8_nameOf_55 : decode cX8_nameOf 55 = .ok (.getfield 111, 3) := by decide +kernel
theorem dX8_nameOf_58 : decode cX8_nameOf 58 = .ok (.bipush 99, 2) := by decide +kernel
theorem dX8_nameOf_60 : decode cX8_nameOf 60 = .ok (.bipush 104, 2) := by decide +kernel
theorem dX8_nameOf_62 : decode cX8_nameOf 62 = .ok (.bipush 105, 2) := by decide +kernel
theorem dX8_nameOf_64 : decode cX8_nameOf 64 = .ok (.invokestatic 115, 3) := by decide +kernel
theorem dX8_nameOf_67 : decode cX8_nameOf 67 = .ok (.bipush 32, 2) := by decide +kernel
theorem dX8_nameOf_69 : decode cX8_nameOf 69 = .ok (.lshl, 1) := by decide +kernel
theorem dX8_nameOf_70 : decode cX8_nameOf 70 = .ok (.bipush 112, 2) := by decide +kernel
theorem dX8_nameOf_72 : decode cX8_nameOf 72 = .ok (.bipush 112, 2) := by decide +kernel
theorem dX8_nameOf_74 : decode cX8_nameOf 74 = .ok (.bipush 101, 2) := by decide +kernel
theorem dX8_nameOf_76 : decode cX8_nameOf 76 = .ok (.bipush 100, 2) := by decide +kernel
theorem dX8_nameOf_78 : decode cX8_nameOf 78 = .ok (.invokestatic 147, 3) := by decide +kernel
theorem dX8_nameOf_81 : decode cX8_nameOf 81 = .ok (.lor, 1) := by decide +kernel
theorem dX8_nameOf_82 : decode cX8_nameOf 82 = .ok (.lcmp, 1) := by decide +kernel
theorem dX8_nameOf_83 : decode cX8_nameOf 83 = .ok (.ifCond .ne 5, 3) := by decide +kernel
theorem dX8_nameOf_86 : decode cX8_nameOf 86 = .ok (.iconst 2, 1) := by decide +kernel
theorem dX8_nameOf_87 : decode cX8_nameOf 87 = .ok (.ireturn, 1) := by decide +kernel
theorem dX8_nameOf_88 : decode cX8_nameOf 88 = .ok (.aload_n 0, 1) := by decide +kernel
theorem dX8_nameOf_89 : decode cX8_nameOf 89 = .ok (.getfield 111, 3) := by decide +kernel
theorem dX8_nameOf_92 : decode cX8_nameOf 92 = .ok (.bipush 104, 2) := by decide +kernel
theorem dX8_nameOf_94 : decode cX8_nameOf 94 = .ok (.bipush 111, 2) := by decide +kernel
theorem dX8_nameOf_96 : decode cX8_nameOf 96 = .ok (.bipush 117, 2) := by decide +kernel
theorem dX8_nameOf_98 : decode cX8_nameOf 98 = .ok (.bipush 114, 2) := by decide +kernel
theorem dX8_nameOf_100 : decode cX8_nameOf 100 = .ok (.invokestatic 147, 3) := by decide +kernel
theorem dX8_nameOf_103 : decode cX8_nameOf 103 = .ok (.lcmp, 1) := by decide +kernel
theorem dX8_nameOf_104 : decode cX8_nameOf 104 = .ok (.ifCond .ne 5, 3) := by decide +kernel
theorem dX8_nameOf_107 : decode cX8_nameOf 107 = .ok (.iconst 3, 1) := by decide +kernel
theorem dX8_nameOf_108 : decode cX8_nameOf 108 = .ok (.ireturn, 1) := by decide +kernel
theorem dX8_nameOf_109 : decode cX8_nameOf 109 = .ok (.aload_n 0, 1) := by decide +kernel
theorem dX8_nameOf_110 : decode cX8_nameOf 110 = .ok (.getfield 111, 3) := by decide +kernel
theorem dX8_nameOf_113 : decode cX8_nameOf 113 = .ok (.bipush 115, 2) := by decide +kernel
theorem dX8_nameOf_115 : decode cX8_nameOf 115 = .ok (.bipush 105, 2) := by decide +kernel
theorem dX8_nameOf_117 : decode cX8_nameOf 117 = .ok (.bipush 110, 2) := by decide +kernel
theorem dX8_nameOf_119 : decode cX8_nameOf 119 = .ok (.bipush 99, 2) := by decide +kernel
theorem dX8_nameOf_121 : decode cX8_nameOf 121 = .ok (.bipush 101, 2) := by decide +kernel
theorem dX8_nameOf_123 : decode cX8_nameOf 123 = .ok (.invokestatic 119, 3) := by decide +kernel
theorem dX8_nameOf_126 : decode cX8_nameOf 126 = .ok (.lcmp, 1) := by decide +kernel
theorem dX8_nameOf_127 : decode cX8_nameOf 127 = .ok (.ifCond .ne 5, 3) := by decide +kernel
theorem dX8_nameOf_130 : decode cX8_nameOf 130 = .ok (.iconst 4, 1) := by decide +kernel
theorem dX8_nameOf_131 : decode cX8_nameOf 131 = .ok (.ireturn, 1) := by decide +kernel
theorem dX8_nameOf_132 : decode cX8_nameOf 132 = .ok (.aload_n 0, 1) := by decide +kernel
theorem dX8_nameOf_133 : decode cX8_nameOf 133 = .ok (.getfield 111, 3) := by decide +kernel
theorem dX8_nameOf_136 : decode cX8_nameOf 136 = .ok (.bipush 109, 2) := by decide +kernel
theorem dX8_nameOf_138 : decode cX8_nameOf 138 = .ok (.bipush 97, 2) := by decide +kernel
theorem dX8_nameOf_140 : decode cX8_nameOf 140 = .ok (.bipush 110, 2) := by decide +kernel
theorem dX8_nameOf_142 : decode cX8_nameOf 142 = .ok (.bipush 121, 2) := by decide +kernel
theorem dX8_nameOf_144 : decode cX8_nameOf 144 = .ok (.invokestatic 147, 3) := by decide +kernel
theorem dX8_nameOf_147 : decode cX8_nameOf 147 = .ok (.lcmp, 1) := by decide +kernel
theorem dX8_nameOf_148 : decode cX8_nameOf 148 = .ok (.ifCond .ne 5, 3) := by decide +kernel
theorem dX8_nameOf_151 : decode cX8_nameOf 151 = .ok (.iconst 5, 1) := by decide +kernel
theorem dX8_nameOf_152 : decode cX8_nameOf 152 = .ok (.ireturn, 1) := by decide +kernel
theorem dX8_nameOf_153 : decode cX8_nameOf 153 = .ok (.aload_n 0, 1) := by decide +kernel
theorem dX8_nameOf_154 : decode cX8_nameOf 154 = .ok (.getfield 111, 3) := by decide +kernel
theorem dX8_nameOf_157 : decode cX8_nameOf 157 = .ok (.bipush 116, 2) := by decide +kernel
theorem dX8_nameOf_159 : decode cX8_nameOf 159 = .ok (.bipush 104, 2) := by decide +kernel
theorem dX8_nameOf_161 : decode cX8_nameOf 161 = .ok (.bipush 105, 2) := by decide +kernel
theorem dX8_nameOf_163 : decode cX8_nameOf 163 = .ok (.bipush 110, 2) := by decide +kernel
theorem dX8_nameOf_165 : decode cX8_nameOf 165 = .ok (.bipush 103, 2) := by decide +kernel
theorem dX8_nameOf_167 : decode cX8_nameOf 167 = .ok (.invokestatic 119, 3) := by decide +kernel
theorem dX8_nameOf_170 : decode cX8_nameOf 170 = .ok (.lcmp, 1) := by decide +kernel
theorem dX8_nameOf_171 : decode cX8_nameOf 171 = .ok (.ifCond .ne 6, 3) := by decide +kernel
theorem dX8_nameOf_174 : decode cX8_nameOf 174 = .ok (.bipush 6, 2) := by decide +kernel
theorem dX8_nameOf_176 : decode cX8_nameOf 176 = .ok (.ireturn, 1) := by decide +kernel
theorem dX8_nameOf_177 : decode cX8_nameOf 177 = .ok (.aload_n 0, 1) := by decide +kernel
theorem dX8_nameOf_178 : decode cX8_nameOf 178 = .ok (.getfield 111, 3) := by decide +kernel
theorem dX8_nameOf_181 : decode cX8_nameOf 181 = .ok (.bipush 107, 2) := by decide +kernel
theorem dX8_nameOf_183 : decode cX8_nameOf 183 = .ok (.bipush 105, 2) := by decide +kernel
theorem dX8_nameOf_185 : decode cX8_nameOf 185 = .ok (.bipush 110, 2) := by decide +kernel
theorem dX8_nameOf_187 : decode cX8_nameOf 187 = .ok (.bipush 100, 2) := by decide +kernel
theorem dX8_nameOf_189 : decode cX8_nameOf 189 = .ok (.invokestatic 147, 3) := by decide +kernel
theorem dX8_nameOf_192 : decode cX8_nameOf 192 = .ok (.lcmp, 1) := by decide +kernel
theorem dX8_nameOf_193 : decode cX8_nameOf 193 = .ok (.ifCond .ne 8, 3) := by decide +kernel
theorem dX8_nameOf_196 : decode cX8_nameOf 196 = .ok (.bipush 7, 2) := by decide +kernel
theorem dX8_nameOf_198 : decode cX8_nameOf 198 = .ok (.goto 26, 3) := by decide +kernel
theorem dX8_nameOf_201 : decode cX8_nameOf 201 = .ok (.aload_n 0, 1) := by decide +kernel
theorem dX8_nameOf_202 : decode cX8_nameOf 202 = .ok (.getfield 111, 3) := by decide +kernel
theorem dX8_nameOf_205 : decode cX8_nameOf 205 = .ok (.bipush 119, 2) := by decide +kernel
theorem dX8_nameOf_207 : decode cX8_nameOf 207 = .ok (.bipush 104, 2) := by decide +kernel
theorem dX8_nameOf_209 : decode cX8_nameOf 209 = .ok (.bipush 111, 2) := by decide +kernel
theorem dX8_nameOf_211 : decode cX8_nameOf 211 = .ok (.invokestatic 115, 3) := by decide +kernel
theorem dX8_nameOf_214 : decode cX8_nameOf 214 = .ok (.lcmp, 1) := by decide +kernel
theorem dX8_nameOf_215 : decode cX8_nameOf 215 = .ok (.ifCond .ne 8, 3) := by decide +kernel
theorem dX8_nameOf_218 : decode cX8_nameOf 218 = .ok (.bipush 8, 2) := by decide +kernel
theorem dX8_nameOf_220 : decode cX8_nameOf 220 = .ok (.goto 4, 3) := by decide +kernel
theorem dX8_nameOf_223 : decode cX8_nameOf 223 = .ok (.iconst (-1), 1) := by decide +kernel
theorem dX8_nameOf_224 : decode cX8_nameOf 224 = .ok (.ireturn, 1) := by decide +kernel
theorem dX8_isBarred_0 : decode cX8_isBarred 0 = .ok (.iload_n 1, 1) := by decide +kernel
theorem dX8_isBarred_1 : decode cX8_isBarred 1 = .ok (.iconst 5, 1) := by decide +kernel
theorem dX8_isBarred_2 : decode cX8_isBarred 2 = .ok (.if_icmp .le 15, 3) := by decide +kernel
theorem dX8_isBarred_5 : decode cX8_isBarred 5 = .ok (.aload_n 0, 1) := by decide +kernel
theorem dX8_isBarred_6 : decode cX8_isBarred 6 = .ok (.getfield 151, 3) := by decide +kernel
theorem dX8_isBarred_9 : decode cX8_isBarred 9 = .ok (.iconst 1, 1) := by decide +kernel
theorem dX8_isBarred_10 : decode cX8_isBarred 10 = .ok (.if_icmp .ne 7, 3) := by decide +kernel
theorem dX8_isBarred_13 : decode cX8_isBarred 13 = .ok (.iconst 1, 1) := by decide +kernel
theorem dX8_isBarred_14 : decode cX8_isBarred 14 = .ok (.goto 4, 3) := by decide +kernel
theorem dX8_isBarred_17 : decode cX8_isBarred 17 = .ok (.iconst 0, 1) := by decide +kernel
theorem dX8_isBarred_18 : decode cX8_isBarred 18 = .ok (.ireturn, 1) := by decide +kernel
theorem dX8_beginOne_0 : decode cX8_beginOne 0 = .ok (.aload_n 0, 1) := by decide +kernel
theorem dX8_beginOne_1 : decode cX8_beginOne 1 = .ok (.getfield 97, 3) := by decide +kernel
theorem dX8_beginOne_4 : decode cX8_beginOne 4 = .ok (.iconst 1, 1) := by decide +kernel
theorem dX8_beginOne_5 : decode cX8_beginOne 5 = .ok (.if_icmp .ne 34, 3) := by decide +kernel
theorem dX8_beginOne_8 : decode cX8_beginOne 8 = .ok (.aload_n 0, 1) := by decide +kernel
theorem dX8_beginOne_9 : decode cX8_beginOne 9 = .ok (.getfield 104, 3) := by decide +kernel
theorem dX8_beginOne_12 : decode cX8_beginOne 12 = .ok (.sipush 9999, 3) := by decide +kernel
theorem dX8_beginOne_15 : decode cX8_beginOne 15 = .ok (.if_icmp .le 5, 3) := by decide +kernel
theorem dX8_beginOne_18 : decode cX8_beginOne 18 = .ok (.iconst 2, 1) := by decide +kernel
theorem dX8_beginOne_19 : decode cX8_beginOne 19 = .ok (.ireturn, 1) := by decide +kernel
theorem dX8_beginOne_20 : decode cX8_beginOne 20 = .ok (.aload_n 0, 1) := by decide +kernel
theorem dX8_beginOne_21 : decode cX8_beginOne 21 = .ok (.iconst 0, 1) := by decide +kernel
theorem dX8_beginOne_22 : decode cX8_beginOne 22 = .ok (.aload_n 0, 1) := by decide +kernel
theorem dX8_beginOne_23 : decode cX8_beginOne 23 = .ok (.getfield 104, 3) := by decide +kernel
theorem dX8_beginOne_26 : decode cX8_beginOne 26 = .ok (.invokevirtual 139, 3) := by decide +kernel
theorem dX8_beginOne_29 : decode cX8_beginOne 29 = .ok (.aload_n 0, 1) := by decide +kernel
theorem dX8_beginOne_30 : decode cX8_beginOne 30 = .ok (.invokevirtual 154, 3) := by decide +kernel
theorem dX8_beginOne_33 : decode cX8_beginOne 33 = .ok (.aload_n 0, 1) := by decide +kernel
theorem dX8_beginOne_34 : decode cX8_beginOne 34 = .ok (.invokevirtual 157, 3) := by decide +kernel
theorem dX8_beginOne_37 : decode cX8_beginOne 37 = .ok (.iconst 0, 1) := by decide +kernel
theorem dX8_beginOne_38 : decode cX8_beginOne 38 = .ok (.ireturn, 1) := by decide +kernel
theorem dX8_beginOne_39 : decode cX8_beginOne 39 = .ok (.aload_n 0, 1) := by decide +kernel
theorem dX8_beginOne_40 : decode cX8_beginOne 40 = .ok (.invokevirtual 160, 3) := by decide +kernel
theorem dX8_beginOne_43 : decode cX8_beginOne 43 = .ok (.ifCond .lt 35, 3) := by decide +kernel
theorem dX8_beginOne_46 : decode cX8_beginOne 46 = .ok (.aload_n 0, 1) := by decide +kernel
theorem dX8_beginOne_47 : decode cX8_beginOne 47 = .ok (.aload_n 0, 1) := by decide +kernel
theorem dX8_beginOne_48 : decode cX8_beginOne 48 = .ok (.invokevirtual 160, 3) := by decide +kernel
theorem dX8_beginOne_51 : decode cX8_beginOne 51 = .ok (.invokevirtual 164, 3) := by decide +kernel
theorem dX8_beginOne_54 : decode cX8_beginOne 54 = .ok (.ifCond .eq 5, 3) := by decide +kernel
theorem dX8_beginOne_57 : decode cX8_beginOne 57 = .ok (.iconst 5, 1) := by decide +kernel
theorem dX8_beginOne_58 : decode cX8_beginOne 58 = .ok (.ireturn, 1) := by decide +kernel
theorem dX8_beginOne_59 : decode cX8_beginOne 59 = .ok (.aload_n 0, 1) := by decide +kernel
theorem dX8_beginOne_60 : decode cX8_beginOne 60 = .ok (.iconst 1, 1) := by decide +kernel
theorem dX8_beginOne_61 : decode cX8_beginOne 61 = .ok (.aload_n 0, 1) := by decide +kernel
theorem dX8_beginOne_62 : decode cX8_beginOne 62 = .ok (.invokevirtual 160, 3) := by decide +kernel
theorem dX8_beginOne_65 : decode cX8_beginOne 65 = .ok (.invokevirtual 139, 3) := by decide +kernel
theorem dX8_beginOne_68 : decode cX8_beginOne 68 = .ok (.aload_n 0, 1) := by decide +kernel
theorem dX8_beginOne_69 : decode cX8_beginOne 69 = .ok (.invokevirtual 154, 3) := by decide +kernel
theorem dX8_beginOne_72 : decode cX8_beginOne 72 = .ok (.aload_n 0, 1) := by decide +kernel
theorem dX8_beginOne_73 : decode cX8_beginOne 73 = .ok (.invokevirtual 157, 3) := by decide +kernel
theorem dX8_beginOne_76 : decode cX8_beginOne 76 = .ok (.iconst 0, 1) := by decide +kernel
theorem dX8_beginOne_77 : decode cX8_beginOne 77 = .ok (.ireturn, 1) := by decide +kernel
theorem dX8_beginOne_78 : decode cX8_beginOne 78 = .ok (.aload_n 0, 1) := by decide +kernel
theorem dX8_beginOne_79 : decode cX8_beginOne 79 = .ok (.getfield 97, 3) := by decide +kernel
theorem dX8_beginOne_82 : decode cX8_beginOne 82 = .ok (.bipush 40, 2) := by decide +kernel
theorem dX8_beginOne_84 : decode cX8_beginOne 84 = .ok (.if_icmp .ne 8, 3) := by decide +kernel
theorem dX8_beginOne_87 : decode cX8_beginOne 87 = .ok (.bipush 40, 2) := by decide +kernel
theorem dX8_beginOne_89 : decode cX8_beginOne 89 = .ok (.goto 17, 3) := by decide +kernel
theorem dX8_beginOne_92 : decode cX8_beginOne 92 = .ok (.aload_n 0, 1) := by decide +kernel
theorem dX8_beginOne_93 : decode cX8_beginOne 93 = .ok (.getfield 97, 3) := by decide +kernel
theorem dX8_beginOne_96 : decode cX8_beginOne 96 = .ok (.bipush 45, 2) := by decide +kernel
theorem dX8_beginOne_98 : decode cX8_beginOne 98 = .ok (.if_icmp .ne 7, 3) := by decide +kernel
theorem dX8_beginOne_101 : decode cX8_beginOne 101 = .ok (.iconst 2, 1) := by decide +kernel
theorem dX8_beginOne_102 : decode cX8_beginOne 102 = .ok (.goto 4, 3) := by decide +kernel
theorem dX8_beginOne_105 : decode cX8_beginOne 105 = .ok (.iconst 0, 1) := by decide +kernel
theorem dX8_beginOne_106 : decode cX8_beginOne 106 = .ok (.istore_n 1, 1) := by decide +kernel
theorem dX8_beginOne_107 : decode cX8_beginOne 107 = .ok (.iload_n 1, 1) := by decide +kernel
theorem dX8_beginOne_108 : decode cX8_beginOne 108 = .ok (.ifCond .ne 5, 3) := by decide +kernel
theorem dX8_beginOne_111 : decode cX8_beginOne 111 = .ok (.iconst 1, 1) := by decide +kernel
theorem dX8_beginOne_112 : decode cX8_beginOne 112 = .ok (.ireturn, 1) := by decide +kernel
theorem dX8_beginOne_113 : decode cX8_beginOne 113 = .ok (.aload_n 0, 1) := by decide +kernel
theorem dX8_beginOne_114 : decode cX8_beginOne 114 = .ok (.getfield 136, 3) := by decide +kernel
theorem dX8_beginOne_117 : decode cX8_beginOne 117 = .ok (.bipush 8, 2) := by decide +kernel
theorem dX8_beginOne_119 : decode cX8_beginOne 119 = .ok (.if_icmp .ne 5, 3) := by decide +kernel
theorem dX8_beginOne_122 : decode cX8_beginOne 122 = .ok (.iconst 3, 1) := by decide +kernel
theorem dX8_beginOne_123 : decode cX8_beginOne 123 = .ok (.ireturn, 1) := by decide +kernel
theorem dX8_beginOne_124 : decode cX8_beginOne 124 = .ok (.aload_n 0, 1) := by decide +kernel
theorem dX8_beginOne_125 : decode cX8_beginOne 125 = .ok (.dup, 1) := by decide +kernel
theorem dX8_beginOne_126 : decode cX8_beginOne 126 = .ok (.getfield 136, 3) := by decide +kernel
theorem dX8_beginOne_129 : decode cX8_beginOne 129 = .ok (.iconst 1, 1) := by decide +kernel
theorem dX8_beginOne_130 : decode cX8_beginOne 130 = .ok (.iadd, 1) := by decide +kernel
theorem dX8_beginOne_131 : decode cX8_beginOne 131 = .ok (.putfield 136, 3) := by decide +kernel
theorem dX8_beginOne_134 : decode cX8_beginOne 134 = .ok (.aload_n 0, 1) := by decide +kernel
theorem dX8_beginOne_135 : decode cX8_beginOne 135 = .ok (.iload_n 1, 1) := by decide +kernel
theorem dX8_beginOne_136 : decode cX8_beginOne 136 = .ok (.invokevirtual 167, 3) := by decide +kernel
theorem dX8_beginOne_139 : decode cX8_beginOne 139 = .ok (.aload_n 0, 1) := by decide +kernel
theorem dX8_beginOne_140 : decode cX8_beginOne 140 = .ok (.invokevirtual 154, 3) := by decide +kernel
theorem dX8_beginOne_143 : decode cX8_beginOne 143 = .ok (.iconst 0, 1) := by decide +kernel
theorem dX8_beginOne_144 : decode cX8_beginOne 144 = .ok (.ireturn, 1) := by decide +kernel
theorem dX8_hasParen_0 : decode cX8_hasParen 0 = .ok (.iconst 0, 1) := by decide +kernel
theorem dX8_hasParen_1 : decode cX8_hasParen 1 = .ok (.istore_n 1, 1) := by decide +kernel
theorem dX8_hasParen_2 : decode cX8_hasParen 2 = .ok (.iload_n 1, 1) := by decide +kernel
theorem dX8_hasParen_3 : decode cX8_hasParen 3 = .ok (.aload_n 0, 1) := by decide +kernel
theorem dX8_hasParen_4 : decode cX8_hasParen 4 = .ok (.getfield 129, 3) := by decide +kernel
theorem dX8_hasParen_7 : decode cX8_hasParen 7 = .ok (.if_icmp .ge 22, 3) := by decide +kernel
theorem dX8_hasParen_10 : decode cX8_hasParen 10 = .ok (.aload_n 0, 1) := by decide +kernel
theorem dX8_hasParen_11 : decode cX8_hasParen 11 = .ok (.getfield 32, 3) := by decide +kernel
theorem dX8_hasParen_14 : decode cX8_hasParen 14 = .ok (.iload_n 1, 1) := by decide +kernel
theorem dX8_hasParen_15 : decode cX8_hasParen 15 = .ok (.iaload, 1) := by decide +kernel
theorem dX8_hasParen_16 : decode cX8_hasParen 16 = .ok (.bipush 40, 2) := by decide +kernel
theorem dX8_hasParen_18 : decode cX8_hasParen 18 = .ok (.if_icmp .ne 5, 3) := by decide +kernel
theorem dX8_hasParen_21 : decode cX8_hasParen 21 = .ok (.iconst 1, 1) := by decide +kernel
theorem dX8_hasParen_22 : decode cX8_hasParen 22 = .ok (.ireturn, 1) := by decide +kernel
theorem dX8_hasParen_23 : decode cX8_hasParen 23 = .ok (.iinc 1 1, 3) := by decide +kernel
theorem dX8_hasParen_26 : decode cX8_hasParen 26 = .ok (.goto (-24), 3) := by decide +kernel
theorem dX8_hasParen_29 : decode cX8_hasParen 29 = .ok (.iconst 0, 1) := by decide +kernel
theorem dX8_hasParen_30 : decode cX8_hasParen 30 = .ok (.ireturn, 1) := by decide +kernel
theorem dX8_goesOn_0 : decode cX8_goesOn 0 = .ok (.aload_n 0, 1) := by decide +kernel
theorem dX8_goesOn_1 : decode cX8_goesOn 1 = .ok (.getfield 97, 3) := by decide +kernel
theorem dX8_goesOn_4 : decode cX8_goesOn 4 = .ok (.bipush 43, 2) := by decide +kernel
theorem dX8_goesOn_6 : decode cX8_goesOn 6 = .ok (.if_icmp .eq 46, 3) := by decide +kernel
theorem dX8_goesOn_9 : decode cX8_goesOn 9 = .ok (.aload_n 0, 1) := by decide +kernel
theorem dX8_goesOn_10 : decode cX8_goesOn 10 = .ok (.getfield 97, 3) := by decide +kernel
theorem dX8_goesOn_13 : decode cX8_goesOn 13 = .ok (.bipush 45, 2) := by decide +kernel
theorem dX8_goesOn_15 : decode cX8_goesOn 15 = .ok (.if_icmp .eq 37, 3) := by decide +kernel
theorem dX8_goesOn_18 : decode cX8_goesOn 18 = .ok (.aload_n 0, 1) := by decide +kernel
theorem dX8_goesOn_19 : decode cX8_goesOn 19 = .ok (.getfield 97, 3) := by decide +kernel
theorem dX8_goesOn_22 : decode cX8_goesOn 22 = .ok (.bipush 42, 2) := by decide +kernel
theorem dX8_goesOn_24 : decode cX8_goesOn 24 = .ok (.if_icmp .eq 28, 3) := by decide +kernel
theorem dX8_goesOn_27 : decode cX8_goesOn 27 = .ok (.aload_n 0, 1) := by decide +kernel
theorem dX8_goesOn_28 : decode cX8_goesOn 28 = .ok (.getfield 97, 3) := by decide +kernel
theorem dX8_goesOn_31 : decode cX8_goesOn 31 = .ok (.bipush 47, 2) := by decide +kernel
theorem dX8_goesOn_33 : decode cX8_goesOn 33 = .ok (.if_icmp .eq 19, 3) := by decide +kernel
theorem dX8_goesOn_36 : decode cX8_goesOn 36 = .ok (.aload_n 0, 1) := by decide +kernel
theorem dX8_goesOn_37 : decode cX8_goesOn 37 = .ok (.getfield 97, 3) := by decide +kernel
theorem dX8_goesOn_40 : decode cX8_goesOn 40 = .ok (.bipush 41, 2) := by decide +kernel
theorem dX8_goesOn_42 : decode cX8_goesOn 42 = .ok (.if_icmp .ne 14, 3) := by decide +kernel
theorem dX8_goesOn_45 : decode cX8_goesOn 45 = .ok (.aload_n 0, 1) := by decide +kernel
theorem dX8_goesOn_46 : decode cX8_goesOn 46 = .ok (.invokevirtual 170, 3) := by decide +kernel
theorem dX8_goesOn_49 : decode cX8_goesOn 49 = .ok (.ifCond .eq 7, 3) := by decide +kernel
theorem dX8_goesOn_52 : decode cX8_goesOn 52 = .ok (.iconst 1, 1) := by decide +kernel
theorem dX8_goesOn_53 : decode cX8_goesOn 53 = .ok (.goto 4, 3) := by decide +kernel
theorem dX8_goesOn_56 : decode cX8_goesOn 56 = .ok (.iconst 0, 1) := by decide +kernel
theorem dX8_goesOn_57 : decode cX8_goesOn 57 = .ok (.ireturn, 1) := by decide +kernel
theorem dX8_behindOne_0 : decode cX8_behindOne 0 = .ok (.aload_n 0, 1) := by decide +kernel
theorem dX8_behindOne_1 : decode cX8_behindOne 1 = .ok (.getfield 97, 3) := by decide +kernel
theorem dX8_behindOne_4 : decode cX8_behindOne 4 = .ok (.istore_n 1, 1) := by decide +kernel
theorem dX8_behindOne_5 : decode cX8_behindOne 5 = .ok (.iload_n 1, 1) := by decide +kernel
theorem dX8_behindOne_6 : decode cX8_behindOne 6 = .ok (.bipush 43, 2) := by decide +kernel
theorem dX8_behindOne_8 : decode cX8_behindOne 8 = .ok (.if_icmp .eq 9, 3) := by decide +kernel
theorem dX8_behindOne_11 : decode cX8_behindOne 11 = .ok (.iload_n 1, 1) := by decide +kernel
theorem dX8_behindOne_12 : decode cX8_behindOne 12 = .ok (.bipush 45, 2) := by decide +kernel
theorem dX8_behindOne_14 : decode cX8_behindOne 14 = .ok (.if_icmp .ne 31, 3) := by decide +kernel
theorem dX8_behindOne_17 : decode cX8_behindOne 17 = .ok (.aload_n 0, 1) := by decide +kernel
theorem dX8_behindOne_18 : decode cX8_behindOne 18 = .ok (.iconst 3, 1) := by decide +kernel
theorem dX8_behindOne_19 : decode cX8_behindOne 19 = .ok (.invokevirtual 174, 3) := by decide +kernel
theorem dX8_behindOne_22 : decode cX8_behindOne 22 = .ok (.aload_n 0, 1) := by decide +kernel
theorem dX8_behindOne_23 : decode cX8_behindOne 23 = .ok (.iload_n 1, 1) := by decide +kernel
theorem dX8_behindOne_24 : decode cX8_behindOne 24 = .ok (.bipush 43, 2) := by decide +kernel
theorem dX8_behindOne_26 : decode cX8_behindOne 26 = .ok (.if_icmp .ne 7, 3) := by decide +kernel
theorem dX8_behindOne_29 : decode cX8_behindOne 29 = .ok (.iconst 3, 1) := by decide +kernel
theorem dX8_behindOne_30 : decode cX8_behindOne 30 = .ok (.goto 4, 3) := by decide +kernel
theorem dX8_behindOne_33 : decode cX8_behindOne 33 = .ok (.iconst 4, 1) := by decide +kernel
theorem dX8_behindOne_34 : decode cX8_behindOne 34 = .ok (.invokevirtual 167, 3) := by decide +kernel
theorem dX8_behindOne_37 : decode cX8_behindOne 37 = .ok (.aload_n 0, 1) := by decide +kernel
theorem dX8_behindOne_38 : decode cX8_behindOne 38 = .ok (.iconst 0, 1) := by decide +kernel
theorem dX8_behindOne_39 : decode cX8_behindOne 39 = .ok (.putfield 132, 3) := by decide +kernel
theorem dX8_behindOne_42 : decode cX8_behindOne 42 = .ok (.goto 73, 3) := by decide +kernel
theorem dX8_behindOne_45 : decode cX8_behindOne 45 = .ok (.iload_n 1, 1) := by decide +kernel
theorem dX8_behindOne_46 : decode cX8_behindOne 46 = .ok (.bipush 42, 2) := by decide +kernel
theorem dX8_behindOne_48 : decode cX8_behindOne 48 = .ok (.if_icmp .eq 9, 3) := by decide +kernel
theorem dX8_behindOne_51 : decode cX8_behindOne 51 = .ok (.iload_n 1, 1) := by decide +kernel
theorem dX8_behindOne_52 : decode cX8_behindOne 52 = .ok (.bipush 47, 2) := by decide +kernel
theorem dX8_behindOne_54 : decode cX8_behindOne 54 = .ok (.if_icmp .ne 32, 3) := by decide +kernel
theorem dX8_behindOne_57 : decode cX8_behindOne 57 = .ok (.aload_n 0, 1) := by decide +kernel
theorem dX8_behindOne_58 : decode cX8_behindOne 58 = .ok (.iconst 5, 1) := by decide +kernel
theorem dX8_behindOne_59 : decode cX8_behindOne 59 = .ok (.invokevirtual 174, 3) := by decide +kernel
theorem dX8_behindOne_62 : decode cX8_behindOne 62 = .ok (.aload_n 0, 1) := by decide +kernel
theorem dX8_behindOne_63 : decode cX8_behindOne 63 = .ok (.iload_n 1, 1) := by decide +kernel
theorem dX8_behindOne_64 : decode cX8_behindOne 64 = .ok (.bipush 42, 2) := by decide +kernel
theorem dX8_behindOne_66 : decode cX8_behindOne 66 = .ok (.if_icmp .ne 7, 3) := by decide +kernel
theorem dX8_behindOne_69 : decode cX8_behindOne 69 = .ok (.iconst 5, 1) := by decide +kernel
theorem dX8_behindOne_70 : decode cX8_behindOne 70 = .ok (.goto 5, 3) := by decide +kernel
theorem dX8_behindOne_73 : decode cX8_behindOne 73 = .ok (.bipush 6, 2) := by decide +kernel
theorem dX8_behindOne_75 : decode cX8_behindOne 75 = .ok (.invokevirtual 167, 3) := by decide +kernel
theorem dX8_behindOne_78 : decode cX8_behindOne 78 = .ok (.aload_n 0, 1) := by decide +kernel
theorem dX8_behindOne_79 : decode cX8_behindOne 79 = .ok (.iconst 0, 1) := by decide +kernel
theorem dX8_behindOne_80 : decode cX8_behindOne 80 = .ok (.putfield 132, 3) := by decide +kernel
theorem dX8_behindOne_83 : decode cX8_behindOne 83 = .ok (.goto 32, 3) := by decide +kernel
theorem dX8_behindOne_86 : decode cX8_behindOne 86 = .ok (.aload_n 0, 1) := by decide +kernel
theorem dX8_behindOne_87 : decode cX8_behindOne 87 = .ok (.iconst 3, 1) := by decide +kernel
theorem dX8_behindOne_88 : decode cX8_behindOne 88 = .ok (.invokevirtual 174, 3) := by decide +kernel
theorem dX8_behindOne_91 : decode cX8_behindOne 91 = .ok (.aload_n 0, 1) := by decide +kernel
theorem dX8_behindOne_92 : decode cX8_behindOne 92 = .ok (.dup, 1) := by decide +kernel
theorem dX8_behindOne_93 : decode cX8_behindOne 93 = .ok (.getfield 129, 3) := by decide +kernel
theorem dX8_behindOne_96 : decode cX8_behindOne 96 = .ok (.iconst 1, 1) := by decide +kernel
theorem dX8_behindOne_97 : decode cX8_behindOne 97 = .ok (.isub, 1) := by decide +kernel
theorem dX8_behindOne_98 : decode cX8_behindOne 98 = .ok (.putfield 129, 3) := by decide +kernel
theorem dX8_behindOne_101 : decode cX8_behindOne 101 = .ok (.aload_n 0, 1) := by decide +kernel
theorem dX8_behindOne_102 : decode cX8_behindOne 102 = .ok (.dup, 1) := by decide +kernel
theorem dX8_behindOne_103 : decode cX8_behindOne 103 = .ok (.getfield 136, 3) := by decide +kernel
theorem dX8_behindOne_106 : decode cX8_behindOne 106 = .ok (.iconst 1, 1) := by decide +kernel
theorem dX8_behindOne_107 : decode cX8_behindOne 107 = .ok (.isub, 1) := by decide +kernel
theorem dX8_behindOne_108 : decode cX8_behindOne 108 = .ok (.putfield 136, 3) := by decide +kernel
theorem dX8_behindOne_111 : decode cX8_behindOne 111 = .ok (.aload_n 0, 1) := by decide +kernel
theorem dX8_behindOne_112 : decode cX8_behindOne 112 = .ok (.invokevirtual 157, 3) := by decide +kernel
theorem dX8_behindOne_115 : decode cX8_behindOne 115 = .ok (.aload_n 0, 1) := by decide +kernel
theorem dX8_behindOne_116 : decode cX8_behindOne 116 = .ok (.invokevirtual 154, 3) := by decide +kernel
theorem dX8_behindOne_119 : decode cX8_behindOne 119 = .ok (.iconst 0, 1) := by decide +kernel
theorem dX8_behindOne_120 : decode cX8_behindOne 120 = .ok (.ireturn, 1) := by decide +kernel
theorem dX8_summed_0 : decode cX8_summed 0 = .ok (.aload_n 0, 1) := by decide +kernel
theorem dX8_summed_1 : decode cX8_summed 1 = .ok (.iconst 0, 1) := by decide +kernel
theorem dX8_summed_2 : decode cX8_summed 2 = .ok (.putfield 129, 3) := by decide +kernel
theorem dX8_summed_5 : decode cX8_summed 5 = .ok (.aload_n 0, 1) := by decide +kernel
theorem dX8_summed_6 : decode cX8_summed 6 = .ok (.iconst 0, 1) := by decide +kernel
theorem dX8_summed_7 : decode cX8_summed 7 = .ok (.putfield 132, 3) := by decide +kernel
theorem dX8_summed_10 : decode cX8_summed 10 = .ok (.aload_n 0, 1) := by decide +kernel
theorem dX8_summed_11 : decode cX8_summed 11 = .ok (.getfield 132, 3) := by decide +kernel
theorem dX8_summed_14 : decode cX8_summed 14 = .ok (.ifCond .eq 10, 3) := by decide +kernel
theorem dX8_summed_17 : decode cX8_summed 17 = .ok (.aload_n 0, 1) := by decide +kernel
theorem dX8_summed_18 : decode cX8_summed 18 = .ok (.invokevirtual 177, 3) := by decide +kernel
theorem dX8_summed_21 : decode cX8_summed 21 = .ok (.ifCond .eq 31, 3) := by decide +kernel
theorem dX8_summed_24 : decode cX8_summed 24 = .ok (.aload_n 0, 1) := by decide +kernel
theorem dX8_summed_25 : decode cX8_summed 25 = .ok (.getfield 132, 3) := by decide +kernel
theorem dX8_summed_28 : decode cX8_summed 28 = .ok (.ifCond .eq 10, 3) := by decide +kernel
theorem dX8_summed_31 : decode cX8_summed 31 = .ok (.aload_n 0, 1) := by decide +kernel
theorem dX8_summed_32 : decode cX8_summed 32 = .ok (.invokevirtual 180, 3) := by decide +kernel
theorem dX8_summed_35 : decode cX8_summed 35 = .ok (.goto 7, 3) := by decide +kernel
theorem dX8_summed_38 : decode cX8_summed 38 = .ok (.aload_n 0, 1) := by decide +kernel
theorem dX8_summed_39 : decode cX8_summed 39 = .ok (.invokevirtual 183, 3) := by decide +kernel
theorem dX8_summed_42 : decode cX8_summed 42 = .ok (.istore_n 1, 1) := by decide +kernel
theorem dX8_summed_43 : decode cX8_summed 43 = .ok (.iload_n 1, 1) := by decide +kernel
theorem dX8_summed_44 : decode cX8_summed 44 = .ok (.ifCond .eq 5, 3) := by decide +kernel
theorem dX8_summed_47 : decode cX8_summed 47 = .ok (.iload_n 1, 1) := by decide +kernel
theorem dX8_summed_48 : decode cX8_summed 48 = .ok (.ireturn, 1) := by decide +kernel
theorem dX8_summed_49 : decode cX8_summed 49 = .ok (.goto (-39), 3) := by decide +kernel
theorem dX8_summed_52 : decode cX8_summed 52 = .ok (.aload_n 0, 1) := by decide +kernel
theorem dX8_summed_53 : decode cX8_summed 53 = .ok (.iconst 3, 1) := by decide +kernel
theorem dX8_summed_54 : decode cX8_summed 54 = .ok (.invokevirtual 174, 3) := by decide +kernel
theorem dX8_summed_57 : decode cX8_summed 57 = .ok (.aload_n 0, 1) := by decide +kernel
theorem dX8_summed_58 : decode cX8_summed 58 = .ok (.getfield 129, 3) := by decide +kernel
theorem dX8_summed_61 : decode cX8_summed 61 = .ok (.ifCond .le 7, 3) := by decide +kernel
theorem dX8_summed_64 : decode cX8_summed 64 = .ok (.iconst 1, 1) := by decide +kernel
theorem dX8_summed_65 : decode cX8_summed 65 = .ok (.goto 4, 3) := by decide +kernel
theorem dX8_summed_68 : decode cX8_summed 68 = .ok (.iconst 0, 1) := by decide +kernel
theorem dX8_summed_69 : decode cX8_summed 69 = .ok (.ireturn, 1) := by decide +kernel
theorem dX8_compareOf_0 : decode cX8_compareOf 0 = .ok (.aload_n 0, 1) := by decide +kernel
theorem dX8_compareOf_1 : decode cX8_compareOf 1 = .ok (.getfield 97, 3) := by decide +kernel
theorem dX8_compareOf_4 : decode cX8_compareOf 4 = .ok (.bipush 60, 2) := by decide +kernel
theorem dX8_compareOf_6 : decode cX8_compareOf 6 = .ok (.if_icmp .ne 8, 3) := by decide +kernel
theorem dX8_compareOf_9 : decode cX8_compareOf 9 = .ok (.bipush 10, 2) := by decide +kernel
theorem dX8_compareOf_11 : decode cX8_compareOf 11 = .ok (.goto 72, 3) := by decide +kernel
theorem dX8_compareOf_14 : decode cX8_compareOf 14 = .ok (.aload_n 0, 1) := by decide +kernel
theorem dX8_compareOf_15 : decode cX8_compareOf 15 = .ok (.getfield 97, 3) := by decide +kernel
theorem dX8_compareOf_18 : decode cX8_compareOf 18 = .ok (.iconst 4, 1) := by decide +kernel
theorem dX8_compareOf_19 : decode cX8_compareOf 19 = .ok (.if_icmp .ne 8, 3) := by decide +kernel
theorem dX8_compareOf_22 : decode cX8_compareOf 22 = .ok (.bipush 11, 2) := by decide +kernel
theorem dX8_compareOf_24 : decode cX8_compareOf 24 = .ok (.goto 59, 3) := by decide +kernel
theorem dX8_compareOf_27 : decode cX8_compareOf 27 = .ok (.aload_n 0, 1) := by decide +kernel
theorem dX8_compareOf_28 : decode cX8_compareOf 28 = .ok (.getfield 97, 3) := by decide +kernel
theorem dX8_compareOf_31 : decode cX8_compareOf 31 = .ok (.bipush 62, 2) := by decide +kernel
theorem dX8_compareOf_33 : decode cX8_compareOf 33 = .ok (.if_icmp .ne 8, 3) := by decide +kernel
theorem dX8_compareOf_36 : decode cX8_compareOf 36 = .ok (.bipush 12, 2) := by decide +kernel
theorem dX8_compareOf_38 : decode cX8_compareOf 38 = .ok (.goto 45, 3) := by decide +kernel
theorem dX8_compareOf_41 : decode cX8_compareOf 41 = .ok (.aload_n 0, 1) := by decide +kernel
theorem dX8_compareOf_42 : decode cX8_compareOf 42 = .ok (.getfield 97, 3) := by decide +kernel
theorem dX8_compareOf_45 : decode cX8_compareOf 45 = .ok (.iconst 5, 1) := by decide +kernel
theorem dX8_compareOf_46 : decode cX8_compareOf 46 = .ok (.if_icmp .ne 8, 3) := by decide +kernel
theorem dX8_compareOf_49 : decode cX8_compareOf 49 = .ok (.bipush 13, 2) := by decide +kernel
theorem dX8_compareOf_51 : decode cX8_compareOf 51 = .ok (.goto 32, 3) := by decide +kernel
theorem dX8_compareOf_54 : decode cX8_compareOf 54 = .ok (.aload_n 0, 1) := by decide +kernel
theorem dX8_compareOf_55 : decode cX8_compareOf 55 = .ok (.getfield 97, 3) := by decide +kernel
theorem dX8_compareOf_58 : decode cX8_compareOf 58 = .ok (.bipush 61, 2) := by decide +kernel
theorem dX8_compareOf_60 : decode cX8_compareOf 60 = .ok (.if_icmp .ne 8, 3) := by decide +kernel
theorem dX8_compareOf_63 : decode cX8_compareOf 63 = .ok (.bipush 14, 2) := by decide +kernel
theorem dX8_compareOf_65 : decode cX8_compareOf 65 = .ok (.goto 18, 3) := by decide +kernel
theorem dX8_compareOf_68 : decode cX8_compareOf 68 = .ok (.aload_n 0, 1) := by decide +kernel
theorem dX8_compareOf_69 : decode cX8_compareOf 69 = .ok (.getfield 97, 3) := by decide +kernel
theorem dX8_compareOf_72 : decode cX8_compareOf 72 = .ok (.bipush 35, 2) := by decide +kernel
theorem dX8_compareOf_74 : decode cX8_compareOf 74 = .ok (.if_icmp .ne 8, 3) := by decide +kernel
theorem dX8_compareOf_77 : decode cX8_compareOf 77 = .ok (.bipush 15, 2) := by decide +kernel
theorem dX8_compareOf_79 : decode cX8_compareOf 79 = .ok (.goto 4, 3) := by decide +kernel
theorem dX8_compareOf_82 : decode cX8_compareOf 82 = .ok (.iconst (-1), 1) := by decide +kernel
theorem dX8_compareOf_83 : decode cX8_compareOf 83 = .ok (.ireturn, 1) := by decide +kernel
theorem dX8_asks_0 : decode cX8_asks 0 = .ok (.iconst 0, 1) := by decide +kernel
theorem dX8_asks_1 : decode cX8_asks 1 = .ok (.istore_n 1, 1) := by decide +kernel
theorem dX8_asks_2 : decode cX8_asks 2 = .ok (.aload_n 0, 1) := by decide +kernel
theorem dX8_asks_3 : decode cX8_asks 3 = .ok (.bipush 110, 2) := by decide +kernel
theorem dX8_asks_5 : decode cX8_asks 5 = .ok (.bipush 111, 2) := by decide +kernel
theorem dX8_asks_7 : decode cX8_asks 7 = .ok (.bipush 116, 2) := by decide +kernel
theorem dX8_asks_9 : decode cX8_asks 9 = .ok (.invokestatic 115, 3) := by decide +kernel
theorem dX8_asks_12 : decode cX8_asks 12 = .ok (.invokevirtual 186, 3) := by decide +kernel
theorem dX8_asks_15 : decode cX8_asks 15 = .ok (.ifCond .eq 34, 3) := by decide +kernel
theorem dX8_asks_18 : decode cX8_asks 18 = .ok (.aload_n 0, 1) := by decide +kernel
theorem dX8_asks_19 : decode cX8_asks 19 = .ok (.getfield 136, 3) := by decide +kernel
theorem dX8_asks_22 : decode cX8_asks 22 = .ok (.bipush 8, 2) := by decide +kernel
theorem dX8_asks_24 : decode cX8_asks 24 = .ok (.if_icmp .ne 5, 3) := by decide +kernel
theorem dX8_asks_27 : decode cX8_asks 27 = .ok (.iconst 3, 1) := by decide +kernel
theorem dX8_asks_28 : decode cX8_asks 28 = .ok (.ireturn, 1) := by decide +kernel
theorem dX8_asks_29 : decode cX8_asks 29 = .ok (.aload_n 0, 1) := by decide +kernel
theorem dX8_asks_30 : decode cX8_asks 30 = .ok (.dup, 1) := by decide +kernel
theorem dX8_asks_31 : decode cX8_asks 31 = .ok (.getfield 136, 3) := by decide +kernel
theorem dX8_asks_34 : decode cX8_asks 34 = .ok (.iconst 1, 1) := by decide +kernel
theorem dX8_asks_35 : decode cX8_asks 35 = .ok (.iadd, 1) := by decide +kernel
theorem dX8_asks_36 : decode cX8_asks 36 = .ok (.putfield 136, 3) := by decide +kernel
theorem dX8_asks_39 : decode cX8_asks 39 = .ok (.iinc 1 1, 3) := by decide +kernel
theorem dX8_asks_42 : decode cX8_asks 42 = .ok (.aload_n 0, 1) := by decide +kernel
theorem dX8_asks_43 : decode cX8_asks 43 = .ok (.invokevirtual 154, 3) := by decide +kernel
theorem dX8_asks_46 : decode cX8_asks 46 = .ok (.goto (-44), 3) := by decide +kernel
theorem dX8_asks_49 : decode cX8_asks 49 = .ok (.aload_n 0, 1) := by decide +kernel
theorem dX8_asks_50 : decode cX8_asks 50 = .ok (.invokevirtual 190, 3) := by decide +kernel
theorem dX8_asks_53 : decode cX8_asks 53 = .ok (.istore_n 2, 1) := by decide +kernel
theorem dX8_asks_54 : decode cX8_asks 54 = .ok (.iload_n 2, 1) := by decide +kernel
theorem dX8_asks_55 : decode cX8_asks 55 = .ok (.ifCond .eq 5, 3) := by decide +kernel
theorem dX8_asks_58 : decode cX8_asks 58 = .ok (.iload_n 2, 1) := by decide +kernel
theorem dX8_asks_59 : decode cX8_asks 59 = .ok (.ireturn, 1) := by decide +kernel
theorem dX8_asks_60 : decode cX8_asks 60 = .ok (.aload_n 0, 1) := by decide +kernel
theorem dX8_asks_61 : decode cX8_asks 61 = .ok (.invokevirtual 193, 3) := by decide +kernel
theorem dX8_asks_64 : decode cX8_asks 64 = .ok (.istore_n 3, 1) := by decide +kernel
theorem dX8_asks_65 : decode cX8_asks 65 = .ok (.iload_n 3, 1) := by decide +kernel
theorem dX8_asks_66 : decode cX8_asks 66 = .ok (.ifCond .ge 5, 3) := by decide +kernel
theorem dX8_asks_69 : decode cX8_asks 69 = .ok (.iconst 1, 1) := by decide +kernel
theorem dX8_asks_70 : decode cX8_asks 70 = .ok (.ireturn, 1) := by decide +kernel
theorem dX8_asks_71 : decode cX8_asks 71 = .ok (.aload_n 0, 1) := by decide +kernel
theorem dX8_asks_72 : decode cX8_asks 72 = .ok (.invokevirtual 154, 3) := by decide +kernel
theorem dX8_asks_75 : decode cX8_asks 75 = .ok (.aload_n 0, 1) := by decide +kernel
theorem dX8_asks_76 : decode cX8_asks 76 = .ok (.invokevirtual 190, 3) := by decide +kernel
theorem dX8_asks_79 : decode cX8_asks 79 = .ok (.istore_n 2, 1) := by decide +kernel
theorem dX8_asks_80 : decode cX8_asks 80 = .ok (.iload_n 2, 1) := by decide +kernel
theorem dX8_asks_81 : decode cX8_asks 81 = .ok (.ifCond .eq 5, 3) := by decide +kernel
theorem dX8_asks_84 : decode cX8_asks 84 = .ok (.iload_n 2, 1) := by decide +kernel
theorem dX8_asks_85 : decode cX8_asks 85 = .ok (.ireturn, 1) := by decide +kernel
theorem dX8_asks_86 : decode cX8_asks 86 = .ok (.aload_n 0, 1) := by decide +kernel
theorem dX8_asks_87 : decode cX8_asks 87 = .ok (.iload_n 3, 1) := by decide +kernel
theorem dX8_asks_88 : decode cX8_asks 88 = .ok (.iconst 0, 1) := by decide +kernel
theorem dX8_asks_89 : decode cX8_asks 89 = .ok (.invokevirtual 139, 3) := by decide +kernel
theorem dX8_asks_92 : decode cX8_asks 92 = .ok (.aload_n 0, 1) := by decide +kernel
theorem dX8_asks_93 : decode cX8_asks 93 = .ok (.dup, 1) := by decide +kernel
theorem dX8_asks_94 : decode cX8_asks 94 = .ok (.getfield 136, 3) := by decide +kernel
theorem dX8_asks_97 : decode cX8_asks 97 = .ok (.iload_n 1, 1) := by decide +kernel
theorem dX8_asks_98 : decode cX8_asks 98 = .ok (.isub, 1) := by decide +kernel
theorem dX8_asks_99 : decode cX8_asks 99 = .ok (.putfield 136, 3) := by decide +kernel
theorem dX8_asks_102 : decode cX8_asks 102 = .ok (.iconst 0, 1) := by decide +kernel
theorem dX8_asks_103 : decode cX8_asks 103 = .ok (.istore 4, 2) := by decide +kernel
theorem dX8_asks_105 : decode cX8_asks 105 = .ok (.iload 4, 2) := by decide +kernel
theorem dX8_asks_107 : decode cX8_asks 107 = .ok (.iload_n 1, 1) := by decide +kernel
theorem dX8_asks_108 : decode cX8_asks 108 = .ok (.if_icmp .ge 16, 3) := by decide +kernel
theorem dX8_asks_111 : decode cX8_asks 111 = .ok (.aload_n 0, 1) := by decide +kernel
theorem dX8_asks_112 : decode cX8_asks 112 = .ok (.bipush 20, 2) := by decide +kernel
theorem dX8_asks_114 : decode cX8_asks 114 = .ok (.iconst 0, 1) := by decide +kernel
theorem dX8_asks_115 : decode cX8_asks 115 = .ok (.invokevirtual 139, 3) := by decide +kernel
theorem dX8_asks_118 : decode cX8_asks 118 = .ok (.iinc 4 1, 3) := by decide +kernel
theorem dX8_asks_121 : decode cX8_asks 121 = .ok (.goto (-16), 3) := by decide +kernel
theorem dX8_asks_124 : decode cX8_asks 124 = .ok (.iconst 0, 1) := by decide +kernel
theorem dX8_asks_125 : decode cX8_asks 125 = .ok (.ireturn, 1) := by decide +kernel
theorem dX8_either_0 : decode cX8_either 0 = .ok (.iconst 0, 1) := by decide +kernel
theorem dX8_either_1 : decode cX8_either 1 = .ok (.istore_n 1, 1) := by decide +kernel
theorem dX8_either_2 : decode cX8_either 2 = .ok (.iconst 0, 1) := by decide +kernel
theorem dX8_either_3 : decode cX8_either 3 = .ok (.istore_n 2, 1) := by decide +kernel
theorem dX8_either_4 : decode cX8_either 4 = .ok (.iconst 1, 1) := by decide +kernel
theorem dX8_either_5 : decode cX8_either 5 = .ok (.istore_n 3, 1) := by decide +kernel
theorem dX8_either_6 : decode cX8_either 6 = .ok (.iload_n 3, 1) := by decide +kernel
theorem dX8_either_7 : decode cX8_either 7 = .ok (.ifCond .eq 112, 3) := by decide +kernel
theorem dX8_either_10 : decode cX8_either 10 = .ok (.aload_n 0, 1) := by decide +kernel
theorem dX8_either_11 : decode cX8_either 11 = .ok (.invokevirtual 196, 3) := by decide +kernel
theorem dX8_either_14 : decode cX8_either 14 = .ok (.istore 4, 2) := by decide +kernel
theorem dX8_either_16 : decode cX8_either 16 = .ok (.iload 4, 2) := by decide +kernel
theorem dX8_either_18 : decode cX8_either 18 = .ok (.ifCond .eq 6, 3) := by decide +kernel
theorem dX8_either_21 : decode cX8_either 21 = .ok (.iload 4, 2) := by decide +kernel
theorem dX8_either_23 : decode cX8_either 23 = .ok (.ireturn, 1) := by decide +kernel
theorem dX8_either_24 : decode cX8_either 24 = .ok (.iload_n 1, 1) := by decide +kernel
theorem dX8_either_25 : decode cX8_either 25 = .ok (.ifCond .eq 10, 3) := by decide +kernel
theorem dX8_either_28 : decode cX8_either 28 = .ok (.aload_n 0, 1) := by decide +kernel
theorem dX8_either_29 : decode cX8_either 29 = .ok (.bipush 21, 2) := by decide +kernel
theorem dX8_either_31 : decode cX8_either 31 = .ok (.iconst 0, 1) := by decide +kernel
theorem dX8_either_32 : decode cX8_either 32 = .ok (.invokevirtual 139, 3) := by decide +kernel
theorem dX8_either_35 : decode cX8_either 35 = .ok (.aload_n 0, 1) := by decide +kernel
theorem dX8_either_36 : decode cX8_either 36 = .ok (.bipush 97, 2) := by decide +kernel
theorem dX8_either_38 : decode cX8_either 38 = .ok (.bipush 110, 2) := by decide +kernel
theorem dX8_either_40 : decode cX8_either 40 = .ok (.bipush 100, 2) := by decide +kernel
theorem dX8_either_42 : decode cX8_either 42 = .ok (.invokestatic 115, 3) := by decide +kernel
theorem dX8_either_45 : decode cX8_either 45 = .ok (.invokevirtual 186, 3) := by decide +kernel
theorem dX8_either_48 : decode cX8_either 48 = .ok (.istore_n 1, 1) := by decide +kernel
theorem dX8_either_49 : decode cX8_either 49 = .ok (.aload_n 0, 1) := by decide +kernel
theorem dX8_either_50 : decode cX8_either 50 = .ok (.getfield 97, 3) := by decide +kernel
theorem dX8_either_53 : decode cX8_either 53 = .ok (.iconst 2, 1) := by decide +kernel
theorem dX8_either_54 : decode cX8_either 54 = .ok (.if_icmp .ne 18, 3) := by decide +kernel
theorem dX8_either_57 : decode cX8_either 57 = .ok (.aload_n 0, 1) := by decide +kernel
theorem dX8_either_58 : decode cX8_either 58 = .ok (.getfield 111, 3) := by decide +kernel
theorem dX8_either_61 : decode cX8_either 61 = .ok (.ldc2_w 199, 3) := by decide +kernel
theorem dX8_either_64 : decode cX8_either 64 = .ok (.lcmp, 1) := by decide +kernel
theorem dX8_either_65 : decode cX8_either 65 = .ok (.ifCond .ne 7, 3) := by decide +kernel
theorem dX8_either_68 : decode cX8_either 68 = .ok (.iconst 1, 1) := by decide +kernel
theorem dX8_either_69 : decode cX8_either 69 = .ok (.goto 4, 3) := by decide +kernel
theorem dX8_either_72 : decode cX8_either 72 = .ok (.iconst 0, 1) := by decide +kernel
theorem dX8_either_73 : decode cX8_either 73 = .ok (.istore 5, 2) := by decide +kernel
theorem dX8_either_75 : decode cX8_either 75 = .ok (.iload_n 1, 1) := by decide +kernel
theorem dX8_either_76 : decode cX8_either 76 = .ok (.ifCond .ne 17, 3) := by decide +kernel
theorem dX8_either_79 : decode cX8_either 79 = .ok (.iload_n 2, 1) := by decide +kernel
theorem dX8_either_80 : decode cX8_either 80 = .ok (.ifCond .eq 10, 3) := by decide +kernel
theorem dX8_either_83 : decode cX8_either 83 = .ok (.aload_n 0, 1) := by decide +kernel
theorem dX8_either_84 : decode cX8_either 84 = .ok (.bipush 22, 2) := by decide +kernel
theorem dX8_either_86 : decode cX8_either 86 = .ok (.iconst 0, 1) := by decide +kernel
theorem dX8_either_87 : decode cX8_either 87 = .ok (.invokevirtual 139, 3) := by decide +kernel
theorem dX8_either_90 : decode cX8_either 90 = .ok (.iload 5, 2) := by decide +kernel
theorem dX8_either_92 : decode cX8_either 92 = .ok (.istore_n 2, 1) := by decide +kernel
theorem dX8_either_93 : decode cX8_either 93 = .ok (.iload_n 1, 1) := by decide +kernel
theorem dX8_either_94 : decode cX8_either 94 = .ok (.ifCond .ne 8, 3) := by decide +kernel
theorem dX8_either_97 : decode cX8_either 97 = .ok (.iload 5, 2) := by decide +kernel
theorem dX8_either_99 : decode cX8_either 99 = .ok (.ifCond .eq 7, 3) := by decide +kernel
theorem dX8_either_102 : decode cX8_either 102 = .ok (.iconst 1, 1) := by decide +kernel
theorem dX8_either_103 : decode cX8_either 103 = .ok (.goto 4, 3) := by decide +kernel
theorem dX8_either_106 : decode cX8_either 106 = .ok (.iconst 0, 1) := by decide +kernel
theorem dX8_either_107 : decode cX8_either 107 = .ok (.istore_n 3, 1) := by decide +kernel
theorem dX8_either_108 : decode cX8_either 108 = .ok (.iload_n 3, 1) := by decide +kernel
theorem dX8_either_109 : decode cX8_either 109 = .ok (.ifCond .eq 7, 3) := by decide +kernel
theorem dX8_either_112 : decode cX8_either 112 = .ok (.aload_n 0, 1) := by decide +kernel
theorem dX8_either_113 : decode cX8_either 113 = .ok (.invokevirtual 154, 3) := by decide +kernel
theorem dX8_either_116 : decode cX8_either 116 = .ok (.goto (-110), 3) := by decide +kernel
theorem dX8_either_119 : decode cX8_either 119 = .ok (.iconst 0, 1) := by decide +kernel
theorem dX8_either_120 : decode cX8_either 120 = .ok (.ireturn, 1) := by decide +kernel
theorem dX8_sortOf_0 : decode cX8_sortOf 0 = .ok (.aload_n 0, 1) := by decide +kernel
theorem dX8_sortOf_1 : decode cX8_sortOf 1 = .ok (.bipush 115, 2) := by decide +kernel
theorem dX8_sortOf_3 : decode cX8_sortOf 3 = .ok (.bipush 101, 2) := by decide +kernel
theorem dX8_sortOf_5 : decode cX8_sortOf 5 = .ok (.bipush 101, 2) := by decide +kernel
theorem dX8_sortOf_7 : decode cX8_sortOf 7 = .ok (.bipush 115, 2) := by decide +kernel
theorem dX8_sortOf_9 : decode cX8_sortOf 9 = .ok (.invokestatic 147, 3) := by decide +kernel
theorem dX8_sortOf_12 : decode cX8_sortOf 12 = .ok (.invokevirtual 186, 3) := by decide +kernel
theorem dX8_sortOf_15 : decode cX8_sortOf 15 = .ok (.ifCond .eq 5, 3) := by decide +kernel
theorem dX8_sortOf_18 : decode cX8_sortOf 18 = .ok (.iconst 0, 1) := by decide +kernel
theorem dX8_sortOf_19 : decode cX8_sortOf 19 = .ok (.ireturn, 1) := by decide +kernel
theorem dX8_sortOf_20 : decode cX8_sortOf 20 = .ok (.aload_n 0, 1) := by decide +kernel
theorem dX8_sortOf_21 : decode cX8_sortOf 21 = .ok (.bipush 114, 2) := by decide +kernel
theorem dX8_sortOf_23 : decode cX8_sortOf 23 = .ok (.bipush 117, 2) := by decide +kernel
theorem dX8_sortOf_25 : decode cX8_sortOf 25 = .ok (.bipush 98, 2) := by decide +kernel
theorem dX8_sortOf_27 : decode cX8_sortOf 27 = .ok (.bipush 115, 2) := by decide +kernel
theorem dX8_sortOf_29 : decode cX8_sortOf 29 = .ok (.invokestatic 147, 3) := by decide +kernel
theorem dX8_sortOf_32 : decode cX8_sortOf 32 = .ok (.invokevirtual 186, 3) := by decide +kernel
theorem dX8_sortOf_35 : decode cX8_sortOf 35 = .ok (.ifCond .eq 5, 3) := by decide +kernel
theorem dX8_sortOf_38 : decode cX8_sortOf 38 = .ok (.iconst 1, 1) := by decide +kernel
theorem dX8_sortOf_39 : decode cX8_sortOf 39 = .ok (.ireturn, 1) := by decide +kernel
theorem dX8_sortOf_40 : decode cX8_sortOf 40 = .ok (.aload_n 0, 1) := by decide +kernel
theorem dX8_sortOf_41 : decode cX8_sortOf 41 = .ok (.bipush 116, 2) := by decide +kernel
theorem dX8_sortOf_43 : decode cX8_sortOf 43 = .ok (.bipush 111, 2) := by decide +kernel
theorem dX8_sortOf_45 : decode cX8_sortOf 45 = .ok (.bipush 117, 2) := by decide +kernel
theorem dX8_sortOf_47 : decode cX8_sortOf 47 = .ok (.bipush 99, 2) := by decide +kernel
theorem dX8_sortOf_49 : decode cX8_sortOf 49 = .ok (.bipush 104, 2) := by decide +kernel
theorem dX8_sortOf_51 : decode cX8_sortOf 51 = .ok (.invokestatic 119, 3) := by decide +kernel
theorem dX8_sortOf_54 : decode cX8_sortOf 54 = .ok (.invokevirtual 186, 3) := by decide +kernel
theorem dX8_sortOf_57 : decode cX8_sortOf 57 = .ok (.ifCond .eq 5, 3) := by decide +kernel
theorem dX8_sortOf_60 : decode cX8_sortOf 60 = .ok (.iconst 2, 1) := by decide +kernel
theorem dX8_sortOf_61 : decode cX8_sortOf 61 = .ok (.ireturn, 1) := by decide +kernel
theorem dX8_sortOf_62 : decode cX8_sortOf 62 = .ok (.aload_n 0, 1) := by decide +kernel
theorem dX8_sortOf_63 : decode cX8_sortOf 63 = .ok (.bipush 112, 2) := by decide +kernel
theorem dX8_sortOf_65 : decode cX8_sortOf 65 = .ok (.bipush 117, 2) := by decide +kernel
theorem dX8_sortOf_67 : decode cX8_sortOf 67 = .ok (.bipush 116, 2) := by decide +kernel
theorem dX8_sortOf_69 : decode cX8_sortOf 69 = .ok (.invokestatic 115, 3) := by decide +kernel
theorem dX8_sortOf_72 : decode cX8_sortOf 72 = .ok (.invokevirtual 186, 3) := by decide +kernel
theorem dX8_sortOf_75 : decode cX8_sortOf 75 = .ok (.ifCond .eq 5, 3) := by decide +kernel
theorem dX8_sortOf_78 : decode cX8_sortOf 78 = .ok (.iconst 3, 1) := by decide +kernel
theorem dX8_sortOf_79 : decode cX8_sortOf 79 = .ok (.ireturn, 1) := by decide +kernel
theorem dX8_sortOf_80 : decode cX8_sortOf 80 = .ok (.aload_n 0, 1) := by decide +kernel
theorem dX8_sortOf_81 : decode cX8_sortOf 81 = .ok (.bipush 100, 2) := by decide +kernel
theorem dX8_sortOf_83 : decode cX8_sortOf 83 = .ok (.bipush 114, 2) := by decide +kernel
theorem dX8_sortOf_85 : decode cX8_sortOf 85 = .ok (.bipush 97, 2) := by decide +kernel
theorem dX8_sortOf_87 : decode cX8_sortOf 87 = .ok (.bipush 119, 2) := by decide +kernel
theorem dX8_sortOf_89 : decode cX8_sortOf 89 = .ok (.bipush 101, 2) := by decide +kernel
theorem dX8_sortOf_91 : decode cX8_sortOf 91 = .ok (.bipush 114, 2) := by decide +kernel
theorem dX8_sortOf_93 : decode cX8_sortOf 93 = .ok (.invokestatic 143, 3) := by decide +kernel
theorem dX8_sortOf_96 : decode cX8_sortOf 96 = .ok (.invokevirtual 186, 3) := by decide +kernel
theorem dX8_sortOf_99 : decode cX8_sortOf 99 = .ok (.ifCond .eq 5, 3) := by decide +kernel
theorem dX8_sortOf_102 : decode cX8_sortOf 102 = .ok (.iconst 4, 1) := by decide +kernel
theorem dX8_sortOf_103 : decode cX8_sortOf 103 = .ok (.ireturn, 1) := by decide +kernel
theorem dX8_sortOf_104 : decode cX8_sortOf 104 = .ok (.aload_n 0, 1) := by decide +kernel
theorem dX8_sortOf_105 : decode cX8_sortOf 105 = .ok (.bipush 115, 2) := by decide +kernel
theorem dX8_sortOf_107 : decode cX8_sortOf 107 = .ok (.bipush 119, 2) := by decide +kernel
theorem dX8_sortOf_109 : decode cX8_sortOf 109 = .ok (.bipush 97, 2) := by decide +kernel
theorem dX8_sortOf_111 : decode cX8_sortOf 111 = .ok (.bipush 112, 2) := by decide +kernel
theorem dX8_sortOf_113 : decode cX8_sortOf 113 = .ok (.invokestatic 147, 3) := by decide +kernel
theorem dX8_sortOf_116 : decode cX8_sortOf 116 = .ok (.invokevirtual 186, 3) := by decide +kernel
theorem dX8_sortOf_119 : decode cX8_sortOf 119 = .ok (.ifCond .eq 7, 3) := by decide +kernel
theorem dX8_sortOf_122 : decode cX8_sortOf 122 = .ok (.iconst 5, 1) := by decide +kernel
theorem dX8_sortOf_123 : decode cX8_sortOf 123 = .ok (.goto 31, 3) := by decide +kernel
theorem dX8_sortOf_126 : decode cX8_sortOf 126 = .ok (.aload_n 0, 1) := by decide +kernel
theorem dX8_sortOf_127 : decode cX8_sortOf 127 = .ok (.bipush 112, 2) := by decide +kernel
theorem dX8_sortOf_129 : decode cX8_sortOf 129 = .ok (.bipush 111, 2) := by decide +kernel
theorem dX8_sortOf_131 : decode cX8_sortOf 131 = .ok (.bipush 108, 2) := by decide +kernel
theorem dX8_sortOf_133 : decode cX8_sortOf 133 = .ok (.bipush 105, 2) := by decide +kernel
theorem dX8_sortOf_135 : decode cX8_sortOf 135 = .ok (.bipush 115, 2) := by decide +kernel
theorem dX8_sortOf_137 : decode cX8_sortOf 137 = .ok (.bipush 104, 2) := by decide +kernel
theorem dX8_sortOf_139 : decode cX8_sortOf 139 = .ok (.invokestatic 143, 3) := by decide +kernel
theorem dX8_sortOf_142 : decode cX8_sortOf 142 = .ok (.invokevirtual 186, 3) := by decide +kernel
theorem dX8_sortOf_145 : decode cX8_sortOf 145 = .ok (.ifCond .eq 8, 3) := by decide +kernel
theorem dX8_sortOf_148 : decode cX8_sortOf 148 = .ok (.bipush 6, 2) := by decide +kernel
theorem dX8_sortOf_150 : decode cX8_sortOf 150 = .ok (.goto 4, 3) := by decide +kernel
theorem dX8_sortOf_153 : decode cX8_sortOf 153 = .ok (.iconst (-1), 1) := by decide +kernel
theorem dX8_sortOf_154 : decode cX8_sortOf 154 = .ok (.ireturn, 1) := by decide +kernel
theorem dX8_figure_0 : decode cX8_figure 0 = .ok (.aload_n 0, 1) := by decide +kernel
theorem dX8_figure_1 : decode cX8_figure 1 = .ok (.getfield 97, 3) := by decide +kernel
theorem dX8_figure_4 : decode cX8_figure 4 = .ok (.iconst 1, 1) := by decide +kernel
theorem dX8_figure_5 : decode cX8_figure 5 = .ok (.if_icmp .eq 5, 3) := by decide +kernel
theorem dX8_figure_8 : decode cX8_figure 8 = .ok (.iconst 1, 1) := by decide +kernel
theorem dX8_figure_9 : decode cX8_figure 9 = .ok (.ireturn, 1) := by decide +kernel
theorem dX8_figure_10 : decode cX8_figure 10 = .ok (.aload_n 0, 1) := by decide +kernel
theorem dX8_figure_11 : decode cX8_figure 11 = .ok (.getfield 104, 3) := by decide +kernel
theorem dX8_figure_14 : decode cX8_figure 14 = .ok (.iload_n 2, 1) := by decide +kernel
theorem dX8_figure_15 : decode cX8_figure 15 = .ok (.if_icmp .le 5, 3) := by decide +kernel
theorem dX8_figure_18 : decode cX8_figure 18 = .ok (.iconst 2, 1) := by decide +kernel
theorem dX8_figure_19 : decode cX8_figure 19 = .ok (.ireturn, 1) := by decide +kernel
theorem dX8_figure_20 : decode cX8_figure 20 = .ok (.aload_n 0, 1) := by decide +kernel
theorem dX8_figure_21 : decode cX8_figure 21 = .ok (.getfield 19, 3) := by decide +kernel
theorem dX8_figure_24 : decode cX8_figure 24 = .ok (.iload_n 1, 1) := by decide +kernel
theorem dX8_figure_25 : decode cX8_figure 25 = .ok (.aload_n 0, 1) := by decide +kernel
theorem dX8_figure_26 : decode cX8_figure 26 = .ok (.getfield 104, 3) := by decide +kernel
theorem dX8_figure_29 : decode cX8_figure 29 = .ok (.iastore, 1) := by decide +kernel
theorem dX8_figure_30 : decode cX8_figure 30 = .ok (.aload_n 0, 1) := by decide +kernel
theorem dX8_figure_31 : decode cX8_figure 31 = .ok (.invokevirtual 154, 3) := by decide +kernel
theorem dX8_figure_34 : decode cX8_figure 34 = .ok (.iconst 0, 1) := by decide +kernel
theorem dX8_figure_35 : decode cX8_figure 35 = .ok (.ireturn, 1) := by decide +kernel
theorem dX8_isBetween_0 : decode cX8_isBetween 0 = .ok (.iload_n 1, 1) := by decide +kernel
theorem dX8_isBetween_1 : decode cX8_isBetween 1 = .ok (.iconst 2, 1) := by decide +kernel
theorem dX8_isBetween_2 : decode cX8_isBetween 2 = .ok (.if_icmp .ne 28, 3) := by decide +kernel
theorem dX8_isBetween_5 : decode cX8_isBetween 5 = .ok (.aload_n 0, 1) := by decide +kernel
theorem dX8_isBetween_6 : decode cX8_isBetween 6 = .ok (.getfield 97, 3) := by decide +kernel
theorem dX8_isBetween_9 : decode cX8_isBetween 9 = .ok (.iconst 2, 1) := by decide +kernel
theorem dX8_isBetween_10 : decode cX8_isBetween 10 = .ok (.if_icmp .ne 18, 3) := by decide +kernel
theorem dX8_isBetween_13 : decode cX8_isBetween 13 = .ok (.aload_n 0, 1) := by decide +kernel
theorem dX8_isBetween_14 : decode cX8_isBetween 14 = .ok (.getfield 111, 3) := by decide +kernel
theorem dX8_isBetween_17 : decode cX8_isBetween 17 = .ok (.ldc2_w 201, 3) := by decide +kernel
theorem dX8_isBetween_20 : decode cX8_isBetween 20 = .ok (.lcmp, 1) := by decide +kernel
theorem dX8_isBetween_21 : decode cX8_isBetween 21 = .ok (.ifCond .ne 7, 3) := by decide +kernel
theorem dX8_isBetween_24 : decode cX8_isBetween 24 = .ok (.iconst 1, 1) := by decide +kernel
theorem dX8_isBetween_25 : decode cX8_isBetween 25 = .ok (.goto 4, 3) := by decide +kernel
theorem dX8_isBetween_28 : decode cX8_isBetween 28 = .ok (.iconst 0, 1) := by decide +kernel
theorem dX8_isBetween_29 : decode cX8_isBetween 29 = .ok (.ireturn, 1) := by decide +kernel
theorem dX8_isBetween_30 : decode cX8_isBetween 30 = .ok (.iload_n 1, 1) := by decide +kernel
theorem dX8_isBetween_31 : decode cX8_isBetween 31 = .ok (.iconst 3, 1) := by decide +kernel
theorem dX8_isBetween_32 : decode cX8_isBetween 32 = .ok (.if_icmp .ne 30, 3) := by decide +kernel
theorem dX8_isBetween_35 : decode cX8_isBetween 35 = .ok (.aload_n 0, 1) := by decide +kernel
theorem dX8_isBetween_36 : decode cX8_isBetween 36 = .ok (.getfield 97, 3) := by decide +kernel
theorem dX8_isBetween_39 : decode cX8_isBetween 39 = .ok (.iconst 2, 1) := by decide +kernel
theorem dX8_isBetween_40 : decode cX8_isBetween 40 = .ok (.if_icmp .ne 18, 3) := by decide +kernel
theorem dX8_isBetween_43 : decode cX8_isBetween 43 = .ok (.aload_n 0, 1) := by decide +kernel
theorem dX8_isBetween_44 : decode cX8_isBetween 44 = .ok (.getfield 111, 3) := by decide +kernel
theorem dX8_isBetween_47 : decode cX8_isBetween 47 = .ok (.ldc2_w 203, 3) := by decide +kernel
theorem dX8_isBetween_50 : decode cX8_isBetween 50 = .ok (.lcmp, 1) := by decide +kernel
theorem dX8_isBetween_51 : decode cX8_isBetween 51 = .ok (.ifCond .ne 7, 3) := by decide +kernel
theorem dX8_isBetween_54 : decode cX8_isBetween 54 = .ok (.iconst 1, 1) := by decide +kernel
theorem dX8_isBetween_55 : decode cX8_isBetween 55 = .ok (.goto 22, 3) := by decide +kernel
theorem dX8_isBetween_58 : decode cX8_isBetween 58 = .ok (.iconst 0, 1) := by decide +kernel
theorem dX8_isBetween_59 : decode cX8_isBetween 59 = .ok (.goto 18, 3) := by decide +kernel
theorem dX8_isBetween_62 : decode cX8_isBetween 62 = .ok (.aload_n 0, 1) := by decide +kernel
theorem dX8_isBetween_63 : decode cX8_isBetween 63 = .ok (.bipush 119, 2) := by decide +kernel
theorem dX8_isBetween_65 : decode cX8_isBetween 65 = .ok (.bipush 105, 2) := by decide +kernel
theorem dX8_isBetween_67 : decode cX8_isBetween 67 = .ok (.bipush 116, 2) := by decide +kernel
theorem dX8_isBetween_69 : decode cX8_isBetween 69 = .ok (.bipush 104, 2) := by decide +kernel
theorem dX8_isBetween_71 : decode cX8_isBetween 71 = .ok (.invokestatic 147, 3) := by decide +kernel
theorem dX8_isBetween_74 : decode cX8_isBetween 74 = .ok (.invokevirtual 186, 3) := by decide +kernel
theorem dX8_isBetween_77 : decode cX8_isBetween 77 = .ok (.ireturn, 1) := by decide +kernel
theorem dX8_line_0 : decode cX8_line 0 = .ok (.aload_n 0, 1) := by decide +kernel
theorem dX8_line_1 : decode cX8_line 1 = .ok (.iload_n 2, 1) := by decide +kernel
theorem dX8_line_2 : decode cX8_line 2 = .ok (.iconst 1, 1) := by decide +kernel
theorem dX8_line_3 : decode cX8_line 3 = .ok (.iadd, 1) := by decide +kernel
theorem dX8_line_4 : decode cX8_line 4 = .ok (.bipush 7, 2) := by decide +kernel
theorem dX8_line_6 : decode cX8_line 6 = .ok (.invokevirtual 205, 3) := by decide +kernel
theorem dX8_line_9 : decode cX8_line 9 = .ok (.istore_n 3, 1) := by decide +kernel
theorem dX8_line_10 : decode cX8_line 10 = .ok (.iload_n 3, 1) := by decide +kernel
theorem dX8_line_11 : decode cX8_line 11 = .ok (.ifCond .ne 14, 3) := by decide +kernel
theorem dX8_line_14 : decode cX8_line 14 = .ok (.iload_n 1, 1) := by decide +kernel
theorem dX8_line_15 : decode cX8_line 15 = .ok (.iconst 4, 1) := by decide +kernel
theorem dX8_line_16 : decode cX8_line 16 = .ok (.if_icmp .eq 9, 3) := by decide +kernel
theorem dX8_line_19 : decode cX8_line 19 = .ok (.iload_n 1, 1) := by decide +kernel
theorem dX8_line_20 : decode cX8_line 20 = .ok (.bipush 6, 2) := by decide +kernel
theorem dX8_line_22 : decode cX8_line 22 = .ok (.if_icmp .ne 5, 3) := by decide +kernel
theorem dX8_line_25 : decode cX8_line 25 = .ok (.iload_n 3, 1) := by decide +kernel
theorem dX8_line_26 : decode cX8_line 26 = .ok (.ireturn, 1) := by decide +kernel
theorem dX8_line_27 : decode cX8_line 27 = .ok (.aload_n 0, 1) := by decide +kernel
theorem dX8_line_28 : decode cX8_line 28 = .ok (.iload_n 1, 1) := by decide +kernel
theorem dX8_line_29 : decode cX8_line 29 = .ok (.invokevirtual 208, 3) := by decide +kernel
theorem dX8_line_32 : decode cX8_line 32 = .ok (.ifCond .ne 5, 3) := by decide +kernel
theorem dX8_line_35 : decode cX8_line 35 = .ok (.iconst 1, 1) := by decide +kernel
theorem dX8_line_36 : decode cX8_line 36 = .ok (.ireturn, 1) := by decide +kernel
theorem dX8_line_37 : decode cX8_line 37 = .ok (.aload_n 0, 1) := by decide +kernel
theorem dX8_line_38 : decode cX8_line 38 = .ok (.invokevirtual 154, 3) := by decide +kernel
theorem dX8_line_41 : decode cX8_line 41 = .ok (.aload_n 0, 1) := by decide +kernel
theorem dX8_line_42 : decode cX8_line 42 = .ok (.iload_n 2, 1) := by decide +kernel
theorem dX8_line_43 : decode cX8_line 43 = .ok (.iconst 2, 1) := by decide +kernel
theorem dX8_line_44 : decode cX8_line 44 = .ok (.iadd, 1) := by decide +kernel
theorem dX8_line_45 : decode cX8_line 45 = .ok (.iload_n 1, 1) := by decide +kernel
theorem dX8_line_46 : decode cX8_line 46 = .ok (.iconst 5, 1) := by decide +kernel
theorem dX8_line_47 : decode cX8_line 47 = .ok (.if_icmp .ne 8, 3) := by decide +kernel
theorem dX8_line_50 : decode cX8_line 50 = .ok (.bipush 7, 2) := by decide +kernel
theorem dX8_line_52 : decode cX8_line 52 = .ok (.goto 4, 3) := by decide +kernel
theorem dX8_line_55 : decode cX8_line 55 = .ok (.iconst 5, 1) := by decide +kernel
theorem dX8_line_56 : decode cX8_line 56 = .ok (.invokevirtual 205, 3) := by decide +kernel
theorem dX8_line_59 : decode cX8_line 59 = .ok (.ireturn, 1) := by decide +kernel
theorem dX8_clause_0 : decode cX8_clause 0 = .ok (.aload_n 0, 1) := by decide +kernel
theorem dX8_clause_1 : decode cX8_clause 1 = .ok (.invokevirtual 211, 3) := by decide +kernel
theorem dX8_clause_4 : decode cX8_clause 4 = .ok (.istore_n 1, 1) := by decide +kernel
theorem dX8_clause_5 : decode cX8_clause 5 = .ok (.iload_n 1, 1) := by decide +kernel
theorem dX8_clause_6 : decode cX8_clause 6 = .ok (.ifCond .ge 5, 3) := by decide +kernel
theorem dX8_clause_9 : decode cX8_clause 9 = .ok (.iconst 1, 1) := by decide +kernel
theorem dX8_clause_10 : decode cX8_clause 10 = .ok (.ireturn, 1) := by decide +kernel
theorem dX8_clause_11 : decode cX8_clause 11 = .ok (.iload_n 1, 1) := by decide +kernel
theorem dX8_clause_12 : decode cX8_clause 12 = .ok (.iconst 2, 1) := by decide +kernel
theorem dX8_clause_13 : decode cX8_clause 13 = .ok (.if_icmp .ge 17, 3) := by decide +kernel
theorem dX8_clause_16 : decode cX8_clause 16 = .ok (.aload_n 0, 1) := by decide +kernel
theorem dX8_clause_17 : decode cX8_clause 17 = .ok (.getfield 214, 3) := by decide +kernel
theorem dX8_clause_20 : decode cX8_clause 20 = .ok (.iload_n 1, 1) := by decide +kernel
theorem dX8_clause_21 : decode cX8_clause 21 = .ok (.ishr, 1) := by decide +kernel
theorem dX8_clause_22 : decode cX8_clause 22 = .ok (.iconst 1, 1) := by decide +kernel
theorem dX8_clause_23 : decode cX8_clause 23 = .ok (.iand, 1) := by decide +kernel
theorem dX8_clause_24 : decode cX8_clause 24 = .ok (.iconst 1, 1) := by decide +kernel
theorem dX8_clause_25 : decode cX8_clause 25 = .ok (.if_icmp .ne 5, 3) := by decide +kernel
theorem dX8_clause_28 : decode cX8_clause 28 = .ok (.iconst 4, 1) := by decide +kernel
theorem dX8_clause_29 : decode cX8_clause 29 = .ok (.ireturn, 1) := by decide +kernel
theorem dX8_clause_30 : decode cX8_clause 30 = .ok (.aload_n 0, 1) := by decide +kernel
theorem dX8_clause_31 : decode cX8_clause 31 = .ok (.getfield 19, 3) := by decide +kernel
theorem dX8_clause_34 : decode cX8_clause 34 = .ok (.aload_n 0, 1) := by decide +kernel
theorem dX8_clause_35 : decode cX8_clause 35 = .ok (.getfield 123, 3) := by decide +kernel
theorem dX8_clause_38 : decode cX8_clause 38 = .ok (.iaload, 1) := by decide +kernel
theorem dX8_clause_39 : decode cX8_clause 39 = .ok (.istore_n 2, 1) := by decide +kernel
theorem dX8_clause_40 : decode cX8_clause 40 = .ok (.iload_n 2, 1) := by decide +kernel
theorem dX8_clause_41 : decode cX8_clause 41 = .ok (.bipush 24, 2) := by decide +kernel
theorem dX8_clause_43 : decode cX8_clause 43 = .ok (.if_icmp .ne 6, 3) := by decide +kernel
theorem dX8_clause_46 : decode cX8_clause 46 = .ok (.bipush 6, 2) := by decide +kernel
theorem dX8_clause_48 : decode cX8_clause 48 = .ok (.ireturn, 1) := by decide +kernel
theorem dX8_clause_49 : decode cX8_clause 49 = .ok (.iload_n 1, 1) := by decide +kernel
theorem dX8_clause_50 : decode cX8_clause 50 = .ok (.iconst 2, 1) := by decide +kernel
theorem dX8_clause_51 : decode cX8_clause 51 = .ok (.if_icmp .ge 15, 3) := by decide +kernel
theorem dX8_clause_54 : decode cX8_clause 54 = .ok (.aload_n 0, 1) := by decide +kernel
theorem dX8_clause_55 : decode cX8_clause 55 = .ok (.dup, 1) := by decide +kernel
theorem dX8_clause_56 : decode cX8_clause 56 = .ok (.getfield 214, 3) := by decide +kernel
theorem dX8_clause_59 : decode cX8_clause 59 = .ok (.iconst 1, 1) := by decide +kernel
theorem dX8_clause_60 : decode cX8_clause 60 = .ok (.iload_n 1, 1) := by decide +kernel
theorem dX8_clause_61 : decode cX8_clause 61 = .ok (.ishl, 1) := by decide +kernel
theorem dX8_clause_62 : decode cX8_clause 62 = .ok (.ior, 1) := by decide +kernel
theorem dX8_clause_63 : decode cX8_clause 63 = .ok (.putfield 214, 3) := by decide +kernel
theorem dX8_clause_66 : decode cX8_clause 66 = .ok (.aload_n 0, 1) := by decide +kernel
theorem dX8_clause_67 : decode cX8_clause 67 = .ok (.iload_n 1, 1) := by decide +kernel
theorem dX8_clause_68 : decode cX8_clause 68 = .ok (.putfield 151, 3) := by decide +kernel
theorem dX8_clause_71 : decode cX8_clause 71 = .ok (.aload_n 0, 1) := by decide +kernel
theorem dX8_clause_72 : decode cX8_clause 72 = .ok (.invokevirtual 154, 3) := by decide +kernel
theorem dX8_clause_75 : decode cX8_clause 75 = .ok (.aload_n 0, 1) := by decide +kernel
theorem dX8_clause_76 : decode cX8_clause 76 = .ok (.getfield 123, 3) := by decide +kernel
theorem dX8_clause_79 : decode cX8_clause 79 = .ok (.iconst 1, 1) := by decide +kernel
theorem dX8_clause_80 : decode cX8_clause 80 = .ok (.iadd, 1) := by decide +kernel
theorem dX8_clause_81 : decode cX8_clause 81 = .ok (.iconst 3, 1) := by decide +kernel
theorem dX8_clause_82 : decode cX8_clause 82 = .ok (.iload_n 2, 1) := by decide +kernel
theorem dX8_clause_83 : decode cX8_clause 83 = .ok (.imul, 1) := by decide +kernel
theorem dX8_clause_84 : decode cX8_clause 84 = .ok (.iadd, 1) := by decide +kernel
theorem dX8_clause_85 : decode cX8_clause 85 = .ok (.istore_n 3, 1) := by decide +kernel
theorem dX8_clause_86 : decode cX8_clause 86 = .ok (.aload_n 0, 1) := by decide +kernel
theorem dX8_clause_87 : decode cX8_clause 87 = .ok (.getfield 19, 3) := by decide +kernel
theorem dX8_clause_90 : decode cX8_clause 90 = .ok (.iload_n 3, 1) := by decide +kernel
theorem dX8_clause_91 : decode cX8_clause 91 = .ok (.iload_n 1, 1) := by decide +kernel
theorem dX8_clause_92 : decode cX8_clause 92 = .ok (.iastore, 1) := by decide +kernel
theorem dX8_clause_93 : decode cX8_clause 93 = .ok (.aload_n 0, 1) := by decide +kernel
theorem dX8_clause_94 : decode cX8_clause 94 = .ok (.getfield 126, 3) := by decide +kernel
theorem dX8_clause_97 : decode cX8_clause 97 = .ok (.istore 4, 2) := by decide +kernel
theorem dX8_clause_99 : decode cX8_clause 99 = .ok (.iload_n 1, 1) := by decide +kernel
theorem dX8_clause_100 : decode cX8_clause 100 = .ok (.ifCond .ne 10, 3) := by decide +kernel
theorem dX8_clause_103 : decode cX8_clause 103 = .ok (.aload_n 0, 1) := by decide +kernel
theorem dX8_clause_104 : decode cX8_clause 104 = .ok (.invokevirtual 217, 3) := by decide +kernel
theorem dX8_clause_107 : decode cX8_clause 107 = .ok (.goto 21, 3) := by decide +kernel
theorem dX8_clause_110 : decode cX8_clause 110 = .ok (.iload_n 1, 1) := by decide +kernel
theorem dX8_clause_111 : decode cX8_clause 111 = .ok (.iconst 1, 1) := by decide +kernel
theorem dX8_clause_112 : decode cX8_clause 112 = .ok (.if_icmp .ne 10, 3) := by decide +kernel
theorem dX8_clause_115 : decode cX8_clause 115 = .ok (.aload_n 0, 1) := by decide +kernel
theorem dX8_clause_116 : decode cX8_clause 116 = .ok (.invokevirtual 190, 3) := by decide +kernel
theorem dX8_clause_119 : decode cX8_clause 119 = .ok (.goto 9, 3) := by decide +kernel
theorem dX8_clause_122 : decode cX8_clause 122 = .ok (.aload_n 0, 1) := by decide +kernel
theorem dX8_clause_123 : decode cX8_clause 123 = .ok (.iload_n 1, 1) := by decide +kernel
theorem dX8_clause_124 : decode cX8_clause 124 = .ok (.iload_n 3, 1) := by decide +kernel
theorem dX8_clause_125 : decode cX8_clause 125 = .ok (.invokevirtual 220, 3) := by decide +kernel
theorem dX8_clause_128 : decode cX8_clause 128 = .ok (.istore 5, 2) := by decide +kernel
theorem dX8_clause_130 : decode cX8_clause 130 = .ok (.iload 5, 2) := by decide +kernel
theorem dX8_clause_132 : decode cX8_clause 132 = .ok (.ifCond .eq 6, 3) := by decide +kernel
theorem dX8_clause_135 : decode cX8_clause 135 = .ok (.iload 5, 2) := by decide +kernel
theorem dX8_clause_137 : decode cX8_clause 137 = .ok (.ireturn, 1) := by decide +kernel
theorem dX8_clause_138 : decode cX8_clause 138 = .ok (.iload_n 1, 1) := by decide +kernel
theorem dX8_clause_139 : decode cX8_clause 139 = .ok (.iconst 2, 1) := by decide +kernel
theorem dX8_clause_140 : decode cX8_clause 140 = .ok (.if_icmp .ge 25, 3) := by decide +kernel
theorem dX8_clause_143 : decode cX8_clause 143 = .ok (.aload_n 0, 1) := by decide +kernel
theorem dX8_clause_144 : decode cX8_clause 144 = .ok (.getfield 19, 3) := by decide +kernel
theorem dX8_clause_147 : decode cX8_clause 147 = .ok (.iload_n 3, 1) := by decide +kernel
theorem dX8_clause_148 : decode cX8_clause 148 = .ok (.iconst 1, 1) := by decide +kernel
theorem dX8_clause_149 : decode cX8_clause 149 = .ok (.iadd, 1) := by decide +kernel
theorem dX8_clause_150 : decode cX8_clause 150 = .ok (.iload 4, 2) := by decide +kernel
theorem dX8_clause_152 : decode cX8_clause 152 = .ok (.iastore, 1) := by decide +kernel
theorem dX8_clause_153 : decode cX8_clause 153 = .ok (.aload_n 0, 1) := by decide +kernel
theorem dX8_clause_154 : decode cX8_clause 154 = .ok (.getfield 19, 3) := by decide +kernel
theorem dX8_clause_157 : decode cX8_clause 157 = .ok (.iload_n 3, 1) := by decide +kernel
theorem dX8_clause_158 : decode cX8_clause 158 = .ok (.iconst 2, 1) := by decide +kernel
theorem dX8_clause_159 : decode cX8_clause 159 = .ok (.iadd, 1) := by decide +kernel
theorem dX8_clause_160 : decode cX8_clause 160 = .ok (.aload_n 0, 1) := by decide +kernel
theorem dX8_clause_161 : decode cX8_clause 161 = .ok (.getfield 126, 3) := by decide +kernel
theorem dX8_clause_164 : decode cX8_clause 164 = .ok (.iastore, 1) := by decide +kernel
theorem dX8_clause_165 : decode cX8_clause 165 = .ok (.aload_n 0, 1) := by decide +kernel
theorem dX8_clause_166 : decode cX8_clause 166 = .ok (.getfield 19, 3) := by decide +kernel
theorem dX8_clause_169 : decode cX8_clause 169 = .ok (.aload_n 0, 1) := by decide +kernel
theorem dX8_clause_170 : decode cX8_clause 170 = .ok (.getfield 123, 3) := by decide +kernel
theorem dX8_clause_173 : decode cX8_clause 173 = .ok (.dup2, 1) := by decide +kernel
theorem dX8_clause_174 : decode cX8_clause 174 = .ok (.iaload, 1) := by decide +kernel
theorem dX8_clause_175 : decode cX8_clause 175 = .ok (.iconst 1, 1) := by decide +kernel
theorem dX8_clause_176 : decode cX8_clause 176 = .ok (.iadd, 1) := by decide +kernel
theorem dX8_clause_177 : decode cX8_clause 177 = .ok (.iastore, 1) := by decide +kernel
theorem dX8_clause_178 : decode cX8_clause 178 = .ok (.aload_n 0, 1) := by decide +kernel
theorem dX8_clause_179 : decode cX8_clause 179 = .ok (.getfield 97, 3) := by decide +kernel
theorem dX8_clause_182 : decode cX8_clause 182 = .ok (.bipush 59, 2) := by decide +kernel
theorem dX8_clause_184 : decode cX8_clause 184 = .ok (.if_icmp .eq 5, 3) := by decide +kernel
theorem dX8_clause_187 : decode cX8_clause 187 = .ok (.iconst 1, 1) := by decide +kernel
theorem dX8_clause_188 : decode cX8_clause 188 = .ok (.ireturn, 1) := by decide +kernel
theorem dX8_clause_189 : decode cX8_clause 189 = .ok (.aload_n 0, 1) := by decide +kernel
theorem dX8_clause_190 : decode cX8_clause 190 = .ok (.invokevirtual 154, 3) := by decide +kernel
theorem dX8_clause_193 : decode cX8_clause 193 = .ok (.iconst 0, 1) := by decide +kernel
theorem dX8_clause_194 : decode cX8_clause 194 = .ok (.ireturn, 1) := by decide +kernel
theorem dX8_readText_0 : decode cX8_readText 0 = .ok (.aload_n 0, 1) := by decide +kernel
theorem dX8_readText_1 : decode cX8_readText 1 = .ok (.sipush 680, 3) := by decide +kernel
theorem dX8_readText_4 : decode cX8_readText 4 = .ok (.aload_n 0, 1) := by decide +kernel
theorem dX8_readText_5 : decode cX8_readText 5 = .ok (.getfield 7, 3) := by decide +kernel
theorem dX8_readText_8 : decode cX8_readText 8 = .ok (.iconst 3, 1) := by decide +kernel
theorem dX8_readText_9 : decode cX8_readText 9 = .ok (.iaload, 1) := by decide +kernel
theorem dX8_readText_10 : decode cX8_readText 10 = .ok (.imul, 1) := by decide +kernel
theorem dX8_readText_11 : decode cX8_readText 11 = .ok (.putfield 123, 3) := by decide +kernel
theorem dX8_readText_14 : decode cX8_readText 14 = .ok (.aload_n 0, 1) := by decide +kernel
theorem dX8_readText_15 : decode cX8_readText 15 = .ok (.getfield 19, 3) := by decide +kernel
theorem dX8_readText_18 : decode cX8_readText 18 = .ok (.aload_n 0, 1) := by decide +kernel
theorem dX8_readText_19 : decode cX8_readText 19 = .ok (.getfield 123, 3) := by decide +kernel
theorem dX8_readText_22 : decode cX8_readText 22 = .ok (.iconst 0, 1) := by decide +kernel
theorem dX8_readText_23 : decode cX8_readText 23 = .ok (.iastore, 1) := by decide +kernel
theorem dX8_readText_24 : decode cX8_readText 24 = .ok (.aload_n 0, 1) := by decide +kernel
theorem dX8_readText_25 : decode cX8_readText 25 = .ok (.iconst 0, 1) := by decide +kernel
theorem dX8_readText_26 : decode cX8_readText 26 = .ok (.putfield 126, 3) := by decide +kernel
theorem dX8_readText_29 : decode cX8_readText 29 = .ok (.aload_n 0, 1) := by decide +kernel
theorem dX8_readText_30 : decode cX8_readText 30 = .ok (.iconst 0, 1) := by decide +kernel
theorem dX8_readText_31 : decode cX8_readText 31 = .ok (.putfield 136, 3) := by decide +kernel
theorem dX8_readText_34 : decode cX8_readText 34 = .ok (.aload_n 0, 1) := by decide +kernel
theorem dX8_readText_35 : decode cX8_readText 35 = .ok (.iconst 0, 1) := by decide +kernel
theorem dX8_readText_36 : decode cX8_readText 36 = .ok (.putfield 214, 3) := by decide +kernel
theorem dX8_readText_39 : decode cX8_readText 39 = .ok (.aload_n 0, 1) := by decide +kernel
theorem dX8_readText_40 : decode cX8_readText 40 = .ok (.iconst 0, 1) := by decide +kernel
theorem dX8_readText_41 : decode cX8_readText 41 = .ok (.putfield 87, 3) := by decide +kernel
theorem dX8_readText_44 : decode cX8_readText 44 = .ok (.aload_n 0, 1) := by decide +kernel
theorem dX8_readText_45 : decode cX8_readText 45 = .ok (.invokevirtual 154, 3) := by decide +kernel
theorem dX8_readText_48 : decode cX8_readText 48 = .ok (.aload_n 0, 1) := by decide +kernel
theorem dX8_readText_49 : decode cX8_readText 49 = .ok (.getfield 97, 3) := by decide +kernel
theorem dX8_readText_52 : decode cX8_readText 52 = .ok (.ifCond .eq 17, 3) := by decide +kernel
theorem dX8_readText_55 : decode cX8_readText 55 = .ok (.aload_n 0, 1) := by decide +kernel
theorem dX8_readText_56 : decode cX8_readText 56 = .ok (.invokevirtual 223, 3) := by decide +kernel
theorem dX8_readText_59 : decode cX8_readText 59 = .ok (.istore_n 1, 1) := by decide +kernel
theorem dX8_readText_60 : decode cX8_readText 60 = .ok (.iload_n 1, 1) := by decide +kernel
theorem dX8_readText_61 : decode cX8_readText 61 = .ok (.ifCond .eq 5, 3) := by decide +kernel
theorem dX8_readText_64 : decode cX8_readText 64 = .ok (.iload_n 1, 1) := by decide +kernel
theorem dX8_readText_65 : decode cX8_readText 65 = .ok (.ireturn, 1) := by decide +kernel
theorem dX8_readText_66 : decode cX8_readText 66 = .ok (.goto (-18), 3) := by decide +kernel
theorem dX8_readText_69 : decode cX8_readText 69 = .ok (.iconst 0, 1) := by decide +kernel
theorem dX8_readText_70 : decode cX8_readText 70 = .ok (.ireturn, 1) := by decide +kernel
theorem dX8_text_0 : decode cX8_text 0 = .ok (.aload_n 0, 1) := by decide +kernel
theorem dX8_text_1 : decode cX8_text 1 = .ok (.getfield 7, 3) := by decide +kernel
theorem dX8_text_4 : decode cX8_text 4 = .ok (.iconst 3, 1) := by decide +kernel
theorem dX8_text_5 : decode cX8_text 5 = .ok (.iaload, 1) := by decide +kernel
theorem dX8_text_6 : decode cX8_text 6 = .ok (.iconst 4, 1) := by decide +kernel
theorem dX8_text_7 : decode cX8_text 7 = .ok (.if_icmp .ne 5, 3) := by decide +kernel
theorem dX8_text_10 : decode cX8_text 10 = .ok (.iconst (-1), 1) := by decide +kernel
theorem dX8_text_11 : decode cX8_text 11 = .ok (.ireturn, 1) := by decide +kernel
theorem dX8_text_12 : decode cX8_text 12 = .ok (.aload_n 0, 1) := by decide +kernel
theorem dX8_text_13 : decode cX8_text 13 = .ok (.aload_n 0, 1) := by decide +kernel
theorem dX8_text_14 : decode cX8_text 14 = .ok (.invokevirtual 226, 3) := by decide +kernel
theorem dX8_text_17 : decode cX8_text 17 = .ok (.putfield 25, 3) := by decide +kernel
theorem dX8_text_20 : decode cX8_text 20 = .ok (.aload_n 0, 1) := by decide +kernel
theorem dX8_text_21 : decode cX8_text 21 = .ok (.aload_n 0, 1) := by decide +kernel
theorem dX8_text_22 : decode cX8_text 22 = .ok (.getfield 25, 3) := by decide +kernel
theorem dX8_text_25 : decode cX8_text 25 = .ok (.ifCond .ne 7, 3) := by decide +kernel
theorem dX8_text_28 : decode cX8_text 28 = .ok (.iconst (-1), 1) := by decide +kernel
theorem dX8_text_29 : decode cX8_text 29 = .ok (.goto 7, 3) := by decide +kernel
theorem dX8_text_32 : decode cX8_text 32 = .ok (.aload_n 0, 1) := by decide +kernel
theorem dX8_text_33 : decode cX8_text 33 = .ok (.getfield 94, 3) := by decide +kernel
theorem dX8_text_36 : decode cX8_text 36 = .ok (.putfield 29, 3) := by decide +kernel
theorem dX8_text_39 : decode cX8_text 39 = .ok (.aload_n 0, 1) := by decide +kernel
theorem dX8_text_40 : decode cX8_text 40 = .ok (.iconst 0, 1) := by decide +kernel
theorem dX8_text_41 : decode cX8_text 41 = .ok (.putfield 81, 3) := by decide +kernel
theorem dX8_text_44 : decode cX8_text 44 = .ok (.aload_n 0, 1) := by decide +kernel
theorem dX8_text_45 : decode cX8_text 45 = .ok (.getfield 25, 3) := by decide +kernel
theorem dX8_text_48 : decode cX8_text 48 = .ok (.ifCond .eq 5, 3) := by decide +kernel
theorem dX8_text_51 : decode cX8_text 51 = .ok (.iconst (-1), 1) := by decide +kernel
theorem dX8_text_52 : decode cX8_text 52 = .ok (.ireturn, 1) := by decide +kernel
theorem dX8_text_53 : decode cX8_text 53 = .ok (.aload_n 0, 1) := by decide +kernel
theorem dX8_text_54 : decode cX8_text 54 = .ok (.getfield 7, 3) := by decide +kernel
theorem dX8_text_57 : decode cX8_text 57 = .ok (.iconst 3, 1) := by decide +kernel
theorem dX8_text_58 : decode cX8_text 58 = .ok (.dup2, 1) := by decide +kernel
theorem dX8_text_59 : decode cX8_text 59 = .ok (.iaload, 1) := by decide +kernel
theorem dX8_text_60 : decode cX8_text 60 = .ok (.iconst 1, 1) := by decide +kernel
theorem dX8_text_61 : decode cX8_text 61 = .ok (.iadd, 1) := by decide +kernel
theorem dX8_text_62 : decode cX8_text 62 = .ok (.iastore, 1) := by decide +kernel
theorem dX8_text_63 : decode cX8_text 63 = .ok (.aload_n 0, 1) := by decide +kernel
theorem dX8_text_64 : decode cX8_text 64 = .ok (.getfield 7, 3) := by decide +kernel
theorem dX8_text_67 : decode cX8_text 67 = .ok (.iconst 3, 1) := by decide +kernel
theorem dX8_text_68 : decode cX8_text 68 = .ok (.iaload, 1) := by decide +kernel
theorem dX8_text_69 : decode cX8_text 69 = .ok (.iconst 1, 1) := by decide +kernel
theorem dX8_text_70 : decode cX8_text 70 = .ok (.isub, 1) := by decide +kernel
theorem dX8_text_71 : decode cX8_text 71 = .ok (.ireturn, 1) := by decide +kernel
theorem dX8_fault_0 : decode cX8_fault 0 = .ok (.iload_n 1, 1) := by decide +kernel
theorem dX8_fault_1 : decode cX8_fault 1 = .ok (.ifCond .ne 10, 3) := by decide +kernel
theorem dX8_fault_4 : decode cX8_fault 4 = .ok (.aload_n 0, 1) := by decide +kernel
theorem dX8_fault_5 : decode cX8_fault 5 = .ok (.getfield 25, 3) := by decide +kernel
theorem dX8_fault_8 : decode cX8_fault 8 = .ok (.goto 16, 3) := by decide +kernel
theorem dX8_fault_11 : decode cX8_fault 11 = .ok (.iload_n 1, 1) := by decide +kernel
theorem dX8_fault_12 : decode cX8_fault 12 = .ok (.iconst 1, 1) := by decide +kernel
theorem dX8_fault_13 : decode cX8_fault 13 = .ok (.if_icmp .ne 10, 3) := by decide +kernel
theorem dX8_fault_16 : decode cX8_fault 16 = .ok (.aload_n 0, 1) := by decide +kernel
theorem dX8_fault_17 : decode cX8_fault 17 = .ok (.getfield 29, 3) := by decide +kernel
theorem dX8_fault_20 : decode cX8_fault 20 = .ok (.goto 4, 3) := by decide +kernel
theorem dX8_fault_23 : decode cX8_fault 23 = .ok (.iconst (-1), 1) := by decide +kernel
theorem dX8_fault_24 : decode cX8_fault 24 = .ok (.ireturn, 1) := by decide +kernel
theorem dX8_isText_0 : decode cX8_isText 0 = .ok (.iload_n 1, 1) := by decide +kernel
theorem dX8_isText_1 : decode cX8_isText 1 = .ok (.iconst 0, 1) := by decide +kernel
theorem dX8_isText_2 : decode cX8_isText 2 = .ok (.aload_n 0, 1) := by decide +kernel
theorem dX8_isText_3 : decode cX8_isText 3 = .ok (.getfield 7, 3) := by decide +kernel
theorem dX8_isText_6 : decode cX8_isText 6 = .ok (.iconst 3, 1) := by decide +kernel
theorem dX8_isText_7 : decode cX8_isText 7 = .ok (.iaload, 1) := by decide +kernel
theorem dX8_isText_8 : decode cX8_isText 8 = .ok (.iconst 1, 1) := by decide +kernel
theorem dX8_isText_9 : decode cX8_isText 9 = .ok (.isub, 1) := by decide +kernel
theorem dX8_isText_10 : decode cX8_isText 10 = .ok (.invokestatic 69, 3) := by decide +kernel
theorem dX8_isText_13 : decode cX8_isText 13 = .ok (.ireturn, 1) := by decide +kernel
theorem dX8_by_0 : decode cX8_by 0 = .ok (.iload_n 1, 1) := by decide +kernel
theorem dX8_by_1 : decode cX8_by 1 = .ok (.iconst (-1), 1) := by decide +kernel
theorem dX8_by_2 : decode cX8_by 2 = .ok (.if_icmp .eq 13, 3) := by decide +kernel
theorem dX8_by_5 : decode cX8_by 5 = .ok (.aload_n 0, 1) := by decide +kernel
theorem dX8_by_6 : decode cX8_by 6 = .ok (.iload_n 1, 1) := by decide +kernel
theorem dX8_by_7 : decode cX8_by 7 = .ok (.invokevirtual 229, 3) := by decide +kernel
theorem dX8_by_10 : decode cX8_by 10 = .ok (.ifCond .ne 5, 3) := by decide +kernel
theorem dX8_by_13 : decode cX8_by 13 = .ok (.iconst 0, 1) := by decide +kernel
theorem dX8_by_14 : decode cX8_by 14 = .ok (.ireturn, 1) := by decide +kernel
theorem dX8_by_15 : decode cX8_by 15 = .ok (.aload_n 0, 1) := by decide +kernel
theorem dX8_by_16 : decode cX8_by 16 = .ok (.getfield 7, 3) := by decide +kernel
theorem dX8_by_19 : decode cX8_by 19 = .ok (.iconst 4, 1) := by decide +kernel
theorem dX8_by_20 : decode cX8_by 20 = .ok (.iload_n 1, 1) := by decide +kernel
theorem dX8_by_21 : decode cX8_by 21 = .ok (.iastore, 1) := by decide +kernel
theorem dX8_by_22 : decode cX8_by 22 = .ok (.iconst 1, 1) := by decide +kernel
theorem dX8_by_23 : decode cX8_by 23 = .ok (.ireturn, 1) := by decide +kernel
theorem dX8_clip_0 : decode cX8_clip 0 = .ok (.lload_n 0, 1) := by decide +kernel
theorem dX8_clip_1 : decode cX8_clip 1 = .ok (.ldc2_w 232, 3) := by decide +kernel
theorem dX8_clip_4 : decode cX8_clip 4 = .ok (.lcmp, 1) := by decide +kernel
theorem dX8_clip_5 : decode cX8_clip 5 = .ok (.ifCond .le 9, 3) := by decide +kernel
theorem dX8_clip_8 : decode cX8_clip 8 = .ok (.ldc2_w 232, 3) := by decide +kernel
theorem dX8_clip_11 : decode cX8_clip 11 = .ok (.goto 18, 3) := by decide +kernel
theorem dX8_clip_14 : decode cX8_clip 14 = .ok (.lload_n 0, 1) := by decide +kernel
theorem dX8_clip_15 : decode cX8_clip 15 = .ok (.ldc2_w 234, 3) := by decide +kernel
theorem dX8_clip_18 : decode cX8_clip 18 = .ok (.lcmp, 1) := by decide +kernel
theorem dX8_clip_19 : decode cX8_clip 19 = .ok (.ifCond .ge 9, 3) := by decide +kernel
theorem dX8_clip_22 : decode cX8_clip 22 = .ok (.ldc2_w 234, 3) := by decide +kernel
theorem dX8_clip_25 : decode cX8_clip 25 = .ok (.goto 4, 3) := by decide +kernel
theorem dX8_clip_28 : decode cX8_clip 28 = .ok (.lload_n 0, 1) := by decide +kernel
theorem dX8_clip_29 : decode cX8_clip 29 = .ok (.lreturn, 1) := by decide +kernel
theorem dX8_two_0 : decode cX8_two 0 = .ok (.iload_n 0, 1) := by decide +kernel
theorem dX8_two_1 : decode cX8_two 1 = .ok (.tableswitch 48 3 5 #[27, 34, 41], 27) := by decide +kernel
theorem dX8_two_28 : decode cX8_two 28 = .ok (.lload_n 1, 1) := by decide +kernel
theorem dX8_two_29 : decode cX8_two 29 = .ok (.lload_n 3, 1) := by decide +kernel
theorem dX8_two_30 : decode cX8_two 30 = .ok (.ladd, 1) := by decide +kernel
theorem dX8_two_31 : decode cX8_two 31 = .ok (.invokestatic 236, 3) := by decide +kernel
theorem dX8_two_34 : decode cX8_two 34 = .ok (.lreturn, 1) := by decide +kernel
theorem dX8_two_35 : decode cX8_two 35 = .ok (.lload_n 1, 1) := by decide +kernel
theorem dX8_two_36 : decode cX8_two 36 = .ok (.lload_n 3, 1) := by decide +kernel
theorem dX8_two_37 : decode cX8_two 37 = .ok (.lsub, 1) := by decide +kernel
theorem dX8_two_38 : decode cX8_two 38 = .ok (.invokestatic 236, 3) := by decide +kernel
theorem dX8_two_41 : decode cX8_two 41 = .ok (.lreturn, 1) := by decide +kernel
theorem dX8_two_42 : decode cX8_two 42 = .ok (.lload_n 1, 1) := by decide +kernel
theorem dX8_two_43 : decode cX8_two 43 = .ok (.lload_n 3, 1) := by decide +kernel
theorem dX8_two_44 : decode cX8_two 44 = .ok (.lmul, 1) := by decide +kernel
theorem dX8_two_45 : decode cX8_two 45 = .ok (.invokestatic 236, 3) := by decide +kernel
theorem dX8_two_48 : decode cX8_two 48 = .ok (.lreturn, 1) := by decide +kernel
theorem dX8_two_49 : decode cX8_two 49 = .ok (.lload_n 3, 1) := by decide +kernel
theorem dX8_two_50 : decode cX8_two 50 = .ok (.lconst 0, 1) := by decide +kernel
theorem dX8_two_51 : decode cX8_two 51 = .ok (.lcmp, 1) := by decide +kernel
theorem dX8_two_52 : decode cX8_two 52 = .ok (.ifCond .ne 7, 3) := by decide +kernel
theorem dX8_two_55 : decode cX8_two 55 = .ok (.lconst 0, 1) := by decide +kernel
theorem dX8_two_56 : decode cX8_two 56 = .ok (.goto 9, 3) := by decide +kernel
theorem dX8_two_59 : decode cX8_two 59 = .ok (.lload_n 1, 1) := by decide +kernel
theorem dX8_two_60 : decode cX8_two 60 = .ok (.lload_n 3, 1) := by decide +kernel
theorem dX8_two_61 : decode cX8_two 61 = .ok (.ldiv, 1) := by decide +kernel
theorem dX8_two_62 : decode cX8_two 62 = .ok (.invokestatic 236, 3) := by decide +kernel
theorem dX8_two_65 : decode cX8_two 65 = .ok (.lreturn, 1) := by decide +kernel
theorem dX8_isAsked_0 : decode cX8_isAsked 0 = .ok (.iload_n 0, 1) := by decide +kernel
theorem dX8_isAsked_1 : decode cX8_isAsked 1 = .ok (.bipush 10, 2) := by decide +kernel
theorem dX8_isAsked_3 : decode cX8_isAsked 3 = .ok (.if_icmp .ne 17, 3) := by decide +kernel
theorem dX8_isAsked_6 : decode cX8_isAsked 6 = .ok (.lload_n 1, 1) := by decide +kernel
theorem dX8_isAsked_7 : decode cX8_isAsked 7 = .ok (.lload_n 3, 1) := by decide +kernel
theorem dX8_isAsked_8 : decode cX8_isAsked 8 = .ok (.lcmp, 1) := by decide +kernel
theorem dX8_isAsked_9 : decode cX8_isAsked 9 = .ok (.ifCond .ge 7, 3) := by decide +kernel
theorem dX8_isAsked_12 : decode cX8_isAsked 12 = .ok (.iconst 1, 1) := by decide +kernel
theorem dX8_isAsked_13 : decode cX8_isAsked 13 = .ok (.goto 98, 3) := by decide +kernel
theorem dX8_isAsked_16 : decode cX8_isAsked 16 = .ok (.iconst 0, 1) := by decide +kernel
theorem dX8_isAsked_17 : decode cX8_isAsked 17 = .ok (.goto 94, 3) := by decide +kernel
theorem dX8_isAsked_20 : decode cX8_isAsked 20 = .ok (.iload_n 0, 1) := by decide +kernel
theorem dX8_isAsked_21 : decode cX8_isAsked 21 = .ok (.bipush 11, 2) := by decide +kernel
theorem dX8_isAsked_23 : decode cX8_isAsked 23 = .ok (.if_icmp .ne 17, 3) := by decide +kernel
theorem dX8_isAsked_26 : decode cX8_isAsked 26 = .ok (.lload_n 1, 1) := by decide +kernel
theorem dX8_isAsked_27 : decode cX8_isAsked 27 = .ok (.lload_n 3, 1) := by decide +kernel
theorem dX8_isAsked_28 : decode cX8_isAsked 28 = .ok (.lcmp, 1) := by decide +kernel
theorem dX8_isAsked_29 : decode cX8_isAsked 29 = .ok (.ifCond .gt 7, 3) := by decide +kernel
theorem dX8_isAsked_32 : decode cX8_isAsked 32 = .ok (.iconst 1, 1) := by decide +kernel
theorem dX8_isAsked_33 : decode cX8_isAsked 33 = .ok (.goto 78, 3) := by decide +kernel
theorem dX8_isAsked_36 : decode cX8_isAsked 36 = .ok (.iconst 0, 1) := by decide +kernel
theorem dX8_isAsked_37 : decode cX8_isAsked 37 = .ok (.goto 74, 3) := by decide +kernel
theorem dX8_isAsked_40 : decode cX8_isAsked 40 = .ok (.iload_n 0, 1) := by decide +kernel
theorem dX8_isAsked_41 : decode cX8_isAsked 41 = .ok (.bipush 12, 2) := by decide +kernel
theorem dX8_isAsked_43 : decode cX8_isAsked 43 = .ok (.if_icmp .ne 17, 3) := by decide +kernel
theorem dX8_isAsked_46 : decode cX8_isAsked 46 = .ok (.lload_n 1, 1) := by decide +kernel
theorem dX8_isAsked_47 : decode cX8_isAsked 47 = .ok (.lload_n 3, 1) := by decide +kernel
theorem dX8_isAsked_48 : decode cX8_isAsked 48 = .ok (.lcmp, 1) := by decide +kernel
theorem dX8_isAsked_49 : decode cX8_isAsked 49 = .ok (.ifCond .le 7, 3) := by decide +kernel
theorem dX8_isAsked_52 : decode cX8_isAsked 52 = .ok (.iconst 1, 1) := by decide +kernel
theorem dX8_isAsked_53 : decode cX8_isAsked 53 = .ok (.goto 58, 3) := by decide +kernel
theorem dX8_isAsked_56 : decode cX8_isAsked 56 = .ok (.iconst 0, 1) := by decide +kernel
theorem dX8_isAsked_57 : decode cX8_isAsked 57 = .ok (.goto 54, 3) := by decide +kernel
theorem dX8_isAsked_60 : decode cX8_isAsked 60 = .ok (.iload_n 0, 1) := by decide +kernel
theorem dX8_isAsked_61 : decode cX8_isAsked 61 = .ok (.bipush 13, 2) := by decide +kernel
theorem dX8_isAsked_63 : decode cX8_isAsked 63 = .ok (.if_icmp .ne 17, 3) := by decide +kernel
theorem dX8_isAsked_66 : decode cX8_isAsked 66 = .ok (.lload_n 1, 1) := by decide +kernel
theorem dX8_isAsked_67 : decode cX8_isAsked 67 = .ok (.lload_n 3, 1) := by decide +kernel
theorem dX8_isAsked_68 : decode cX8_isAsked 68 = .ok (.lcmp, 1) := by decide +kernel
theorem dX8_isAsked_69 : decode cX8_isAsked 69 = .ok (.ifCond .lt 7, 3) := by decide +kernel
theorem dX8_isAsked_72 : decode cX8_isAsked 72 = .ok (.iconst 1, 1) := by decide +kernel
theorem dX8_isAsked_73 : decode cX8_isAsked 73 = .ok (.goto 38, 3) := by decide +kernel
theorem dX8_isAsked_76 : decode cX8_isAsked 76 = .ok (.iconst 0, 1) := by decide +kernel
theorem dX8_isAsked_77 : decode cX8_isAsked 77 = .ok (.goto 34, 3) := by decide +kernel
theorem dX8_isAsked_80 : decode cX8_isAsked 80 = .ok (.iload_n 0, 1) := by decide +kernel
theorem dX8_isAsked_81 : decode cX8_isAsked 81 = .ok (.bipush 14, 2) := by decide +kernel
theorem dX8_isAsked_83 : decode cX8_isAsked 83 = .ok (.if_icmp .ne 17, 3) := by decide +kernel
theorem dX8_isAsked_86 : decode cX8_isAsked 86 = .ok (.lload_n 1, 1) := by decide +kernel
theorem dX8_isAsked_87 : decode cX8_isAsked 87 = .ok (.lload_n 3, 1) := by decide +kernel
theorem dX8_isAsked_88 : decode cX8_isAsked 88 = .ok (.lcmp, 1) := by decide +kernel
theorem dX8_isAsked_89 : decode cX8_isAsked 89 = .ok (.ifCond .ne 7, 3) := by decide +kernel
theorem dX8_isAsked_92 : decode cX8_isAsked 92 = .ok (.iconst 1, 1) := by decide +kernel
theorem dX8_isAsked_93 : decode cX8_isAsked 93 = .ok (.goto 18, 3) := by decide +kernel
theorem dX8_isAsked_96 : decode cX8_isAsked 96 = .ok (.iconst 0, 1) := by decide +kernel
theorem dX8_isAsked_97 : decode cX8_isAsked 97 = .ok (.goto 14, 3) := by decide +kernel
theorem dX8_isAsked_100 : decode cX8_isAsked 100 = .ok (.lload_n 1, 1) := by decide +kernel
theorem dX8_isAsked_101 : decode cX8_isAsked 101 = .ok (.lload_n 3, 1) := by decide +kernel
theorem dX8_isAsked_102 : decode cX8_isAsked 102 = .ok (.lcmp, 1) := by decide +kernel
theorem dX8_isAsked_103 : decode cX8_isAsked 103 = .ok (.ifCond .eq 7, 3) := by decide +kernel
theorem dX8_isAsked_106 : decode cX8_isAsked 106 = .ok (.iconst 1, 1) := by decide +kernel
theorem dX8_isAsked_107 : decode cX8_isAsked 107 = .ok (.goto 4, 3) := by decide +kernel
theorem dX8_isAsked_110 : decode cX8_isAsked 110 = .ok (.iconst 0, 1) := by decide +kernel
theorem dX8_isAsked_111 : decode cX8_isAsked 111 = .ok (.ireturn, 1) := by decide +kernel
theorem dX8_work_0 : decode cX8_work 0 = .ok (.sipush 680, 3) := by decide +kernel
theorem dX8_work_3 : decode cX8_work 3 = .ok (.aload_n 0, 1) := by decide +kernel
theorem dX8_work_4 : decode cX8_work 4 = .ok (.getfield 7, 3) := by decide +kernel
theorem dX8_work_7 : decode cX8_work 7 = .ok (.iconst 4, 1) := by decide +kernel
theorem dX8_work_8 : decode cX8_work 8 = .ok (.iaload, 1) := by decide +kernel
theorem dX8_work_9 : decode cX8_work 9 = .ok (.imul, 1) := by decide +kernel
theorem dX8_work_10 : decode cX8_work 10 = .ok (.iconst 1, 1) := by decide +kernel
theorem dX8_work_11 : decode cX8_work 11 = .ok (.iadd, 1) := by decide +kernel
theorem dX8_work_12 : decode cX8_work 12 = .ok (.iconst 3, 1) := by decide +kernel
theorem dX8_work_13 : decode cX8_work 13 = .ok (.iload_n 1, 1) := by decide +kernel
theorem dX8_work_14 : decode cX8_work 14 = .ok (.imul, 1) := by decide +kernel
theorem dX8_work_15 : decode cX8_work 15 = .ok (.iadd, 1) := by decide +kernel
theorem dX8_work_16 : decode cX8_work 16 = .ok (.istore_n 2, 1) := by decide +kernel
theorem dX8_work_17 : decode cX8_work 17 = .ok (.sipush 680, 3) := by decide +kernel
theorem dX8_work_20 : decode cX8_work 20 = .ok (.aload_n 0, 1) := by decide +kernel
theorem dX8_work_21 : decode cX8_work 21 = .ok (.getfield 7, 3) := by decide +kernel
theorem dX8_work_24 : decode cX8_work 24 = .ok (.iconst 4, 1) := by decide +kernel
theorem dX8_work_25 : decode cX8_work 25 = .ok (.iaload, 1) := by decide +kernel
theorem dX8_work_26 : decode cX8_work 26 = .ok (.imul, 1) := by decide +kernel
theorem dX8_work_27 : decode cX8_work 27 = .ok (.bipush 75, 2) := by decide +kernel
theorem dX8_work_29 : decode cX8_work 29 = .ok (.iadd, 1) := by decide +kernel
theorem dX8_work_30 : decode cX8_work 30 = .ok (.istore_n 3, 1) := by decide +kernel
theorem dX8_work_31 : decode cX8_work 31 = .ok (.iconst 0, 1) := by decide +kernel
theorem dX8_work_32 : decode cX8_work 32 = .ok (.istore 4, 2) := by decide +kernel
theorem dX8_work_34 : decode cX8_work 34 = .ok (.iconst 0, 1) := by decide +kernel
theorem dX8_work_35 : decode cX8_work 35 = .ok (.istore 5, 2) := by decide +kernel
theorem dX8_work_37 : decode cX8_work 37 = .ok (.aload_n 0, 1) := by decide +kernel
theorem dX8_work_38 : decode cX8_work 38 = .ok (.getfield 19, 3) := by decide +kernel
theorem dX8_work_41 : decode cX8_work 41 = .ok (.iload_n 2, 1) := by decide +kernel
theorem dX8_work_42 : decode cX8_work 42 = .ok (.iconst 1, 1) := by decide +kernel
theorem dX8_work_43 : decode cX8_work 43 = .ok (.iadd, 1) := by decide +kernel
theorem dX8_work_44 : decode cX8_work 44 = .ok (.iaload, 1) := by decide +kernel
theorem dX8_work_45 : decode cX8_work 45 = .ok (.istore 6, 2) := by decide +kernel
theorem dX8_work_47 : decode cX8_work 47 = .ok (.iload 6, 2) := by decide +kernel
theorem dX8_work_49 : decode cX8_work 49 = .ok (.aload_n 0, 1) := by decide +kernel
theorem dX8_work_50 : decode cX8_work 50 = .ok (.getfield 19, 3) := by decide +kernel
theorem dX8_work_53 : decode cX8_work 53 = .ok (.iload_n 2, 1) := by decide +kernel
theorem dX8_work_54 : decode cX8_work 54 = .ok (.iconst 2, 1) := by decide +kernel
theorem dX8_work_55 : decode cX8_work 55 = .ok (.iadd, 1) := by decide +kernel
theorem dX8_work_56 : decode cX8_work 56 = .ok (.iaload, 1) := by decide +kernel
theorem dX8_work_57 : decode cX8_work 57 = .ok (.if_icmp .ge 302, 3) := by decide +kernel
theorem dX8_work_60 : decode cX8_work 60 = .ok (.aload_n 0, 1) := by decide +kernel
theorem dX8_work_61 : decode cX8_work 61 = .ok (.getfield 19, 3) := by decide +kernel
theorem dX8_work_64 : decode cX8_work 64 = .ok (.iload_n 3, 1) := by decide +kernel
theorem dX8_work_65 : decode cX8_work 65 = .ok (.iconst 2, 1) := by decide +kernel
theorem dX8_work_66 : decode cX8_work 66 = .ok (.iload 6, 2) := by decide +kernel
theorem dX8_work_68 : decode cX8_work 68 = .ok (.imul, 1) := by decide +kernel
theorem dX8_work_69 : decode cX8_work 69 = .ok (.iadd, 1) := by decide +kernel
theorem dX8_work_70 : decode cX8_work 70 = .ok (.iaload, 1) := by decide +kernel
theorem dX8_work_71 : decode cX8_work 71 = .ok (.istore 7, 2) := by decide +kernel
theorem dX8_work_73 : decode cX8_work 73 = .ok (.aload_n 0, 1) := by decide +kernel
theorem dX8_work_74 : decode cX8_work 74 = .ok (.getfield 19, 3) := by decide +kernel
theorem dX8_work_77 : decode cX8_work 77 = .ok (.iload_n 3, 1) := by decide +kernel
theorem dX8_work_78 : decode cX8_work 78 = .ok (.iconst 2, 1) := by decide +kernel
theorem dX8_work_79 : decode cX8_work 79 = .ok (.iload 6, 2) := by decide +kernel
theorem dX8_work_81 : decode cX8_work 81 = .ok (.imul, 1) := by decide +kernel
theorem dX8_work_82 : decode cX8_work 82 = .ok (.iadd, 1) := by decide +kernel
theorem dX8_work_83 : decode cX8_work 83 = .ok (.iconst 1, 1) := by decide +kernel
theorem dX8_work_84 : decode cX8_work 84 = .ok (.iadd, 1) := by decide +kernel
theorem dX8_work_85 : decode cX8_work 85 = .ok (.iaload, 1) := by decide +kernel
theorem dX8_work_86 : decode cX8_work 86 = .ok (.istore 8, 2) := by decide +kernel
theorem dX8_work_88 : decode cX8_work 88 = .ok (.iload 7, 2) := by decide +kernel
theorem dX8_work_90 : decode cX8_work 90 = .ok (.iconst 1, 1) := by decide +kernel
theorem dX8_work_91 : decode cX8_work 91 = .ok (.if_icmp .gt 35, 3) := by decide +kernel
theorem dX8_work_94 : decode cX8_work 94 = .ok (.aload_n 0, 1) := by decide +kernel
theorem dX8_work_95 : decode cX8_work 95 = .ok (.getfield 38, 3) := by decide +kernel
theorem dX8_work_98 : decode cX8_work 98 = .ok (.iload 4, 2) := by decide +kernel
theorem dX8_work_100 : decode cX8_work 100 = .ok (.iload 7, 2) := by decide +kernel
theorem dX8_work_102 : decode cX8_work 102 = .ok (.ifCond .ne 9, 3) := by decide +kernel
theorem dX8_work_105 : decode cX8_work 105 = .ok (.iload 8, 2) := by decide +kernel
theorem dX8_work_107 : decode cX8_work 107 = .ok (.i2l, 1) := by decide +kernel
theorem dX8_work_108 : decode cX8_work 108 = .ok (.goto 11, 3) := by decide +kernel
theorem dX8_work_111 : decode cX8_work 111 = .ok (.aload_n 0, 1) := by decide +kernel
theorem dX8_work_112 : decode cX8_work 112 = .ok (.getfield 35, 3) := by decide +kernel
theorem dX8_work_115 : decode cX8_work 115 = .ok (.iload 8, 2) := by decide +kernel
theorem dX8_work_117 : decode cX8_work 117 = .ok (.iaload, 1) := by decide +kernel
theorem dX8_work_118 : decode cX8_work 118 = .ok (.i2l, 1) := by decide +kernel
theorem dX8_work_119 : decode cX8_work 119 = .ok (.lastore, 1) := by decide +kernel
theorem dX8_work_120 : decode cX8_work 120 = .ok (.iinc 4 1, 3) := by decide +kernel
theorem dX8_work_123 : decode cX8_work 123 = .ok (.goto 230, 3) := by decide +kernel
theorem dX8_work_126 : decode cX8_work 126 = .ok (.iload 7, 2) := by decide +kernel
theorem dX8_work_128 : decode cX8_work 128 = .ok (.iconst 2, 1) := by decide +kernel
theorem dX8_work_129 : decode cX8_work 129 = .ok (.if_icmp .ne 25, 3) := by decide +kernel
theorem dX8_work_132 : decode cX8_work 132 = .ok (.aload_n 0, 1) := by decide +kernel
theorem dX8_work_133 : decode cX8_work 133 = .ok (.getfield 38, 3) := by decide +kernel
theorem dX8_work_136 : decode cX8_work 136 = .ok (.iload 4, 2) := by decide +kernel
theorem dX8_work_138 : decode cX8_work 138 = .ok (.iconst 1, 1) := by decide +kernel
theorem dX8_work_139 : decode cX8_work 139 = .ok (.isub, 1) := by decide +kernel
theorem dX8_work_140 : decode cX8_work 140 = .ok (.aload_n 0, 1) := by decide +kernel
theorem dX8_work_141 : decode cX8_work 141 = .ok (.getfield 38, 3) := by decide +kernel
theorem dX8_work_144 : decode cX8_work 144 = .ok (.iload 4, 2) := by decide +kernel
theorem dX8_work_146 : decode cX8_work 146 = .ok (.iconst 1, 1) := by decide +kernel
theorem dX8_work_147 : decode cX8_work 147 = .ok (.isub, 1) := by decide +kernel
theorem dX8_work_148 : decode cX8_work 148 = .ok (.laload, 1) := by decide +kernel
theorem dX8_work_149 : decode cX8_work 149 = .ok (.lneg, 1) := by decide +kernel
theorem dX8_work_150 : decode cX8_work 150 = .ok (.lastore, 1) := by decide +kernel
theorem dX8_work_151 : decode cX8_work 151 = .ok (.goto 202, 3) := by decide +kernel
theorem dX8_work_154 : decode cX8_work 154 = .ok (.iload 7, 2) := by decide +kernel
theorem dX8_work_156 : decode cX8_work 156 = .ok (.bipush 10, 2) := by decide +kernel
theorem dX8_work_158 : decode cX8_work 158 = .ok (.if_icmp .ge 39, 3) := by decide +kernel
theorem dX8_work_161 : decode cX8_work 161 = .ok (.iinc 4 (-1), 3) := by decide +kernel
theorem dX8_work_164 : decode cX8_work 164 = .ok (.aload_n 0, 1) := by decide +kernel
theorem dX8_work_165 : decode cX8_work 165 = .ok (.getfield 38, 3) := by decide +kernel
theorem dX8_work_168 : decode cX8_work 168 = .ok (.iload 4, 2) := by decide +kernel
theorem dX8_work_170 : decode cX8_work 170 = .ok (.iconst 1, 1) := by decide +kernel
theorem dX8_work_171 : decode cX8_work 171 = .ok (.isub, 1) := by decide +kernel
theorem dX8_work_172 : decode cX8_work 172 = .ok (.iload 7, 2) := by decide +kernel
theorem dX8_work_174 : decode cX8_work 174 = .ok (.aload_n 0, 1) := by decide +kernel
theorem dX8_work_175 : decode cX8_work 175 = .ok (.getfield 38, 3) := by decide +kernel
theorem dX8_work_178 : decode cX8_work 178 = .ok (.iload 4, 2) := by decide +kernel
theorem dX8_work_180 : decode cX8_work 180 = .ok (.iconst 1, 1) := by decide +kernel
theorem dX8_work_181 : decode cX8_work 181 = .ok (.isub, 1) := by decide +kernel
theorem dX8_work_182 : decode cX8_work 182 = .ok (.laload, 1) := by decide +kernel
theorem dX8_work_183 : decode cX8_work 183 = .ok (.aload_n 0, 1) := by decide +kernel
theorem dX8_work_184 : decode cX8_work 184 = .ok (.getfield 38, 3) := by decide +kernel
theorem dX8_work_187 : decode cX8_work 187 = .ok (.iload 4, 2) := by decide +kernel
theorem dX8_work_189 : decode cX8_work 189 = .ok (.laload, 1) := by decide +kernel
theorem dX8_work_190 : decode cX8_work 190 = .ok (.invokestatic 240, 3) := by decide +kernel
theorem dX8_work_193 : decode cX8_work 193 = .ok (.lastore, 1) := by decide +kernel
theorem dX8_work_194 : decode cX8_work 194 = .ok (.goto 159, 3) := by decide +kernel
theorem dX8_work_197 : decode cX8_work 197 = .ok (.iload 7, 2) := by decide +kernel
theorem dX8_work_199 : decode cX8_work 199 = .ok (.bipush 20, 2) := by decide +kernel
theorem dX8_work_201 : decode cX8_work 201 = .ok (.if_icmp .ge 40, 3) := by decide +kernel
theorem dX8_work_204 : decode cX8_work 204 = .ok (.iinc 4 (-2), 3) := by decide +kernel
theorem dX8_work_207 : decode cX8_work 207 = .ok (.aload_n 0, 1) := by decide +kernel
theorem dX8_work_208 : decode cX8_work 208 = .ok (.getfield 42, 3) := by decide +kernel
theorem dX8_work_211 : decode cX8_work 211 = .ok (.iload 5, 2) := by decide +kernel
theorem dX8_work_213 : decode cX8_work 213 = .ok (.iload 7, 2) := by decide +kernel
theorem dX8_work_215 : decode cX8_work 215 = .ok (.aload_n 0, 1) := by decide +kernel
theorem dX8_work_216 : decode cX8_work 216 = .ok (.getfield 38, 3) := by decide +kernel
theorem dX8_work_219 : decode cX8_work 219 = .ok (.iload 4, 2) := by decide +kernel
theorem dX8_work_221 : decode cX8_work 221 = .ok (.laload, 1) := by decide +kernel
theorem dX8_work_222 : decode cX8_work 222 = .ok (.aload_n 0, 1) := by decide +kernel
theorem dX8_work_223 : decode cX8_work 223 = .ok (.getfield 38, 3) := by decide +kernel
theorem dX8_work_226 : decode cX8_work 226 = .ok (.iload 4, 2) := by decide +kernel
theorem dX8_work_228 : decode cX8_work 228 = .ok (.iconst 1, 1) := by decide +kernel
theorem dX8_work_229 : decode cX8_work 229 = .ok (.iadd, 1) := by decide +kernel
theorem dX8_work_230 : decode cX8_work 230 = .ok (.laload, 1) := by decide +kernel
theorem dX8_work_231 : decode cX8_work 231 = .ok (.invokestatic 244, 3) := by decide +kernel
theorem dX8_work_234 : decode cX8_work 234 = .ok (.bastore, 1) := by decide +kernel
theorem dX8_work_235 : decode cX8_work 235 = .ok (.iinc 5 1, 3) := by decide +kernel
theorem dX8_work_238 : decode cX8_work 238 = .ok (.goto 115, 3) := by decide +kernel
theorem dX8_work_241 : decode cX8_work 241 = .ok (.iload 7, 2) := by decide +kernel
theorem dX8_work_243 : decode cX8_work 243 = .ok (.bipush 20, 2) := by decide +kernel
theorem dX8_work_245 : decode cX8_work 245 = .ok (.if_icmp .ne 32, 3) := by decide +kernel
theorem dX8_work_248 : decode cX8_work 248 = .ok (.aload_n 0, 1) := by decide +kernel
theorem dX8_work_249 : decode cX8_work 249 = .ok (.getfield 42, 3) := by decide +kernel
theorem dX8_work_252 : decode cX8_work 252 = .ok (.iload 5, 2) := by decide +kernel
theorem dX8_work_254 : decode cX8_work 254 = .ok (.iconst 1, 1) := by decide +kernel
theorem dX8_work_255 : decode cX8_work 255 = .ok (.isub, 1) := by decide +kernel
theorem dX8_work_256 : decode cX8_work 256 = .ok (.aload_n 0, 1) := by decide +kernel
theorem dX8_work_257 : decode cX8_work 257 = .ok (.getfield 42, 3) := by decide +kernel
theorem dX8_work_260 : decode cX8_work 260 = .ok (.iload 5, 2) := by decide +kernel
theorem dX8_work_262 : decode cX8_work 262 = .ok (.iconst 1, 1) := by decide +kernel
theorem dX8_work_263 : decode cX8_work 263 = .ok (.isub, 1) := by decide +kernel
theorem dX8_work_264 : decode cX8_work 264 = .ok (.baload, 1) := by decide +kernel
theorem dX8_work_265 : decode cX8_work 265 = .ok (.ifCond .ne 7, 3) := by decide +kernel
theorem dX8_work_268 : decode cX8_work 268 = .ok (.iconst 1, 1) := by decide +kernel
theorem dX8_work_269 : decode cX8_work 269 = .ok (.goto 4, 3) := by decide +kernel
theorem dX8_work_272 : decode cX8_work 272 = .ok (.iconst 0, 1) := by decide +kernel
theorem dX8_work_273 : decode cX8_work 273 = .ok (.bastore, 1) := by decide +kernel
theorem dX8_work_274 : decode cX8_work 274 = .ok (.goto 79, 3) := by decide +kernel
theorem dX8_work_277 : decode cX8_work 277 = .ok (.iinc 5 (-1), 3) := by decide +kernel
theorem dX8_work_280 : decode cX8_work 280 = .ok (.aload_n 0, 1) := by decide +kernel
theorem dX8_work_281 : decode cX8_work 281 = .ok (.getfield 42, 3) := by decide +kernel
theorem dX8_work_284 : decode cX8_work 284 = .ok (.iload 5, 2) := by decide +kernel
theorem dX8_work_286 : decode cX8_work 286 = .ok (.iconst 1, 1) := by decide +kernel
theorem dX8_work_287 : decode cX8_work 287 = .ok (.isub, 1) := by decide +kernel
theorem dX8_work_288 : decode cX8_work 288 = .ok (.iload 7, 2) := by decide +kernel
theorem dX8_work_290 : decode cX8_work 290 = .ok (.bipush 21, 2) := by decide +kernel
theorem dX8_work_292 : decode cX8_work 292 = .ok (.if_icmp .ne 33, 3) := by decide +kernel
theorem dX8_work_295 : decode cX8_work 295 = .ok (.aload_n 0, 1) := by decide +kernel
theorem dX8_work_296 : decode cX8_work 296 = .ok (.getfield 42, 3) := by decide +kernel
theorem dX8_work_299 : decode cX8_work 299 = .ok (.iload 5, 2) := by decide +kernel
theorem dX8_work_301 : decode cX8_work 301 = .ok (.iconst 1, 1) := by decide +kernel
theorem dX8_work_302 : decode cX8_work 302 = .ok (.isub, 1) := by decide +kernel
theorem dX8_work_303 : decode cX8_work 303 = .ok (.baload, 1) := by decide +kernel
theorem dX8_work_304 : decode cX8_work 304 = .ok (.ifCond .eq 17, 3) := by decide +kernel
theorem dX8_work_307 : decode cX8_work 307 = .ok (.aload_n 0, 1) := by decide +kernel
theorem dX8_work_308 : decode cX8_work 308 = .ok (.getfield 42, 3) := by decide +kernel
theorem dX8_work_311 : decode cX8_work 311 = .ok (.iload 5, 2) := by decide +kernel
theorem dX8_work_313 : decode cX8_work 313 = .ok (.baload, 1) := by decide +kernel
theorem dX8_work_314 : decode cX8_work 314 = .ok (.ifCond .eq 7, 3) := by decide +kernel
theorem dX8_work_317 : decode cX8_work 317 = .ok (.iconst 1, 1) := by decide +kernel
theorem dX8_work_318 : decode cX8_work 318 = .ok (.goto 34, 3) := by decide +kernel
theorem dX8_work_321 : decode cX8_work 321 = .ok (.iconst 0, 1) := by decide +kernel
theorem dX8_work_322 : decode cX8_work 322 = .ok (.goto 30, 3) := by decide +kernel
theorem dX8_work_325 : decode cX8_work 325 = .ok (.aload_n 0, 1) := by decide +kernel
theorem dX8_work_326 : decode cX8_work 326 = .ok (.getfield 42, 3) := by decide +kernel
theorem dX8_work_329 : decode cX8_work 329 = .ok (.iload 5, 2) := by decide +kernel
theorem dX8_work_331 : decode cX8_work 331 = .ok (.iconst 1, 1) := by decide +kernel
theorem dX8_work_332 : decode cX8_work 332 = .ok (.isub, 1) := by decide +kernel
theorem dX8_work_333 : decode cX8_work 333 = .ok (.baload, 1) := by decide +kernel
theorem dX8_work_334 : decode cX8_work 334 = .ok (.ifCond .ne 13, 3) := by decide +kernel
theorem dX8_work_337 : decode cX8_work 337 = .ok (.aload_n 0, 1) := by decide +kernel
theorem dX8_work_338 : decode cX8_work 338 = .ok (.getfield 42, 3) := by decide +kernel
theorem dX8_work_341 : decode cX8_work 341 = .ok (.iload 5, 2) := by decide +kernel
theorem dX8_work_343 : decode cX8_work 343 = .ok (.baload, 1) := by decide +kernel
theorem dX8_work_344 : decode cX8_work 344 = .ok (.ifCond .eq 7, 3) := by decide +kernel
theorem dX8_work_347 : decode cX8_work 347 = .ok (.iconst 1, 1) := by decide +kernel
theorem dX8_work_348 : decode cX8_work 348 = .ok (.goto 4, 3) := by decide +kernel
theorem dX8_work_351 : decode cX8_work 351 = .ok (.iconst 0, 1) := by decide +kernel
theorem dX8_work_352 : decode cX8_work 352 = .ok (.bastore, 1) := by decide +kernel
theorem dX8_work_353 : decode cX8_work 353 = .ok (.iinc 6 1, 3) := by decide +kernel
theorem dX8_work_356 : decode cX8_work 356 = .ok (.goto (-309), 3) := by decide +kernel
theorem dX8_work_359 : decode cX8_work 359 = .ok (.return_, 1) := by decide +kernel
theorem dX8_clauseOf_0 : decode cX8_clauseOf 0 = .ok (.iconst 0, 1) := by decide +kernel
theorem dX8_clauseOf_1 : decode cX8_clauseOf 1 = .ok (.istore_n 2, 1) := by decide +kernel
theorem dX8_clauseOf_2 : decode cX8_clauseOf 2 = .ok (.aload_n 0, 1) := by decide +kernel
theorem dX8_clauseOf_3 : decode cX8_clauseOf 3 = .ok (.getfield 7, 3) := by decide +kernel
theorem dX8_clauseOf_6 : decode cX8_clauseOf 6 = .ok (.iconst 4, 1) := by decide +kernel
theorem dX8_clauseOf_7 : decode cX8_clauseOf 7 = .ok (.iaload, 1) := by decide +kernel
theorem dX8_clauseOf_8 : decode cX8_clauseOf 8 = .ok (.ifCond .lt 55, 3) := by decide +kernel
theorem dX8_clauseOf_11 : decode cX8_clauseOf 11 = .ok (.iload_n 2, 1) := by decide +kernel
theorem dX8_clauseOf_12 : decode cX8_clauseOf 12 = .ok (.aload_n 0, 1) := by decide +kernel
theorem dX8_clauseOf_13 : decode cX8_clauseOf 13 = .ok (.getfield 19, 3) := by decide +kernel
theorem dX8_clauseOf_16 : decode cX8_clauseOf 16 = .ok (.sipush 680, 3) := by decide +kernel
theorem dX8_clauseOf_19 : decode cX8_clauseOf 19 = .ok (.aload_n 0, 1) := by decide +kernel
theorem dX8_clauseOf_20 : decode cX8_clauseOf 20 = .ok (.getfield 7, 3) := by decide +kernel
theorem dX8_clauseOf_23 : decode cX8_clauseOf 23 = .ok (.iconst 4, 1) := by decide +kernel
theorem dX8_clauseOf_24 : decode cX8_clauseOf 24 = .ok (.iaload, 1) := by decide +kernel
theorem dX8_clauseOf_25 : decode cX8_clauseOf 25 = .ok (.imul, 1) := by decide +kernel
theorem dX8_clauseOf_26 : decode cX8_clauseOf 26 = .ok (.iaload, 1) := by decide +kernel
theorem dX8_clauseOf_27 : decode cX8_clauseOf 27 = .ok (.if_icmp .ge 36, 3) := by decide +kernel
theorem dX8_clauseOf_30 : decode cX8_clauseOf 30 = .ok (.aload_n 0, 1) := by decide +kernel
theorem dX8_clauseOf_31 : decode cX8_clauseOf 31 = .ok (.getfield 19, 3) := by decide +kernel
theorem dX8_clauseOf_34 : decode cX8_clauseOf 34 = .ok (.sipush 680, 3) := by decide +kernel
theorem dX8_clauseOf_37 : decode cX8_clauseOf 37 = .ok (.aload_n 0, 1) := by decide +kernel
theorem dX8_clauseOf_38 : decode cX8_clauseOf 38 = .ok (.getfield 7, 3) := by decide +kernel
theorem dX8_clauseOf_41 : decode cX8_clauseOf 41 = .ok (.iconst 4, 1) := by decide +kernel
theorem dX8_clauseOf_42 : decode cX8_clauseOf 42 = .ok (.iaload, 1) := by decide +kernel
theorem dX8_clauseOf_43 : decode cX8_clauseOf 43 = .ok (.imul, 1) := by decide +kernel
theorem dX8_clauseOf_44 : decode cX8_clauseOf 44 = .ok (.iconst 1, 1) := by decide +kernel
theorem dX8_clauseOf_45 : decode cX8_clauseOf 45 = .ok (.iadd, 1) := by decide +kernel
theorem dX8_clauseOf_46 : decode cX8_clauseOf 46 = .ok (.iconst 3, 1) := by decide +kernel
theorem dX8_clauseOf_47 : decode cX8_clauseOf 47 = .ok (.iload_n 2, 1) := by decide +kernel
theorem dX8_clauseOf_48 : decode cX8_clauseOf 48 = .ok (.imul, 1) := by decide +kernel
theorem dX8_clauseOf_49 : decode cX8_clauseOf 49 = .ok (.iadd, 1) := by decide +kernel
theorem dX8_clauseOf_50 : decode cX8_clauseOf 50 = .ok (.iaload, 1) := by decide +kernel
theorem dX8_clauseOf_51 : decode cX8_clauseOf 51 = .ok (.iload_n 1, 1) := by decide +kernel
theorem dX8_clauseOf_52 : decode cX8_clauseOf 52 = .ok (.if_icmp .ne 5, 3) := by decide +kernel
theorem dX8_clauseOf_55 : decode cX8_clauseOf 55 = .ok (.iload_n 2, 1) := by decide +kernel
theorem dX8_clauseOf_56 : decode cX8_clauseOf 56 = .ok (.ireturn, 1) := by decide +kernel
theorem dX8_clauseOf_57 : decode cX8_clauseOf 57 = .ok (.iinc 2 1, 3) := by decide +kernel
theorem dX8_clauseOf_60 : decode cX8_clauseOf 60 = .ok (.goto (-58), 3) := by decide +kernel
theorem dX8_clauseOf_63 : decode cX8_clauseOf 63 = .ok (.iconst (-1), 1) := by decide +kernel
theorem dX8_clauseOf_64 : decode cX8_clauseOf 64 = .ok (.ireturn, 1) := by decide +kernel
theorem dX8_name_0 : decode cX8_name 0 = .ok (.aload_n 0, 1) := by decide +kernel
theorem dX8_name_1 : decode cX8_name 1 = .ok (.getfield 35, 3) := by decide +kernel
theorem dX8_name_4 : decode cX8_name 4 = .ok (.iconst 0, 1) := by decide +kernel
theorem dX8_name_5 : decode cX8_name 5 = .ok (.iload_n 1, 1) := by decide +kernel
theorem dX8_name_6 : decode cX8_name 6 = .ok (.iastore, 1) := by decide +kernel
theorem dX8_name_7 : decode cX8_name 7 = .ok (.aload_n 0, 1) := by decide +kernel
theorem dX8_name_8 : decode cX8_name 8 = .ok (.getfield 35, 3) := by decide +kernel
theorem dX8_name_11 : decode cX8_name 11 = .ok (.iconst 1, 1) := by decide +kernel
theorem dX8_name_12 : decode cX8_name 12 = .ok (.aload_n 0, 1) := by decide +kernel
theorem dX8_name_13 : decode cX8_name 13 = .ok (.iload_n 1, 1) := by decide +kernel
theorem dX8_name_14 : decode cX8_name 14 = .ok (.iconst 0, 1) := by decide +kernel
theorem dX8_name_15 : decode cX8_name 15 = .ok (.invokevirtual 77, 3) := by decide +kernel
theorem dX8_name_18 : decode cX8_name 18 = .ok (.iastore, 1) := by decide +kernel
theorem dX8_name_19 : decode cX8_name 19 = .ok (.aload_n 0, 1) := by decide +kernel
theorem dX8_name_20 : decode cX8_name 20 = .ok (.getfield 35, 3) := by decide +kernel
theorem dX8_name_23 : decode cX8_name 23 = .ok (.iconst 2, 1) := by decide +kernel
theorem dX8_name_24 : decode cX8_name 24 = .ok (.aload_n 0, 1) := by decide +kernel
theorem dX8_name_25 : decode cX8_name 25 = .ok (.iload_n 1, 1) := by decide +kernel
theorem dX8_name_26 : decode cX8_name 26 = .ok (.iconst 1, 1) := by decide +kernel
theorem dX8_name_27 : decode cX8_name 27 = .ok (.invokevirtual 77, 3) := by decide +kernel
theorem dX8_name_30 : decode cX8_name 30 = .ok (.iastore, 1) := by decide +kernel
theorem dX8_name_31 : decode cX8_name 31 = .ok (.aload_n 0, 1) := by decide +kernel
theorem dX8_name_32 : decode cX8_name 32 = .ok (.getfield 35, 3) := by decide +kernel
theorem dX8_name_35 : decode cX8_name 35 = .ok (.iconst 3, 1) := by decide +kernel
theorem dX8_name_36 : decode cX8_name 36 = .ok (.iload_n 2, 1) := by decide +kernel
theorem dX8_name_37 : decode cX8_name 37 = .ok (.iastore, 1) := by decide +kernel
theorem dX8_name_38 : decode cX8_name 38 = .ok (.aload_n 0, 1) := by decide +kernel
theorem dX8_name_39 : decode cX8_name 39 = .ok (.getfield 35, 3) := by decide +kernel
theorem dX8_name_42 : decode cX8_name 42 = .ok (.iconst 4, 1) := by decide +kernel
theorem dX8_name_43 : decode cX8_name 43 = .ok (.iload_n 2, 1) := by decide +kernel
theorem dX8_name_44 : decode cX8_name 44 = .ok (.aload_n 0, 1) := by decide +kernel
theorem dX8_name_45 : decode cX8_name 45 = .ok (.iload_n 1, 1) := by decide +kernel
theorem dX8_name_46 : decode cX8_name 46 = .ok (.iconst 3, 1) := by decide +kernel
theorem dX8_name_47 : decode cX8_name 47 = .ok (.invokevirtual 77, 3) := by decide +kernel
theorem dX8_name_50 : decode cX8_name 50 = .ok (.isub, 1) := by decide +kernel
theorem dX8_name_51 : decode cX8_name 51 = .ok (.iastore, 1) := by decide +kernel
theorem dX8_name_52 : decode cX8_name 52 = .ok (.aload_n 0, 1) := by decide +kernel
theorem dX8_name_53 : decode cX8_name 53 = .ok (.getfield 35, 3) := by decide +kernel
theorem dX8_name_56 : decode cX8_name 56 = .ok (.iconst 5, 1) := by decide +kernel
theorem dX8_name_57 : decode cX8_name 57 = .ok (.iload_n 3, 1) := by decide +kernel
theorem dX8_name_58 : decode cX8_name 58 = .ok (.iastore, 1) := by decide +kernel
theorem dX8_name_59 : decode cX8_name 59 = .ok (.return_, 1) := by decide +kernel
theorem dX8_sees_0 : decode cX8_sees 0 = .ok (.aload_n 0, 1) := by decide +kernel
theorem dX8_sees_1 : decode cX8_sees 1 = .ok (.iconst 0, 1) := by decide +kernel
theorem dX8_sees_2 : decode cX8_sees 2 = .ok (.invokevirtual 248, 3) := by decide +kernel
theorem dX8_sees_5 : decode cX8_sees 5 = .ok (.istore 6, 2) := by decide +kernel
theorem dX8_sees_7 : decode cX8_sees 7 = .ok (.iload 6, 2) := by decide +kernel
theorem dX8_sees_9 : decode cX8_sees 9 = .ok (.ifCond .ge 5, 3) := by decide +kernel
theorem dX8_sees_12 : decode cX8_sees 12 = .ok (.iconst 1, 1) := by decide +kernel
theorem dX8_sees_13 : decode cX8_sees 13 = .ok (.ireturn, 1) := by decide +kernel
theorem dX8_sees_14 : decode cX8_sees 14 = .ok (.aload_n 0, 1) := by decide +kernel
theorem dX8_sees_15 : decode cX8_sees 15 = .ok (.iload_n 1, 1) := by decide +kernel
theorem dX8_sees_16 : decode cX8_sees 16 = .ok (.iload_n 2, 1) := by decide +kernel
theorem dX8_sees_17 : decode cX8_sees 17 = .ok (.iload_n 3, 1) := by decide +kernel
theorem dX8_sees_18 : decode cX8_sees 18 = .ok (.invokevirtual 251, 3) := by decide +kernel
theorem dX8_sees_21 : decode cX8_sees 21 = .ok (.aload_n 0, 1) := by decide +kernel
theorem dX8_sees_22 : decode cX8_sees 22 = .ok (.getfield 35, 3) := by decide +kernel
theorem dX8_sees_25 : decode cX8_sees 25 = .ok (.bipush 6, 2) := by decide +kernel
theorem dX8_sees_27 : decode cX8_sees 27 = .ok (.iload 4, 2) := by decide +kernel
theorem dX8_sees_29 : decode cX8_sees 29 = .ok (.iastore, 1) := by decide +kernel
theorem dX8_sees_30 : decode cX8_sees 30 = .ok (.aload_n 0, 1) := by decide +kernel
theorem dX8_sees_31 : decode cX8_sees 31 = .ok (.getfield 35, 3) := by decide +kernel
theorem dX8_sees_34 : decode cX8_sees 34 = .ok (.bipush 7, 2) := by decide +kernel
theorem dX8_sees_36 : decode cX8_sees 36 = .ok (.aload_n 0, 1) := by decide +kernel
theorem dX8_sees_37 : decode cX8_sees 37 = .ok (.getfield 7, 3) := by decide +kernel
theorem dX8_sees_40 : decode cX8_sees 40 = .ok (.bipush 8, 2) := by decide +kernel
theorem dX8_sees_42 : decode cX8_sees 42 = .ok (.iload 4, 2) := by decide +kernel
theorem dX8_sees_44 : decode cX8_sees 44 = .ok (.iadd, 1) := by decide +kernel
theorem dX8_sees_45 : decode cX8_sees 45 = .ok (.iaload, 1) := by decide +kernel
theorem dX8_sees_46 : decode cX8_sees 46 = .ok (.iastore, 1) := by decide +kernel
theorem dX8_sees_47 : decode cX8_sees 47 = .ok (.aload_n 0, 1) := by decide +kernel
theorem dX8_sees_48 : decode cX8_sees 48 = .ok (.getfield 35, 3) := by decide +kernel
theorem dX8_sees_51 : decode cX8_sees 51 = .ok (.bipush 8, 2) := by decide +kernel
theorem dX8_sees_53 : decode cX8_sees 53 = .ok (.iload 5, 2) := by decide +kernel
theorem dX8_sees_55 : decode cX8_sees 55 = .ok (.iastore, 1) := by decide +kernel
theorem dX8_sees_56 : decode cX8_sees 56 = .ok (.aload_n 0, 1) := by decide +kernel
theorem dX8_sees_57 : decode cX8_sees 57 = .ok (.iload 6, 2) := by decide +kernel
theorem dX8_sees_59 : decode cX8_sees 59 = .ok (.invokevirtual 254, 3) := by decide +kernel
theorem dX8_sees_62 : decode cX8_sees 62 = .ok (.aload_n 0, 1) := by decide +kernel
theorem dX8_sees_63 : decode cX8_sees 63 = .ok (.getfield 42, 3) := by decide +kernel
theorem dX8_sees_66 : decode cX8_sees 66 = .ok (.iconst 0, 1) := by decide +kernel
theorem dX8_sees_67 : decode cX8_sees 67 = .ok (.baload, 1) := by decide +kernel
theorem dX8_sees_68 : decode cX8_sees 68 = .ok (.ireturn, 1) := by decide +kernel
theorem dX8_rubsOf_0 : decode cX8_rubsOf 0 = .ok (.aload_n 0, 1) := by decide +kernel
theorem dX8_rubsOf_1 : decode cX8_rubsOf 1 = .ok (.iconst 1, 1) := by decide +kernel
theorem dX8_rubsOf_2 : decode cX8_rubsOf 2 = .ok (.invokevirtual 248, 3) := by decide +kernel
theorem dX8_rubsOf_5 : decode cX8_rubsOf 5 = .ok (.istore_n 2, 1) := by decide +kernel
theorem dX8_rubsOf_6 : decode cX8_rubsOf 6 = .ok (.iload_n 2, 1) := by decide +kernel
theorem dX8_rubsOf_7 : decode cX8_rubsOf 7 = .ok (.ifCond .ge 5, 3) := by decide +kernel
theorem dX8_rubsOf_10 : decode cX8_rubsOf 10 = .ok (.iconst 1, 1) := by decide +kernel
theorem dX8_rubsOf_11 : decode cX8_rubsOf 11 = .ok (.ireturn, 1) := by decide +kernel
theorem dX8_rubsOf_12 : decode cX8_rubsOf 12 = .ok (.aload_n 0, 1) := by decide +kernel
theorem dX8_rubsOf_13 : decode cX8_rubsOf 13 = .ok (.iload_n 1, 1) := by decide +kernel
theorem dX8_rubsOf_14 : decode cX8_rubsOf 14 = .ok (.aload_n 0, 1) := by decide +kernel
theorem dX8_rubsOf_15 : decode cX8_rubsOf 15 = .ok (.getfield 7, 3) := by decide +kernel
theorem dX8_rubsOf_18 : decode cX8_rubsOf 18 = .ok (.iconst 2, 1) := by decide +kernel
theorem dX8_rubsOf_19 : decode cX8_rubsOf 19 = .ok (.iaload, 1) := by decide +kernel
theorem dX8_rubsOf_20 : decode cX8_rubsOf 20 = .ok (.aload_n 0, 1) := by decide +kernel
theorem dX8_rubsOf_21 : decode cX8_rubsOf 21 = .ok (.iload_n 1, 1) := by decide +kernel
theorem dX8_rubsOf_22 : decode cX8_rubsOf 22 = .ok (.invokevirtual 257, 3) := by decide +kernel
theorem dX8_rubsOf_25 : decode cX8_rubsOf 25 = .ok (.invokevirtual 251, 3) := by decide +kernel
theorem dX8_rubsOf_28 : decode cX8_rubsOf 28 = .ok (.aload_n 0, 1) := by decide +kernel
theorem dX8_rubsOf_29 : decode cX8_rubsOf 29 = .ok (.iload_n 2, 1) := by decide +kernel
theorem dX8_rubsOf_30 : decode cX8_rubsOf 30 = .ok (.invokevirtual 254, 3) := by decide +kernel
theorem dX8_rubsOf_33 : decode cX8_rubsOf 33 = .ok (.aload_n 0, 1) := by decide +kernel
theorem dX8_rubsOf_34 : decode cX8_rubsOf 34 = .ok (.getfield 38, 3) := by decide +kernel
theorem dX8_rubsOf_37 : decode cX8_rubsOf 37 = .ok (.iconst 0, 1) := by decide +kernel
theorem dX8_rubsOf_38 : decode cX8_rubsOf 38 = .ok (.laload, 1) := by decide +kernel
theorem dX8_rubsOf_39 : decode cX8_rubsOf 39 = .ok (.lconst 0, 1) := by decide +kernel
theorem dX8_rubsOf_40 : decode cX8_rubsOf 40 = .ok (.lcmp, 1) := by decide +kernel
theorem dX8_rubsOf_41 : decode cX8_rubsOf 41 = .ok (.ifCond .ge 7, 3) := by decide +kernel
theorem dX8_rubsOf_44 : decode cX8_rubsOf 44 = .ok (.iconst 0, 1) := by decide +kernel
theorem dX8_rubsOf_45 : decode cX8_rubsOf 45 = .ok (.goto 28, 3) := by decide +kernel
theorem dX8_rubsOf_48 : decode cX8_rubsOf 48 = .ok (.aload_n 0, 1) := by decide +kernel
theorem dX8_rubsOf_49 : decode cX8_rubsOf 49 = .ok (.getfield 38, 3) := by decide +kernel
theorem dX8_rubsOf_52 : decode cX8_rubsOf 52 = .ok (.iconst 0, 1) := by decide +kernel
theorem dX8_rubsOf_53 : decode cX8_rubsOf 53 = .ok (.laload, 1) := by decide +kernel
theorem dX8_rubsOf_54 : decode cX8_rubsOf 54 = .ok (.ldc2_w 260, 3) := by decide +kernel
theorem dX8_rubsOf_57 : decode cX8_rubsOf 57 = .ok (.lcmp, 1) := by decide +kernel
theorem dX8_rubsOf_58 : decode cX8_rubsOf 58 = .ok (.ifCond .le 8, 3) := by decide +kernel
theorem dX8_rubsOf_61 : decode cX8_rubsOf 61 = .ok (.bipush 99, 2) := by decide +kernel
theorem dX8_rubsOf_63 : decode cX8_rubsOf 63 = .ok (.goto 10, 3) := by decide +kernel
theorem dX8_rubsOf_66 : decode cX8_rubsOf 66 = .ok (.aload_n 0, 1) := by decide +kernel
theorem dX8_rubsOf_67 : decode cX8_rubsOf 67 = .ok (.getfield 38, 3) := by decide +kernel
theorem dX8_rubsOf_70 : decode cX8_rubsOf 70 = .ok (.iconst 0, 1) := by decide +kernel
theorem dX8_rubsOf_71 : decode cX8_rubsOf 71 = .ok (.laload, 1) := by decide +kernel
theorem dX8_rubsOf_72 : decode cX8_rubsOf 72 = .ok (.l2i, 1) := by decide +kernel
theorem dX8_rubsOf_73 : decode cX8_rubsOf 73 = .ok (.ireturn, 1) := by decide +kernel
theorem dX8_keep_0 : decode cX8_keep 0 = .ok (.aload_n 0, 1) := by decide +kernel
theorem dX8_keep_1 : decode cX8_keep 1 = .ok (.getfield 7, 3) := by decide +kernel
theorem dX8_keep_4 : decode cX8_keep 4 = .ok (.iconst 5, 1) := by decide +kernel
theorem dX8_keep_5 : decode cX8_keep 5 = .ok (.iaload, 1) := by decide +kernel
theorem dX8_keep_6 : decode cX8_keep 6 = .ok (.bipush 30, 2) := by decide +kernel
theorem dX8_keep_8 : decode cX8_keep 8 = .ok (.if_icmp .ne 47, 3) := by decide +kernel
theorem dX8_keep_11 : decode cX8_keep 11 = .ok (.iconst 0, 1) := by decide +kernel
theorem dX8_keep_12 : decode cX8_keep 12 = .ok (.istore_n 1, 1) := by decide +kernel
theorem dX8_keep_13 : decode cX8_keep 13 = .ok (.iload_n 1, 1) := by decide +kernel
theorem dX8_keep_14 : decode cX8_keep 14 = .ok (.sipush 1450, 3) := by decide +kernel
theorem dX8_keep_17 : decode cX8_keep 17 = .ok (.if_icmp .ge 28, 3) := by decide +kernel
theorem dX8_keep_20 : decode cX8_keep 20 = .ok (.aload_n 0, 1) := by decide +kernel
theorem dX8_keep_21 : decode cX8_keep 21 = .ok (.getfield 7, 3) := by decide +kernel
theorem dX8_keep_24 : decode cX8_keep 24 = .ok (.bipush 84, 2) := by decide +kernel
theorem dX8_keep_26 : decode cX8_keep 26 = .ok (.iload_n 1, 1) := by decide +kernel
theorem dX8_keep_27 : decode cX8_keep 27 = .ok (.iadd, 1) := by decide +kernel
theorem dX8_keep_28 : decode cX8_keep 28 = .ok (.aload_n 0, 1) := by decide +kernel
theorem dX8_keep_29 : decode cX8_keep 29 = .ok (.getfield 7, 3) := by decide +kernel
theorem dX8_keep_32 : decode cX8_keep 32 = .ok (.sipush 134, 3) := by decide +kernel
theorem dX8_keep_35 : decode cX8_keep 35 = .ok (.iload_n 1, 1) := by decide +kernel
theorem dX8_keep_36 : decode cX8_keep 36 = .ok (.iadd, 1) := by decide +kernel
theorem dX8_keep_37 : decode cX8_keep 37 = .ok (.iaload, 1) := by decide +kernel
theorem dX8_keep_38 : decode cX8_keep 38 = .ok (.iastore, 1) := by decide +kernel
theorem dX8_keep_39 : decode cX8_keep 39 = .ok (.iinc 1 1, 3) := by decide +kernel
theorem dX8_keep_42 : decode cX8_keep 42 = .ok (.goto (-29), 3) := by decide +kernel
theorem dX8_keep_45 : decode cX8_keep 45 = .ok (.aload_n 0, 1) := by decide +kernel
theorem dX8_keep_46 : decode cX8_keep 46 = .ok (.getfield 7, 3) := by decide +kernel
theorem dX8_keep_49 : decode cX8_keep 49 = .ok (.iconst 5, 1) := by decide +kernel
theorem dX8_keep_50 : decode cX8_keep 50 = .ok (.dup2, 1) := by decide +kernel
theorem dX8_keep_51 : decode cX8_keep 51 = .ok (.iaload, 1) := by decide +kernel
theorem dX8_keep_52 : decode cX8_keep 52 = .ok (.iconst 1, 1) := by decide +kernel
theorem dX8_keep_53 : decode cX8_keep 53 = .ok (.isub, 1) := by decide +kernel
theorem dX8_keep_54 : decode cX8_keep 54 = .ok (.iastore, 1) := by decide +kernel
theorem dX8_keep_55 : decode cX8_keep 55 = .ok (.bipush 84, 2) := by decide +kernel
theorem dX8_keep_57 : decode cX8_keep 57 = .ok (.bipush 50, 2) := by decide +kernel
theorem dX8_keep_59 : decode cX8_keep 59 = .ok (.aload_n 0, 1) := by decide +kernel
theorem dX8_keep_60 : decode cX8_keep 60 = .ok (.getfield 7, 3) := by decide +kernel
theorem dX8_keep_63 : decode cX8_keep 63 = .ok (.iconst 5, 1) := by decide +kernel
theorem dX8_keep_64 : decode cX8_keep 64 = .ok (.iaload, 1) := by decide +kernel
theorem dX8_keep_65 : decode cX8_keep 65 = .ok (.imul, 1) := by decide +kernel
theorem dX8_keep_66 : decode cX8_keep 66 = .ok (.iadd, 1) := by decide +kernel
theorem dX8_keep_67 : decode cX8_keep 67 = .ok (.istore_n 1, 1) := by decide +kernel
theorem dX8_keep_68 : decode cX8_keep 68 = .ok (.aload_n 0, 1) := by decide +kernel
theorem dX8_keep_69 : decode cX8_keep 69 = .ok (.getfield 7, 3) := by decide +kernel
theorem dX8_keep_72 : decode cX8_keep 72 = .ok (.iload_n 1, 1) := by decide +kernel
theorem dX8_keep_73 : decode cX8_keep 73 = .ok (.aload_n 0, 1) := by decide +kernel
theorem dX8_keep_74 : decode cX8_keep 74 = .ok (.getfield 7, 3) := by decide +kernel
theorem dX8_keep_77 : decode cX8_keep 77 = .ok (.iconst 1, 1) := by decide +kernel
theorem dX8_keep_78 : decode cX8_keep 78 = .ok (.iaload, 1) := by decide +kernel
theorem dX8_keep_79 : decode cX8_keep 79 = .ok (.iastore, 1) := by decide +kernel
theorem dX8_keep_80 : decode cX8_keep 80 = .ok (.aload_n 0, 1) := by decide +kernel
theorem dX8_keep_81 : decode cX8_keep 81 = .ok (.getfield 7, 3) := by decide +kernel
theorem dX8_keep_84 : decode cX8_keep 84 = .ok (.iload_n 1, 1) := by decide +kernel
theorem dX8_keep_85 : decode cX8_keep 85 = .ok (.iconst 1, 1) := by decide +kernel
theorem dX8_keep_86 : decode cX8_keep 86 = .ok (.iadd, 1) := by decide +kernel
theorem dX8_keep_87 : decode cX8_keep 87 = .ok (.aload_n 0, 1) := by decide +kernel
theorem dX8_keep_88 : decode cX8_keep 88 = .ok (.getfield 7, 3) := by decide +kernel
theorem dX8_keep_91 : decode cX8_keep 91 = .ok (.iconst 2, 1) := by decide +kernel
theorem dX8_keep_92 : decode cX8_keep 92 = .ok (.iaload, 1) := by decide +kernel
theorem dX8_keep_93 : decode cX8_keep 93 = .ok (.iastore, 1) := by decide +kernel
theorem dX8_keep_94 : decode cX8_keep 94 = .ok (.iconst 0, 1) := by decide +kernel
theorem dX8_keep_95 : decode cX8_keep 95 = .ok (.istore_n 2, 1) := by decide +kernel
theorem dX8_keep_96 : decode cX8_keep 96 = .ok (.iload_n 2, 1) := by decide +kernel
theorem dX8_keep_97 : decode cX8_keep 97 = .ok (.bipush 8, 2) := by decide +kernel
theorem dX8_keep_99 : decode cX8_keep 99 = .ok (.if_icmp .ge 46, 3) := by decide +kernel
theorem dX8_keep_102 : decode cX8_keep 102 = .ok (.iconst 0, 1) := by decide +kernel
theorem dX8_keep_103 : decode cX8_keep 103 = .ok (.istore_n 3, 1) := by decide +kernel
theorem dX8_keep_104 : decode cX8_keep 104 = .ok (.iload_n 3, 1) := by decide +kernel
theorem dX8_keep_105 : decode cX8_keep 105 = .ok (.bipush 6, 2) := by decide +kernel
theorem dX8_keep_107 : decode cX8_keep 107 = .ok (.if_icmp .ge 32, 3) := by decide +kernel
theorem dX8_keep_110 : decode cX8_keep 110 = .ok (.aload_n 0, 1) := by decide +kernel
theorem dX8_keep_111 : decode cX8_keep 111 = .ok (.getfield 7, 3) := by decide +kernel
theorem dX8_keep_114 : decode cX8_keep 114 = .ok (.iload_n 1, 1) := by decide +kernel
theorem dX8_keep_115 : decode cX8_keep 115 = .ok (.iconst 2, 1) := by decide +kernel
theorem dX8_keep_116 : decode cX8_keep 116 = .ok (.iadd, 1) := by decide +kernel
theorem dX8_keep_117 : decode cX8_keep 117 = .ok (.bipush 6, 2) := by decide +kernel
theorem dX8_keep_119 : decode cX8_keep 119 = .ok (.iload_n 2, 1) := by decide +kernel
theorem dX8_keep_120 : decode cX8_keep 120 = .ok (.imul, 1) := by decide +kernel
theorem dX8_keep_121 : decode cX8_keep 121 = .ok (.iadd, 1) := by decide +kernel
theorem dX8_keep_122 : decode cX8_keep 122 = .ok (.iload_n 3, 1) := by decide +kernel
theorem dX8_keep_123 : decode cX8_keep 123 = .ok (.iadd, 1) := by decide +kernel
theorem dX8_keep_124 : decode cX8_keep 124 = .ok (.aload_n 0, 1) := by decide +kernel
theorem dX8_keep_125 : decode cX8_keep 125 = .ok (.iload_n 2, 1) := by decide +kernel
theorem dX8_keep_126 : decode cX8_keep 126 = .ok (.iconst 2, 1) := by decide +kernel
theorem dX8_keep_127 : decode cX8_keep 127 = .ok (.iload_n 3, 1) := by decide +kernel
theorem dX8_keep_128 : decode cX8_keep 128 = .ok (.iadd, 1) := by decide +kernel
theorem dX8_keep_129 : decode cX8_keep 129 = .ok (.invokevirtual 77, 3) := by decide +kernel
theorem dX8_keep_132 : decode cX8_keep 132 = .ok (.iastore, 1) := by decide +kernel
theorem dX8_keep_133 : decode cX8_keep 133 = .ok (.iinc 3 1, 3) := by decide +kernel
theorem dX8_keep_136 : decode cX8_keep 136 = .ok (.goto (-32), 3) := by decide +kernel
theorem dX8_keep_139 : decode cX8_keep 139 = .ok (.iinc 2 1, 3) := by decide +kernel
theorem dX8_keep_142 : decode cX8_keep 142 = .ok (.goto (-46), 3) := by decide +kernel
theorem dX8_keep_145 : decode cX8_keep 145 = .ok (.aload_n 0, 1) := by decide +kernel
theorem dX8_keep_146 : decode cX8_keep 146 = .ok (.getfield 7, 3) := by decide +kernel
theorem dX8_keep_149 : decode cX8_keep 149 = .ok (.iconst 5, 1) := by decide +kernel
theorem dX8_keep_150 : decode cX8_keep 150 = .ok (.dup2, 1) := by decide +kernel
theorem dX8_keep_151 : decode cX8_keep 151 = .ok (.iaload, 1) := by decide +kernel
theorem dX8_keep_152 : decode cX8_keep 152 = .ok (.iconst 1, 1) := by decide +kernel
theorem dX8_keep_153 : decode cX8_keep 153 = .ok (.iadd, 1) := by decide +kernel
theorem dX8_keep_154 : decode cX8_keep 154 = .ok (.iastore, 1) := by decide +kernel
theorem dX8_keep_155 : decode cX8_keep 155 = .ok (.return_, 1) := by decide +kernel
theorem dX8_undo_0 : decode cX8_undo 0 = .ok (.aload_n 0, 1) := by decide +kernel
theorem dX8_undo_1 : decode cX8_undo 1 = .ok (.getfield 7, 3) := by decide +kernel
theorem dX8_undo_4 : decode cX8_undo 4 = .ok (.iconst 5, 1) := by decide +kernel
theorem dX8_undo_5 : decode cX8_undo 5 = .ok (.iaload, 1) := by decide +kernel
theorem dX8_undo_6 : decode cX8_undo 6 = .ok (.ifCond .ne 5, 3) := by decide +kernel
theorem dX8_undo_9 : decode cX8_undo 9 = .ok (.iconst (-1), 1) := by decide +kernel
theorem dX8_undo_10 : decode cX8_undo 10 = .ok (.ireturn, 1) := by decide +kernel
theorem dX8_undo_11 : decode cX8_undo 11 = .ok (.aload_n 0, 1) := by decide +kernel
theorem dX8_undo_12 : decode cX8_undo 12 = .ok (.getfield 7, 3) := by decide +kernel
theorem dX8_undo_15 : decode cX8_undo 15 = .ok (.iconst 5, 1) := by decide +kernel
theorem dX8_undo_16 : decode cX8_undo 16 = .ok (.dup2, 1) := by decide +kernel
theorem dX8_undo_17 : decode cX8_undo 17 = .ok (.iaload, 1) := by decide +kernel
theorem dX8_undo_18 : decode cX8_undo 18 = .ok (.iconst 1, 1) := by decide +kernel
theorem dX8_undo_19 : decode cX8_undo 19 = .ok (.isub, 1) := by decide +kernel
theorem dX8_undo_20 : decode cX8_undo 20 = .ok (.iastore, 1) := by decide +kernel
theorem dX8_undo_21 : decode cX8_undo 21 = .ok (.bipush 84, 2) := by decide +kernel
theorem dX8_undo_23 : decode cX8_undo 23 = .ok (.bipush 50, 2) := by decide +kernel
theorem dX8_undo_25 : decode cX8_undo 25 = .ok (.aload_n 0, 1) := by decide +kernel
theorem dX8_undo_26 : decode cX8_undo 26 = .ok (.getfield 7, 3) := by decide +kernel
theorem dX8_undo_29 : decode cX8_undo 29 = .ok (.iconst 5, 1) := by decide +kernel
theorem dX8_undo_30 : decode cX8_undo 30 = .ok (.iaload, 1) := by decide +kernel
theorem dX8_undo_31 : decode cX8_undo 31 = .ok (.imul, 1) := by decide +kernel
theorem dX8_undo_32 : decode cX8_undo 32 = .ok (.iadd, 1) := by decide +kernel
theorem dX8_undo_33 : decode cX8_undo 33 = .ok (.istore_n 1, 1) := by decide +kernel
theorem dX8_undo_34 : decode cX8_undo 34 = .ok (.aload_n 0, 1) := by decide +kernel
theorem dX8_undo_35 : decode cX8_undo 35 = .ok (.getfield 7, 3) := by decide +kernel
theorem dX8_undo_38 : decode cX8_undo 38 = .ok (.iconst 2, 1) := by decide +kernel
theorem dX8_undo_39 : decode cX8_undo 39 = .ok (.aload_n 0, 1) := by decide +kernel
theorem dX8_undo_40 : decode cX8_undo 40 = .ok (.getfield 7, 3) := by decide +kernel
theorem dX8_undo_43 : decode cX8_undo 43 = .ok (.iload_n 1, 1) := by decide +kernel
theorem dX8_undo_44 : decode cX8_undo 44 = .ok (.iconst 1, 1) := by decide +kernel
theorem dX8_undo_45 : decode cX8_undo 45 = .ok (.iadd, 1) := by decide +kernel
theorem dX8_undo_46 : decode cX8_undo 46 = .ok (.iaload, 1) := by decide +kernel
theorem dX8_undo_47 : decode cX8_undo 47 = .ok (.iastore, 1) := by decide +kernel
theorem dX8_undo_48 : decode cX8_undo 48 = .ok (.iconst 0, 1) := by decide +kernel
theorem dX8_undo_49 : decode cX8_undo 49 = .ok (.istore_n 2, 1) := by decide +kernel
theorem dX8_undo_50 : decode cX8_undo 50 = .ok (.iload_n 2, 1) := by decide +kernel
theorem dX8_undo_51 : decode cX8_undo 51 = .ok (.bipush 8, 2) := by decide +kernel
theorem dX8_undo_53 : decode cX8_undo 53 = .ok (.if_icmp .ge 61, 3) := by decide +kernel
theorem dX8_undo_56 : decode cX8_undo 56 = .ok (.iconst 0, 1) := by decide +kernel
theorem dX8_undo_57 : decode cX8_undo 57 = .ok (.istore_n 3, 1) := by decide +kernel
theorem dX8_undo_58 : decode cX8_undo 58 = .ok (.iload_n 3, 1) := by decide +kernel
theorem dX8_undo_59 : decode cX8_undo 59 = .ok (.bipush 6, 2) := by decide +kernel
theorem dX8_undo_61 : decode cX8_undo 61 = .ok (.if_icmp .ge 32, 3) := by decide +kernel
theorem dX8_undo_64 : decode cX8_undo 64 = .ok (.aload_n 0, 1) := by decide +kernel
theorem dX8_undo_65 : decode cX8_undo 65 = .ok (.iload_n 2, 1) := by decide +kernel
theorem dX8_undo_66 : decode cX8_undo 66 = .ok (.iconst 2, 1) := by decide +kernel
theorem dX8_undo_67 : decode cX8_undo 67 = .ok (.iload_n 3, 1) := by decide +kernel
theorem dX8_undo_68 : decode cX8_undo 68 = .ok (.iadd, 1) := by decide +kernel
theorem dX8_undo_69 : decode cX8_undo 69 = .ok (.aload_n 0, 1) := by decide +kernel
theorem dX8_undo_70 : decode cX8_undo 70 = .ok (.getfield 7, 3) := by decide +kernel
theorem dX8_undo_73 : decode cX8_undo 73 = .ok (.iload_n 1, 1) := by decide +kernel
theorem dX8_undo_74 : decode cX8_undo 74 = .ok (.iconst 2, 1) := by decide +kernel
theorem dX8_undo_75 : decode cX8_undo 75 = .ok (.iadd, 1) := by decide +kernel
theorem dX8_undo_76 : decode cX8_undo 76 = .ok (.bipush 6, 2) := by decide +kernel
theorem dX8_undo_78 : decode cX8_undo 78 = .ok (.iload_n 2, 1) := by decide +kernel
theorem dX8_undo_79 : decode cX8_undo 79 = .ok (.imul, 1) := by decide +kernel
theorem dX8_undo_80 : decode cX8_undo 80 = .ok (.iadd, 1) := by decide +kernel
theorem dX8_undo_81 : decode cX8_undo 81 = .ok (.iload_n 3, 1) := by decide +kernel
theorem dX8_undo_82 : decode cX8_undo 82 = .ok (.iadd, 1) := by decide +kernel
theorem dX8_undo_83 : decode cX8_undo 83 = .ok (.iaload, 1) := by decide +kernel
theorem dX8_undo_84 : decode cX8_undo 84 = .ok (.invokevirtual 73, 3) := by decide +kernel
theorem dX8_undo_87 : decode cX8_undo 87 = .ok (.iinc 3 1, 3) := by decide +kernel
theorem dX8_undo_90 : decode cX8_undo 90 = .ok (.goto (-32), 3) := by decide +kernel
theorem dX8_undo_93 : decode cX8_undo 93 = .ok (.iload_n 2, 1) := by decide +kernel
theorem dX8_undo_94 : decode cX8_undo 94 = .ok (.aload_n 0, 1) := by decide +kernel
theorem dX8_undo_95 : decode cX8_undo 95 = .ok (.getfield 7, 3) := by decide +kernel
theorem dX8_undo_98 : decode cX8_undo 98 = .ok (.iload_n 1, 1) := by decide +kernel
theorem dX8_undo_99 : decode cX8_undo 99 = .ok (.iaload, 1) := by decide +kernel
theorem dX8_undo_100 : decode cX8_undo 100 = .ok (.if_icmp .lt 8, 3) := by decide +kernel
theorem dX8_undo_103 : decode cX8_undo 103 = .ok (.aload_n 0, 1) := by decide +kernel
theorem dX8_undo_104 : decode cX8_undo 104 = .ok (.iload_n 2, 1) := by decide +kernel
theorem dX8_undo_105 : decode cX8_undo 105 = .ok (.invokevirtual 61, 3) := by decide +kernel
theorem dX8_undo_108 : decode cX8_undo 108 = .ok (.iinc 2 1, 3) := by decide +kernel
theorem dX8_undo_111 : decode cX8_undo 111 = .ok (.goto (-61), 3) := by decide +kernel
theorem dX8_undo_114 : decode cX8_undo 114 = .ok (.aload_n 0, 1) := by decide +kernel
theorem dX8_undo_115 : decode cX8_undo 115 = .ok (.getfield 7, 3) := by decide +kernel
theorem dX8_undo_118 : decode cX8_undo 118 = .ok (.iconst 5, 1) := by decide +kernel
theorem dX8_undo_119 : decode cX8_undo 119 = .ok (.iaload, 1) := by decide +kernel
theorem dX8_undo_120 : decode cX8_undo 120 = .ok (.ireturn, 1) := by decide +kernel
theorem dX8_learn_0 : decode cX8_learn 0 = .ok (.iconst 3, 1) := by decide +kernel
theorem dX8_learn_1 : decode cX8_learn 1 = .ok (.istore_n 3, 1) := by decide +kernel
theorem dX8_learn_2 : decode cX8_learn 2 = .ok (.iload_n 3, 1) := by decide +kernel
theorem dX8_learn_3 : decode cX8_learn 3 = .ok (.ifCond .le 27, 3) := by decide +kernel
theorem dX8_learn_6 : decode cX8_learn 6 = .ok (.aload_n 0, 1) := by decide +kernel
theorem dX8_learn_7 : decode cX8_learn 7 = .ok (.iload_n 1, 1) := by decide +kernel
theorem dX8_learn_8 : decode cX8_learn 8 = .ok (.iconst 4, 1) := by decide +kernel
theorem dX8_learn_9 : decode cX8_learn 9 = .ok (.iload_n 3, 1) := by decide +kernel
theorem dX8_learn_10 : decode cX8_learn 10 = .ok (.iadd, 1) := by decide +kernel
theorem dX8_learn_11 : decode cX8_learn 11 = .ok (.aload_n 0, 1) := by decide +kernel
theorem dX8_learn_12 : decode cX8_learn 12 = .ok (.iload_n 1, 1) := by decide +kernel
theorem dX8_learn_13 : decode cX8_learn 13 = .ok (.iconst 4, 1) := by decide +kernel
theorem dX8_learn_14 : decode cX8_learn 14 = .ok (.iload_n 3, 1) := by decide +kernel
theorem dX8_learn_15 : decode cX8_learn 15 = .ok (.iadd, 1) := by decide +kernel
theorem dX8_learn_16 : decode cX8_learn 16 = .ok (.iconst 1, 1) := by decide +kernel
theorem dX8_learn_17 : decode cX8_learn 17 = .ok (.isub, 1) := by decide +kernel
theorem dX8_learn_18 : decode cX8_learn 18 = .ok (.invokevirtual 77, 3) := by decide +kernel
theorem dX8_learn_21 : decode cX8_learn 21 = .ok (.invokevirtual 73, 3) := by decide +kernel
theorem dX8_learn_24 : decode cX8_learn 24 = .ok (.iinc 3 (-1), 3) := by decide +kernel
theorem dX8_learn_27 : decode cX8_learn 27 = .ok (.goto (-25), 3) := by decide +kernel
theorem dX8_learn_30 : decode cX8_learn 30 = .ok (.aload_n 0, 1) := by decide +kernel
theorem dX8_learn_31 : decode cX8_learn 31 = .ok (.iload_n 1, 1) := by decide +kernel
theorem dX8_learn_32 : decode cX8_learn 32 = .ok (.iconst 4, 1) := by decide +kernel
theorem dX8_learn_33 : decode cX8_learn 33 = .ok (.iload_n 2, 1) := by decide +kernel
theorem dX8_learn_34 : decode cX8_learn 34 = .ok (.invokevirtual 73, 3) := by decide +kernel
theorem dX8_learn_37 : decode cX8_learn 37 = .ok (.return_, 1) := by decide +kernel
theorem dX8_touch_0 : decode cX8_touch 0 = .ok (.aload_n 0, 1) := by decide +kernel
theorem dX8_touch_1 : decode cX8_touch 1 = .ok (.iload_n 1, 1) := by decide +kernel
theorem dX8_touch_2 : decode cX8_touch 2 = .ok (.invokevirtual 262, 3) := by decide +kernel
theorem dX8_touch_5 : decode cX8_touch 5 = .ok (.ifCond .eq 23, 3) := by decide +kernel
theorem dX8_touch_8 : decode cX8_touch 8 = .ok (.aload_n 0, 1) := by decide +kernel
theorem dX8_touch_9 : decode cX8_touch 9 = .ok (.iload_n 2, 1) := by decide +kernel
theorem dX8_touch_10 : decode cX8_touch 10 = .ok (.invokevirtual 265, 3) := by decide +kernel
theorem dX8_touch_13 : decode cX8_touch 13 = .ok (.ifCond .eq 15, 3) := by decide +kernel
