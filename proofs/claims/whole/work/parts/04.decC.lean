theorem dX11_init_0 : decode cX11_init 0 = .ok (.aload_n 0, 1) := by decide +kernel
theorem dX11_init_1 : decode cX11_init 1 = .ok (.invokespecial 1, 3) := by decide +kernel
theorem dX11_init_4 : decode cX11_init 4 = .ok (.aload_n 0, 1) := by decide +kernel
theorem dX11_init_5 : decode cX11_init 5 = .ok (.bipush 7, 2) := by decide +kernel
theorem dX11_init_7 : decode cX11_init 7 = .ok (.newarray .int, 2) := by decide +kernel
theorem dX11_init_9 : decode cX11_init 9 = .ok (.putfield 7, 3) := by decide +kernel
theorem dX11_init_12 : decode cX11_init 12 = .ok (.aload_n 0, 1) := by decide +kernel
theorem dX11_init_13 : decode cX11_init 13 = .ok (.bipush 24, 2) := by decide +kernel
theorem dX11_init_15 : decode cX11_init 15 = .ok (.newarray .int, 2) := by decide +kernel
theorem dX11_init_17 : decode cX11_init 17 = .ok (.putfield 13, 3) := by decide +kernel
theorem dX11_init_20 : decode cX11_init 20 = .ok (.aload_n 0, 1) := by decide +kernel
theorem dX11_init_21 : decode cX11_init 21 = .ok (.bipush 20, 2) := by decide +kernel
theorem dX11_init_23 : decode cX11_init 23 = .ok (.newarray .int, 2) := by decide +kernel
theorem dX11_init_25 : decode cX11_init 25 = .ok (.putfield 16, 3) := by decide +kernel
theorem dX11_init_28 : decode cX11_init 28 = .ok (.aload_n 0, 1) := by decide +kernel
theorem dX11_init_29 : decode cX11_init 29 = .ok (.bipush 20, 2) := by decide +kernel
theorem dX11_init_31 : decode cX11_init 31 = .ok (.newarray .int, 2) := by decide +kernel
theorem dX11_init_33 : decode cX11_init 33 = .ok (.putfield 19, 3) := by decide +kernel
theorem dX11_init_36 : decode cX11_init 36 = .ok (.aload_n 0, 1) := by decide +kernel
theorem dX11_init_37 : decode cX11_init 37 = .ok (.bipush 20, 2) := by decide +kernel
theorem dX11_init_39 : decode cX11_init 39 = .ok (.newarray .int, 2) := by decide +kernel
theorem dX11_init_41 : decode cX11_init 41 = .ok (.putfield 22, 3) := by decide +kernel
theorem dX11_init_44 : decode cX11_init 44 = .ok (.aload_n 0, 1) := by decide +kernel
theorem dX11_init_45 : decode cX11_init 45 = .ok (.bipush 80, 2) := by decide +kernel
theorem dX11_init_47 : decode cX11_init 47 = .ok (.newarray .int, 2) := by decide +kernel
theorem dX11_init_49 : decode cX11_init 49 = .ok (.putfield 25, 3) := by decide +kernel
theorem dX11_init_52 : decode cX11_init 52 = .ok (.aload_n 0, 1) := by decide +kernel
theorem dX11_init_53 : decode cX11_init 53 = .ok (.bipush 80, 2) := by decide +kernel
theorem dX11_init_55 : decode cX11_init 55 = .ok (.newarray .int, 2) := by decide +kernel
theorem dX11_init_57 : decode cX11_init 57 = .ok (.putfield 28, 3) := by decide +kernel
theorem dX11_init_60 : decode cX11_init 60 = .ok (.aload_n 0, 1) := by decide +kernel
theorem dX11_init_61 : decode cX11_init 61 = .ok (.bipush 80, 2) := by decide +kernel
theorem dX11_init_63 : decode cX11_init 63 = .ok (.newarray .int, 2) := by decide +kernel
theorem dX11_init_65 : decode cX11_init 65 = .ok (.putfield 31, 3) := by decide +kernel
theorem dX11_init_68 : decode cX11_init 68 = .ok (.aload_n 0, 1) := by decide +kernel
theorem dX11_init_69 : decode cX11_init 69 = .ok (.bipush 80, 2) := by decide +kernel
theorem dX11_init_71 : decode cX11_init 71 = .ok (.newarray .int, 2) := by decide +kernel
theorem dX11_init_73 : decode cX11_init 73 = .ok (.putfield 34, 3) := by decide +kernel
theorem dX11_init_76 : decode cX11_init 76 = .ok (.aload_n 0, 1) := by decide +kernel
theorem dX11_init_77 : decode cX11_init 77 = .ok (.bipush 80, 2) := by decide +kernel
theorem dX11_init_79 : decode cX11_init 79 = .ok (.newarray .int, 2) := by decide +kernel
theorem dX11_init_81 : decode cX11_init 81 = .ok (.putfield 37, 3) := by decide +kernel
theorem dX11_init_84 : decode cX11_init 84 = .ok (.aload_n 0, 1) := by decide +kernel
theorem dX11_init_85 : decode cX11_init 85 = .ok (.bipush 80, 2) := by decide +kernel
theorem dX11_init_87 : decode cX11_init 87 = .ok (.newarray .int, 2) := by decide +kernel
theorem dX11_init_89 : decode cX11_init 89 = .ok (.putfield 40, 3) := by decide +kernel
theorem dX11_init_92 : decode cX11_init 92 = .ok (.aload_n 0, 1) := by decide +kernel
theorem dX11_init_93 : decode cX11_init 93 = .ok (.bipush 80, 2) := by decide +kernel
theorem dX11_init_95 : decode cX11_init 95 = .ok (.newarray .int, 2) := by decide +kernel
theorem dX11_init_97 : decode cX11_init 97 = .ok (.putfield 43, 3) := by decide +kernel
theorem dX11_init_100 : decode cX11_init 100 = .ok (.aload_n 0, 1) := by decide +kernel
theorem dX11_init_101 : decode cX11_init 101 = .ok (.bipush 12, 2) := by decide +kernel
theorem dX11_init_103 : decode cX11_init 103 = .ok (.newarray .int, 2) := by decide +kernel
theorem dX11_init_105 : decode cX11_init 105 = .ok (.putfield 46, 3) := by decide +kernel
theorem dX11_init_108 : decode cX11_init 108 = .ok (.aload_n 0, 1) := by decide +kernel
theorem dX11_init_109 : decode cX11_init 109 = .ok (.bipush 12, 2) := by decide +kernel
theorem dX11_init_111 : decode cX11_init 111 = .ok (.newarray .int, 2) := by decide +kernel
theorem dX11_init_113 : decode cX11_init 113 = .ok (.putfield 49, 3) := by decide +kernel
theorem dX11_init_116 : decode cX11_init 116 = .ok (.aload_n 0, 1) := by decide +kernel
theorem dX11_init_117 : decode cX11_init 117 = .ok (.bipush 12, 2) := by decide +kernel
theorem dX11_init_119 : decode cX11_init 119 = .ok (.newarray .int, 2) := by decide +kernel
theorem dX11_init_121 : decode cX11_init 121 = .ok (.putfield 52, 3) := by decide +kernel
theorem dX11_init_124 : decode cX11_init 124 = .ok (.aload_n 0, 1) := by decide +kernel
theorem dX11_init_125 : decode cX11_init 125 = .ok (.bipush 48, 2) := by decide +kernel
theorem dX11_init_127 : decode cX11_init 127 = .ok (.newarray .int, 2) := by decide +kernel
theorem dX11_init_129 : decode cX11_init 129 = .ok (.putfield 55, 3) := by decide +kernel
theorem dX11_init_132 : decode cX11_init 132 = .ok (.aload_n 0, 1) := by decide +kernel
theorem dX11_init_133 : decode cX11_init 133 = .ok (.bipush 12, 2) := by decide +kernel
theorem dX11_init_135 : decode cX11_init 135 = .ok (.newarray .int, 2) := by decide +kernel
theorem dX11_init_137 : decode cX11_init 137 = .ok (.putfield 58, 3) := by decide +kernel
theorem dX11_init_140 : decode cX11_init 140 = .ok (.aload_n 0, 1) := by decide +kernel
theorem dX11_init_141 : decode cX11_init 141 = .ok (.bipush 12, 2) := by decide +kernel
theorem dX11_init_143 : decode cX11_init 143 = .ok (.newarray .int, 2) := by decide +kernel
theorem dX11_init_145 : decode cX11_init 145 = .ok (.putfield 61, 3) := by decide +kernel
theorem dX11_init_148 : decode cX11_init 148 = .ok (.aload_n 0, 1) := by decide +kernel
theorem dX11_init_149 : decode cX11_init 149 = .ok (.bipush 12, 2) := by decide +kernel
theorem dX11_init_151 : decode cX11_init 151 = .ok (.newarray .int, 2) := by decide +kernel
theorem dX11_init_153 : decode cX11_init 153 = .ok (.putfield 64, 3) := by decide +kernel
theorem dX11_init_156 : decode cX11_init 156 = .ok (.aload_n 0, 1) := by decide +kernel
theorem dX11_init_157 : decode cX11_init 157 = .ok (.bipush 8, 2) := by decide +kernel
theorem dX11_init_159 : decode cX11_init 159 = .ok (.newarray .int, 2) := by decide +kernel
theorem dX11_init_161 : decode cX11_init 161 = .ok (.putfield 67, 3) := by decide +kernel
theorem dX11_init_164 : decode cX11_init 164 = .ok (.aload_n 0, 1) := by decide +kernel
theorem dX11_init_165 : decode cX11_init 165 = .ok (.bipush 8, 2) := by decide +kernel
theorem dX11_init_167 : decode cX11_init 167 = .ok (.newarray .int, 2) := by decide +kernel
theorem dX11_init_169 : decode cX11_init 169 = .ok (.putfield 70, 3) := by decide +kernel
theorem dX11_init_172 : decode cX11_init 172 = .ok (.aload_n 0, 1) := by decide +kernel
theorem dX11_init_173 : decode cX11_init 173 = .ok (.ldc 73, 2) := by decide +kernel
theorem dX11_init_175 : decode cX11_init 175 = .ok (.newarray .int, 2) := by decide +kernel
theorem dX11_init_177 : decode cX11_init 177 = .ok (.putfield 74, 3) := by decide +kernel
theorem dX11_init_180 : decode cX11_init 180 = .ok (.aload_n 0, 1) := by decide +kernel
theorem dX11_init_181 : decode cX11_init 181 = .ok (.bipush 8, 2) := by decide +kernel
theorem dX11_init_183 : decode cX11_init 183 = .ok (.newarray .int, 2) := by decide +kernel
theorem dX11_init_185 : decode cX11_init 185 = .ok (.putfield 77, 3) := by decide +kernel
theorem dX11_init_188 : decode cX11_init 188 = .ok (.aload_n 0, 1) := by decide +kernel
theorem dX11_init_189 : decode cX11_init 189 = .ok (.bipush 12, 2) := by decide +kernel
theorem dX11_init_191 : decode cX11_init 191 = .ok (.newarray .int, 2) := by decide +kernel
theorem dX11_init_193 : decode cX11_init 193 = .ok (.putfield 80, 3) := by decide +kernel
theorem dX11_init_196 : decode cX11_init 196 = .ok (.aload_n 0, 1) := by decide +kernel
theorem dX11_init_197 : decode cX11_init 197 = .ok (.bipush 12, 2) := by decide +kernel
theorem dX11_init_199 : decode cX11_init 199 = .ok (.newarray .int, 2) := by decide +kernel
theorem dX11_init_201 : decode cX11_init 201 = .ok (.putfield 83, 3) := by decide +kernel
theorem dX11_init_204 : decode cX11_init 204 = .ok (.aload_n 0, 1) := by decide +kernel
theorem dX11_init_205 : decode cX11_init 205 = .ok (.bipush 12, 2) := by decide +kernel
theorem dX11_init_207 : decode cX11_init 207 = .ok (.newarray .int, 2) := by decide +kernel
theorem dX11_init_209 : decode cX11_init 209 = .ok (.putfield 86, 3) := by decide +kernel
theorem dX11_init_212 : decode cX11_init 212 = .ok (.aload_n 0, 1) := by decide +kernel
theorem dX11_init_213 : decode cX11_init 213 = .ok (.iconst 3, 1) := by decide +kernel
theorem dX11_init_214 : decode cX11_init 214 = .ok (.newarray .int, 2) := by decide +kernel
theorem dX11_init_216 : decode cX11_init 216 = .ok (.putfield 89, 3) := by decide +kernel
theorem dX11_init_219 : decode cX11_init 219 = .ok (.aload_n 0, 1) := by decide +kernel
theorem dX11_init_220 : decode cX11_init 220 = .ok (.bipush 8, 2) := by decide +kernel
theorem dX11_init_222 : decode cX11_init 222 = .ok (.newarray .int, 2) := by decide +kernel
theorem dX11_init_224 : decode cX11_init 224 = .ok (.putfield 92, 3) := by decide +kernel
theorem dX11_init_227 : decode cX11_init 227 = .ok (.aload_n 0, 1) := by decide +kernel
theorem dX11_init_228 : decode cX11_init 228 = .ok (.bipush 8, 2) := by decide +kernel
theorem dX11_init_230 : decode cX11_init 230 = .ok (.newarray .int, 2) := by decide +kernel
theorem dX11_init_232 : decode cX11_init 232 = .ok (.putfield 95, 3) := by decide +kernel
theorem dX11_init_235 : decode cX11_init 235 = .ok (.aload_n 0, 1) := by decide +kernel
theorem dX11_init_236 : decode cX11_init 236 = .ok (.iconst 3, 1) := by decide +kernel
theorem dX11_init_237 : decode cX11_init 237 = .ok (.newarray .int, 2) := by decide +kernel
theorem dX11_init_239 : decode cX11_init 239 = .ok (.putfield 98, 3) := by decide +kernel
theorem dX11_init_242 : decode cX11_init 242 = .ok (.aload_n 0, 1) := by decide +kernel
theorem dX11_init_243 : decode cX11_init 243 = .ok (.bipush 80, 2) := by decide +kernel
theorem dX11_init_245 : decode cX11_init 245 = .ok (.newarray .boolean, 2) := by decide +kernel
theorem dX11_init_247 : decode cX11_init 247 = .ok (.putfield 101, 3) := by decide +kernel
theorem dX11_init_250 : decode cX11_init 250 = .ok (.aload_n 0, 1) := by decide +kernel
theorem dX11_init_251 : decode cX11_init 251 = .ok (.bipush 80, 2) := by decide +kernel
theorem dX11_init_253 : decode cX11_init 253 = .ok (.newarray .boolean, 2) := by decide +kernel
theorem dX11_init_255 : decode cX11_init 255 = .ok (.putfield 105, 3) := by decide +kernel
theorem dX11_init_258 : decode cX11_init 258 = .ok (.aload_n 0, 1) := by decide +kernel
theorem dX11_init_259 : decode cX11_init 259 = .ok (.sipush 202, 3) := by decide +kernel
theorem dX11_init_262 : decode cX11_init 262 = .ok (.newarray .int, 2) := by decide +kernel
theorem dX11_init_264 : decode cX11_init 264 = .ok (.putfield 108, 3) := by decide +kernel
theorem dX11_init_267 : decode cX11_init 267 = .ok (.aload_n 0, 1) := by decide +kernel
theorem dX11_init_268 : decode cX11_init 268 = .ok (.bipush 32, 2) := by decide +kernel
theorem dX11_init_270 : decode cX11_init 270 = .ok (.newarray .int, 2) := by decide +kernel
theorem dX11_init_272 : decode cX11_init 272 = .ok (.putfield 111, 3) := by decide +kernel
theorem dX11_init_275 : decode cX11_init 275 = .ok (.aload_n 0, 1) := by decide +kernel
theorem dX11_init_276 : decode cX11_init 276 = .ok (.bipush 32, 2) := by decide +kernel
theorem dX11_init_278 : decode cX11_init 278 = .ok (.newarray .int, 2) := by decide +kernel
theorem dX11_init_280 : decode cX11_init 280 = .ok (.putfield 114, 3) := by decide +kernel
theorem dX11_init_283 : decode cX11_init 283 = .ok (.aload_n 0, 1) := by decide +kernel
theorem dX11_init_284 : decode cX11_init 284 = .ok (.bipush 32, 2) := by decide +kernel
theorem dX11_init_286 : decode cX11_init 286 = .ok (.newarray .int, 2) := by decide +kernel
theorem dX11_init_288 : decode cX11_init 288 = .ok (.putfield 117, 3) := by decide +kernel
theorem dX11_init_291 : decode cX11_init 291 = .ok (.aload_n 0, 1) := by decide +kernel
theorem dX11_init_292 : decode cX11_init 292 = .ok (.bipush 60, 2) := by decide +kernel
theorem dX11_init_294 : decode cX11_init 294 = .ok (.newarray .int, 2) := by decide +kernel
theorem dX11_init_296 : decode cX11_init 296 = .ok (.putfield 120, 3) := by decide +kernel
theorem dX11_init_299 : decode cX11_init 299 = .ok (.aload_n 0, 1) := by decide +kernel
theorem dX11_init_300 : decode cX11_init 300 = .ok (.bipush 60, 2) := by decide +kernel
theorem dX11_init_302 : decode cX11_init 302 = .ok (.newarray .int, 2) := by decide +kernel
theorem dX11_init_304 : decode cX11_init 304 = .ok (.putfield 123, 3) := by decide +kernel
theorem dX11_init_307 : decode cX11_init 307 = .ok (.aload_n 0, 1) := by decide +kernel
theorem dX11_init_308 : decode cX11_init 308 = .ok (.bipush 60, 2) := by decide +kernel
theorem dX11_init_310 : decode cX11_init 310 = .ok (.newarray .int, 2) := by decide +kernel
theorem dX11_init_312 : decode cX11_init 312 = .ok (.putfield 126, 3) := by decide +kernel
theorem dX11_init_315 : decode cX11_init 315 = .ok (.aload_n 0, 1) := by decide +kernel
theorem dX11_init_316 : decode cX11_init 316 = .ok (.bipush 16, 2) := by decide +kernel
theorem dX11_init_318 : decode cX11_init 318 = .ok (.newarray .int, 2) := by decide +kernel
theorem dX11_init_320 : decode cX11_init 320 = .ok (.putfield 129, 3) := by decide +kernel
theorem dX11_init_323 : decode cX11_init 323 = .ok (.aload_n 0, 1) := by decide +kernel
theorem dX11_init_324 : decode cX11_init 324 = .ok (.bipush 16, 2) := by decide +kernel
theorem dX11_init_326 : decode cX11_init 326 = .ok (.newarray .int, 2) := by decide +kernel
theorem dX11_init_328 : decode cX11_init 328 = .ok (.putfield 132, 3) := by decide +kernel
theorem dX11_init_331 : decode cX11_init 331 = .ok (.aload_n 0, 1) := by decide +kernel
theorem dX11_init_332 : decode cX11_init 332 = .ok (.bipush 6, 2) := by decide +kernel
theorem dX11_init_334 : decode cX11_init 334 = .ok (.newarray .int, 2) := by decide +kernel
theorem dX11_init_336 : decode cX11_init 336 = .ok (.putfield 135, 3) := by decide +kernel
theorem dX11_init_339 : decode cX11_init 339 = .ok (.aload_n 0, 1) := by decide +kernel
theorem dX11_init_340 : decode cX11_init 340 = .ok (.bipush 6, 2) := by decide +kernel
theorem dX11_init_342 : decode cX11_init 342 = .ok (.newarray .int, 2) := by decide +kernel
theorem dX11_init_344 : decode cX11_init 344 = .ok (.putfield 138, 3) := by decide +kernel
theorem dX11_init_347 : decode cX11_init 347 = .ok (.aload_n 0, 1) := by decide +kernel
theorem dX11_init_348 : decode cX11_init 348 = .ok (.bipush 6, 2) := by decide +kernel
theorem dX11_init_350 : decode cX11_init 350 = .ok (.newarray .int, 2) := by decide +kernel
theorem dX11_init_352 : decode cX11_init 352 = .ok (.putfield 141, 3) := by decide +kernel
theorem dX11_init_355 : decode cX11_init 355 = .ok (.iconst 0, 1) := by decide +kernel
theorem dX11_init_356 : decode cX11_init 356 = .ok (.istore_n 1, 1) := by decide +kernel
theorem dX11_init_357 : decode cX11_init 357 = .ok (.iload_n 1, 1) := by decide +kernel
theorem dX11_init_358 : decode cX11_init 358 = .ok (.bipush 6, 2) := by decide +kernel
theorem dX11_init_360 : decode cX11_init 360 = .ok (.if_icmp .ge 57, 3) := by decide +kernel
theorem dX11_init_363 : decode cX11_init 363 = .ok (.aload_n 0, 1) := by decide +kernel
theorem dX11_init_364 : decode cX11_init 364 = .ok (.getfield 13, 3) := by decide +kernel
theorem dX11_init_367 : decode cX11_init 367 = .ok (.iconst 4, 1) := by decide +kernel
theorem dX11_init_368 : decode cX11_init 368 = .ok (.iload_n 1, 1) := by decide +kernel
theorem dX11_init_369 : decode cX11_init 369 = .ok (.imul, 1) := by decide +kernel
theorem dX11_init_370 : decode cX11_init 370 = .ok (.bipush 30, 2) := by decide +kernel
theorem dX11_init_372 : decode cX11_init 372 = .ok (.iastore, 1) := by decide +kernel
theorem dX11_init_373 : decode cX11_init 373 = .ok (.aload_n 0, 1) := by decide +kernel
theorem dX11_init_374 : decode cX11_init 374 = .ok (.getfield 13, 3) := by decide +kernel
theorem dX11_init_377 : decode cX11_init 377 = .ok (.iconst 4, 1) := by decide +kernel
theorem dX11_init_378 : decode cX11_init 378 = .ok (.iload_n 1, 1) := by decide +kernel
theorem dX11_init_379 : decode cX11_init 379 = .ok (.imul, 1) := by decide +kernel
theorem dX11_init_380 : decode cX11_init 380 = .ok (.iconst 1, 1) := by decide +kernel
theorem dX11_init_381 : decode cX11_init 381 = .ok (.iadd, 1) := by decide +kernel
theorem dX11_init_382 : decode cX11_init 382 = .ok (.bipush 120, 2) := by decide +kernel
theorem dX11_init_384 : decode cX11_init 384 = .ok (.iastore, 1) := by decide +kernel
theorem dX11_init_385 : decode cX11_init 385 = .ok (.aload_n 0, 1) := by decide +kernel
theorem dX11_init_386 : decode cX11_init 386 = .ok (.getfield 13, 3) := by decide +kernel
theorem dX11_init_389 : decode cX11_init 389 = .ok (.iconst 4, 1) := by decide +kernel
theorem dX11_init_390 : decode cX11_init 390 = .ok (.iload_n 1, 1) := by decide +kernel
theorem dX11_init_391 : decode cX11_init 391 = .ok (.imul, 1) := by decide +kernel
theorem dX11_init_392 : decode cX11_init 392 = .ok (.iconst 2, 1) := by decide +kernel
theorem dX11_init_393 : decode cX11_init 393 = .ok (.iadd, 1) := by decide +kernel
theorem dX11_init_394 : decode cX11_init 394 = .ok (.sipush 1200, 3) := by decide +kernel
theorem dX11_init_397 : decode cX11_init 397 = .ok (.iastore, 1) := by decide +kernel
theorem dX11_init_398 : decode cX11_init 398 = .ok (.aload_n 0, 1) := by decide +kernel
theorem dX11_init_399 : decode cX11_init 399 = .ok (.getfield 13, 3) := by decide +kernel
theorem dX11_init_402 : decode cX11_init 402 = .ok (.iconst 4, 1) := by decide +kernel
theorem dX11_init_403 : decode cX11_init 403 = .ok (.iload_n 1, 1) := by decide +kernel
theorem dX11_init_404 : decode cX11_init 404 = .ok (.imul, 1) := by decide +kernel
theorem dX11_init_405 : decode cX11_init 405 = .ok (.iconst 3, 1) := by decide +kernel
theorem dX11_init_406 : decode cX11_init 406 = .ok (.iadd, 1) := by decide +kernel
theorem dX11_init_407 : decode cX11_init 407 = .ok (.sipush 1400, 3) := by decide +kernel
theorem dX11_init_410 : decode cX11_init 410 = .ok (.iastore, 1) := by decide +kernel
theorem dX11_init_411 : decode cX11_init 411 = .ok (.iinc 1 1, 3) := by decide +kernel
theorem dX11_init_414 : decode cX11_init 414 = .ok (.goto (-57), 3) := by decide +kernel
theorem dX11_init_417 : decode cX11_init 417 = .ok (.iconst 0, 1) := by decide +kernel
theorem dX11_init_418 : decode cX11_init 418 = .ok (.istore_n 1, 1) := by decide +kernel
theorem dX11_init_419 : decode cX11_init 419 = .ok (.iload_n 1, 1) := by decide +kernel
theorem dX11_init_420 : decode cX11_init 420 = .ok (.bipush 12, 2) := by decide +kernel
theorem dX11_init_422 : decode cX11_init 422 = .ok (.if_icmp .ge 33, 3) := by decide +kernel
theorem dX11_init_425 : decode cX11_init 425 = .ok (.aload_n 0, 1) := by decide +kernel
theorem dX11_init_426 : decode cX11_init 426 = .ok (.getfield 46, 3) := by decide +kernel
theorem dX11_init_429 : decode cX11_init 429 = .ok (.iload_n 1, 1) := by decide +kernel
theorem dX11_init_430 : decode cX11_init 430 = .ok (.bipush 10, 2) := by decide +kernel
theorem dX11_init_432 : decode cX11_init 432 = .ok (.iastore, 1) := by decide +kernel
theorem dX11_init_433 : decode cX11_init 433 = .ok (.aload_n 0, 1) := by decide +kernel
theorem dX11_init_434 : decode cX11_init 434 = .ok (.getfield 49, 3) := by decide +kernel
theorem dX11_init_437 : decode cX11_init 437 = .ok (.iload_n 1, 1) := by decide +kernel
theorem dX11_init_438 : decode cX11_init 438 = .ok (.bipush 20, 2) := by decide +kernel
theorem dX11_init_440 : decode cX11_init 440 = .ok (.iastore, 1) := by decide +kernel
theorem dX11_init_441 : decode cX11_init 441 = .ok (.aload_n 0, 1) := by decide +kernel
theorem dX11_init_442 : decode cX11_init 442 = .ok (.getfield 52, 3) := by decide +kernel
theorem dX11_init_445 : decode cX11_init 445 = .ok (.iload_n 1, 1) := by decide +kernel
theorem dX11_init_446 : decode cX11_init 446 = .ok (.bipush (-9), 2) := by decide +kernel
theorem dX11_init_448 : decode cX11_init 448 = .ok (.iastore, 1) := by decide +kernel
theorem dX11_init_449 : decode cX11_init 449 = .ok (.iinc 1 1, 3) := by decide +kernel
theorem dX11_init_452 : decode cX11_init 452 = .ok (.goto (-33), 3) := by decide +kernel
theorem dX11_init_455 : decode cX11_init 455 = .ok (.iconst 0, 1) := by decide +kernel
theorem dX11_init_456 : decode cX11_init 456 = .ok (.istore_n 1, 1) := by decide +kernel
theorem dX11_init_457 : decode cX11_init 457 = .ok (.iload_n 1, 1) := by decide +kernel
theorem dX11_init_458 : decode cX11_init 458 = .ok (.iconst 3, 1) := by decide +kernel
theorem dX11_init_459 : decode cX11_init 459 = .ok (.if_icmp .ge 16, 3) := by decide +kernel
theorem dX11_init_462 : decode cX11_init 462 = .ok (.aload_n 0, 1) := by decide +kernel
theorem dX11_init_463 : decode cX11_init 463 = .ok (.getfield 89, 3) := by decide +kernel
theorem dX11_init_466 : decode cX11_init 466 = .ok (.iload_n 1, 1) := by decide +kernel
theorem dX11_init_467 : decode cX11_init 467 = .ok (.iconst 1, 1) := by decide +kernel
theorem dX11_init_468 : decode cX11_init 468 = .ok (.iastore, 1) := by decide +kernel
theorem dX11_init_469 : decode cX11_init 469 = .ok (.iinc 1 1, 3) := by decide +kernel
theorem dX11_init_472 : decode cX11_init 472 = .ok (.goto (-15), 3) := by decide +kernel
theorem dX11_init_475 : decode cX11_init 475 = .ok (.return_, 1) := by decide +kernel
theorem dX11_refuse_0 : decode cX11_refuse 0 = .ok (.aload_n 0, 1) := by decide +kernel
theorem dX11_refuse_1 : decode cX11_refuse 1 = .ok (.getfield 7, 3) := by decide +kernel
theorem dX11_refuse_4 : decode cX11_refuse 4 = .ok (.iload_n 1, 1) := by decide +kernel
theorem dX11_refuse_5 : decode cX11_refuse 5 = .ok (.ineg, 1) := by decide +kernel
theorem dX11_refuse_6 : decode cX11_refuse 6 = .ok (.dup2, 1) := by decide +kernel
theorem dX11_refuse_7 : decode cX11_refuse 7 = .ok (.iaload, 1) := by decide +kernel
theorem dX11_refuse_8 : decode cX11_refuse 8 = .ok (.iconst 1, 1) := by decide +kernel
theorem dX11_refuse_9 : decode cX11_refuse 9 = .ok (.iadd, 1) := by decide +kernel
theorem dX11_refuse_10 : decode cX11_refuse 10 = .ok (.iastore, 1) := by decide +kernel
theorem dX11_refuse_11 : decode cX11_refuse 11 = .ok (.iload_n 1, 1) := by decide +kernel
theorem dX11_refuse_12 : decode cX11_refuse 12 = .ok (.ireturn, 1) := by decide +kernel
theorem dX11_isIn_0 : decode cX11_isIn 0 = .ok (.iload_n 0, 1) := by decide +kernel
theorem dX11_isIn_1 : decode cX11_isIn 1 = .ok (.ifCond .lt 12, 3) := by decide +kernel
theorem dX11_isIn_4 : decode cX11_isIn 4 = .ok (.iload_n 0, 1) := by decide +kernel
theorem dX11_isIn_5 : decode cX11_isIn 5 = .ok (.iload_n 1, 1) := by decide +kernel
theorem dX11_isIn_6 : decode cX11_isIn 6 = .ok (.if_icmp .ge 7, 3) := by decide +kernel
theorem dX11_isIn_9 : decode cX11_isIn 9 = .ok (.iconst 1, 1) := by decide +kernel
theorem dX11_isIn_10 : decode cX11_isIn 10 = .ok (.goto 4, 3) := by decide +kernel
theorem dX11_isIn_13 : decode cX11_isIn 13 = .ok (.iconst 0, 1) := by decide +kernel
theorem dX11_isIn_14 : decode cX11_isIn 14 = .ok (.ireturn, 1) := by decide +kernel
theorem dX11_wrong_0 : decode cX11_wrong 0 = .ok (.iload_n 0, 1) := by decide +kernel
theorem dX11_wrong_1 : decode cX11_wrong 1 = .ok (.iload_n 1, 1) := by decide +kernel
theorem dX11_wrong_2 : decode cX11_wrong 2 = .ok (.if_icmp .ge 8, 3) := by decide +kernel
theorem dX11_wrong_5 : decode cX11_wrong 5 = .ok (.bipush (-4), 2) := by decide +kernel
theorem dX11_wrong_7 : decode cX11_wrong 7 = .ok (.goto 14, 3) := by decide +kernel
theorem dX11_wrong_10 : decode cX11_wrong 10 = .ok (.iload_n 0, 1) := by decide +kernel
theorem dX11_wrong_11 : decode cX11_wrong 11 = .ok (.iload_n 2, 1) := by decide +kernel
theorem dX11_wrong_12 : decode cX11_wrong 12 = .ok (.if_icmp .le 8, 3) := by decide +kernel
theorem dX11_wrong_15 : decode cX11_wrong 15 = .ok (.bipush (-6), 2) := by decide +kernel
theorem dX11_wrong_17 : decode cX11_wrong 17 = .ok (.goto 4, 3) := by decide +kernel
theorem dX11_wrong_20 : decode cX11_wrong 20 = .ok (.iconst 0, 1) := by decide +kernel
theorem dX11_wrong_21 : decode cX11_wrong 21 = .ok (.ireturn, 1) := by decide +kernel
theorem dX11_paste_0 : decode cX11_paste 0 = .ok (.iload_n 1, 1) := by decide +kernel
theorem dX11_paste_1 : decode cX11_paste 1 = .ok (.bipush 6, 2) := by decide +kernel
theorem dX11_paste_3 : decode cX11_paste 3 = .ok (.invokestatic 144, 3) := by decide +kernel
theorem dX11_paste_6 : decode cX11_paste 6 = .ok (.ifCond .ne 7, 3) := by decide +kernel
theorem dX11_paste_9 : decode cX11_paste 9 = .ok (.iconst (-1), 1) := by decide +kernel
theorem dX11_paste_10 : decode cX11_paste 10 = .ok (.goto 45, 3) := by decide +kernel
theorem dX11_paste_13 : decode cX11_paste 13 = .ok (.iload_n 2, 1) := by decide +kernel
theorem dX11_paste_14 : decode cX11_paste 14 = .ok (.iconst 4, 1) := by decide +kernel
theorem dX11_paste_15 : decode cX11_paste 15 = .ok (.invokestatic 144, 3) := by decide +kernel
theorem dX11_paste_18 : decode cX11_paste 18 = .ok (.ifCond .ne 8, 3) := by decide +kernel
theorem dX11_paste_21 : decode cX11_paste 21 = .ok (.bipush (-2), 2) := by decide +kernel
theorem dX11_paste_23 : decode cX11_paste 23 = .ok (.goto 32, 3) := by decide +kernel
theorem dX11_paste_26 : decode cX11_paste 26 = .ok (.iload_n 3, 1) := by decide +kernel
theorem dX11_paste_27 : decode cX11_paste 27 = .ok (.iconst 0, 1) := by decide +kernel
theorem dX11_paste_28 : decode cX11_paste 28 = .ok (.iload_n 2, 1) := by decide +kernel
theorem dX11_paste_29 : decode cX11_paste 29 = .ok (.ifCond .ne 9, 3) := by decide +kernel
theorem dX11_paste_32 : decode cX11_paste 32 = .ok (.sipush 200, 3) := by decide +kernel
theorem dX11_paste_35 : decode cX11_paste 35 = .ok (.goto 17, 3) := by decide +kernel
theorem dX11_paste_38 : decode cX11_paste 38 = .ok (.iload_n 2, 1) := by decide +kernel
theorem dX11_paste_39 : decode cX11_paste 39 = .ok (.iconst 1, 1) := by decide +kernel
theorem dX11_paste_40 : decode cX11_paste 40 = .ok (.if_icmp .ne 9, 3) := by decide +kernel
theorem dX11_paste_43 : decode cX11_paste 43 = .ok (.sipush 300, 3) := by decide +kernel
theorem dX11_paste_46 : decode cX11_paste 46 = .ok (.goto 6, 3) := by decide +kernel
theorem dX11_paste_49 : decode cX11_paste 49 = .ok (.sipush 2000, 3) := by decide +kernel
theorem dX11_paste_52 : decode cX11_paste 52 = .ok (.invokestatic 148, 3) := by decide +kernel
theorem dX11_paste_55 : decode cX11_paste 55 = .ok (.istore 4, 2) := by decide +kernel
theorem dX11_paste_57 : decode cX11_paste 57 = .ok (.iload 4, 2) := by decide +kernel
theorem dX11_paste_59 : decode cX11_paste 59 = .ok (.ifCond .eq 10, 3) := by decide +kernel
theorem dX11_paste_62 : decode cX11_paste 62 = .ok (.aload_n 0, 1) := by decide +kernel
theorem dX11_paste_63 : decode cX11_paste 63 = .ok (.iload 4, 2) := by decide +kernel
theorem dX11_paste_65 : decode cX11_paste 65 = .ok (.invokevirtual 152, 3) := by decide +kernel
theorem dX11_paste_68 : decode cX11_paste 68 = .ok (.ireturn, 1) := by decide +kernel
theorem dX11_paste_69 : decode cX11_paste 69 = .ok (.aload_n 0, 1) := by decide +kernel
theorem dX11_paste_70 : decode cX11_paste 70 = .ok (.getfield 13, 3) := by decide +kernel
theorem dX11_paste_73 : decode cX11_paste 73 = .ok (.iconst 4, 1) := by decide +kernel
theorem dX11_paste_74 : decode cX11_paste 74 = .ok (.iload_n 1, 1) := by decide +kernel
theorem dX11_paste_75 : decode cX11_paste 75 = .ok (.imul, 1) := by decide +kernel
theorem dX11_paste_76 : decode cX11_paste 76 = .ok (.iload_n 2, 1) := by decide +kernel
theorem dX11_paste_77 : decode cX11_paste 77 = .ok (.iadd, 1) := by decide +kernel
theorem dX11_paste_78 : decode cX11_paste 78 = .ok (.iaload, 1) := by decide +kernel
theorem dX11_paste_79 : decode cX11_paste 79 = .ok (.istore 5, 2) := by decide +kernel
theorem dX11_paste_81 : decode cX11_paste 81 = .ok (.aload_n 0, 1) := by decide +kernel
theorem dX11_paste_82 : decode cX11_paste 82 = .ok (.getfield 13, 3) := by decide +kernel
theorem dX11_paste_85 : decode cX11_paste 85 = .ok (.iconst 4, 1) := by decide +kernel
theorem dX11_paste_86 : decode cX11_paste 86 = .ok (.iload_n 1, 1) := by decide +kernel
theorem dX11_paste_87 : decode cX11_paste 87 = .ok (.imul, 1) := by decide +kernel
theorem dX11_paste_88 : decode cX11_paste 88 = .ok (.iload_n 2, 1) := by decide +kernel
theorem dX11_paste_89 : decode cX11_paste 89 = .ok (.iadd, 1) := by decide +kernel
theorem dX11_paste_90 : decode cX11_paste 90 = .ok (.iload_n 3, 1) := by decide +kernel
theorem dX11_paste_91 : decode cX11_paste 91 = .ok (.iastore, 1) := by decide +kernel
theorem dX11_paste_92 : decode cX11_paste 92 = .ok (.iload 5, 2) := by decide +kernel
theorem dX11_paste_94 : decode cX11_paste 94 = .ok (.ireturn, 1) := by decide +kernel
theorem dX11_batch_0 : decode cX11_batch 0 = .ok (.iload_n 1, 1) := by decide +kernel
theorem dX11_batch_1 : decode cX11_batch 1 = .ok (.bipush 6, 2) := by decide +kernel
theorem dX11_batch_3 : decode cX11_batch 3 = .ok (.invokestatic 144, 3) := by decide +kernel
theorem dX11_batch_6 : decode cX11_batch 6 = .ok (.ifCond .ne 9, 3) := by decide +kernel
theorem dX11_batch_9 : decode cX11_batch 9 = .ok (.aload_n 0, 1) := by decide +kernel
theorem dX11_batch_10 : decode cX11_batch 10 = .ok (.iconst (-1), 1) := by decide +kernel
theorem dX11_batch_11 : decode cX11_batch 11 = .ok (.invokevirtual 152, 3) := by decide +kernel
theorem dX11_batch_14 : decode cX11_batch 14 = .ok (.ireturn, 1) := by decide +kernel
theorem dX11_batch_15 : decode cX11_batch 15 = .ok (.iload_n 2, 1) := by decide +kernel
theorem dX11_batch_16 : decode cX11_batch 16 = .ok (.iconst 1, 1) := by decide +kernel
theorem dX11_batch_17 : decode cX11_batch 17 = .ok (.if_icmp .ge 10, 3) := by decide +kernel
theorem dX11_batch_20 : decode cX11_batch 20 = .ok (.aload_n 0, 1) := by decide +kernel
theorem dX11_batch_21 : decode cX11_batch 21 = .ok (.bipush (-4), 2) := by decide +kernel
theorem dX11_batch_23 : decode cX11_batch 23 = .ok (.invokevirtual 152, 3) := by decide +kernel
theorem dX11_batch_26 : decode cX11_batch 26 = .ok (.ireturn, 1) := by decide +kernel
theorem dX11_batch_27 : decode cX11_batch 27 = .ok (.iload_n 2, 1) := by decide +kernel
theorem dX11_batch_28 : decode cX11_batch 28 = .ok (.sipush 1000, 3) := by decide +kernel
theorem dX11_batch_31 : decode cX11_batch 31 = .ok (.if_icmp .gt 12, 3) := by decide +kernel
theorem dX11_batch_34 : decode cX11_batch 34 = .ok (.aload_n 0, 1) := by decide +kernel
theorem dX11_batch_35 : decode cX11_batch 35 = .ok (.getfield 156, 3) := by decide +kernel
theorem dX11_batch_38 : decode cX11_batch 38 = .ok (.bipush 20, 2) := by decide +kernel
theorem dX11_batch_40 : decode cX11_batch 40 = .ok (.if_icmp .ne 10, 3) := by decide +kernel
theorem dX11_batch_43 : decode cX11_batch 43 = .ok (.aload_n 0, 1) := by decide +kernel
theorem dX11_batch_44 : decode cX11_batch 44 = .ok (.bipush (-6), 2) := by decide +kernel
theorem dX11_batch_46 : decode cX11_batch 46 = .ok (.invokevirtual 152, 3) := by decide +kernel
theorem dX11_batch_49 : decode cX11_batch 49 = .ok (.ireturn, 1) := by decide +kernel
theorem dX11_batch_50 : decode cX11_batch 50 = .ok (.aload_n 0, 1) := by decide +kernel
theorem dX11_batch_51 : decode cX11_batch 51 = .ok (.getfield 16, 3) := by decide +kernel
theorem dX11_batch_54 : decode cX11_batch 54 = .ok (.aload_n 0, 1) := by decide +kernel
theorem dX11_batch_55 : decode cX11_batch 55 = .ok (.getfield 156, 3) := by decide +kernel
theorem dX11_batch_58 : decode cX11_batch 58 = .ok (.iload_n 1, 1) := by decide +kernel
theorem dX11_batch_59 : decode cX11_batch 59 = .ok (.iastore, 1) := by decide +kernel
theorem dX11_batch_60 : decode cX11_batch 60 = .ok (.aload_n 0, 1) := by decide +kernel
theorem dX11_batch_61 : decode cX11_batch 61 = .ok (.getfield 19, 3) := by decide +kernel
theorem dX11_batch_64 : decode cX11_batch 64 = .ok (.aload_n 0, 1) := by decide +kernel
theorem dX11_batch_65 : decode cX11_batch 65 = .ok (.getfield 156, 3) := by decide +kernel
theorem dX11_batch_68 : decode cX11_batch 68 = .ok (.iload_n 2, 1) := by decide +kernel
theorem dX11_batch_69 : decode cX11_batch 69 = .ok (.iastore, 1) := by decide +kernel
theorem dX11_batch_70 : decode cX11_batch 70 = .ok (.aload_n 0, 1) := by decide +kernel
theorem dX11_batch_71 : decode cX11_batch 71 = .ok (.getfield 22, 3) := by decide +kernel
theorem dX11_batch_74 : decode cX11_batch 74 = .ok (.aload_n 0, 1) := by decide +kernel
theorem dX11_batch_75 : decode cX11_batch 75 = .ok (.getfield 156, 3) := by decide +kernel
theorem dX11_batch_78 : decode cX11_batch 78 = .ok (.aload_n 0, 1) := by decide +kernel
theorem dX11_batch_79 : decode cX11_batch 79 = .ok (.getfield 160, 3) := by decide +kernel
theorem dX11_batch_82 : decode cX11_batch 82 = .ok (.iastore, 1) := by decide +kernel
theorem dX11_batch_83 : decode cX11_batch 83 = .ok (.aload_n 0, 1) := by decide +kernel
theorem dX11_batch_84 : decode cX11_batch 84 = .ok (.dup, 1) := by decide +kernel
theorem dX11_batch_85 : decode cX11_batch 85 = .ok (.getfield 156, 3) := by decide +kernel
theorem dX11_batch_88 : decode cX11_batch 88 = .ok (.iconst 1, 1) := by decide +kernel
theorem dX11_batch_89 : decode cX11_batch 89 = .ok (.iadd, 1) := by decide +kernel
theorem dX11_batch_90 : decode cX11_batch 90 = .ok (.putfield 156, 3) := by decide +kernel
theorem dX11_batch_93 : decode cX11_batch 93 = .ok (.aload_n 0, 1) := by decide +kernel
theorem dX11_batch_94 : decode cX11_batch 94 = .ok (.getfield 156, 3) := by decide +kernel
theorem dX11_batch_97 : decode cX11_batch 97 = .ok (.iconst 1, 1) := by decide +kernel
theorem dX11_batch_98 : decode cX11_batch 98 = .ok (.isub, 1) := by decide +kernel
theorem dX11_batch_99 : decode cX11_batch 99 = .ok (.ireturn, 1) := by decide +kernel
theorem dX11_goes_0 : decode cX11_goes 0 = .ok (.iconst 0, 1) := by decide +kernel
theorem dX11_goes_1 : decode cX11_goes 1 = .ok (.istore_n 2, 1) := by decide +kernel
theorem dX11_goes_2 : decode cX11_goes 2 = .ok (.iload_n 2, 1) := by decide +kernel
theorem dX11_goes_3 : decode cX11_goes 3 = .ok (.iload_n 1, 1) := by decide +kernel
theorem dX11_goes_4 : decode cX11_goes 4 = .ok (.if_icmp .ge 69, 3) := by decide +kernel
theorem dX11_goes_7 : decode cX11_goes 7 = .ok (.aload_n 0, 1) := by decide +kernel
theorem dX11_goes_8 : decode cX11_goes 8 = .ok (.dup, 1) := by decide +kernel
theorem dX11_goes_9 : decode cX11_goes 9 = .ok (.getfield 160, 3) := by decide +kernel
theorem dX11_goes_12 : decode cX11_goes 12 = .ok (.iconst 1, 1) := by decide +kernel
theorem dX11_goes_13 : decode cX11_goes 13 = .ok (.iadd, 1) := by decide +kernel
theorem dX11_goes_14 : decode cX11_goes 14 = .ok (.putfield 160, 3) := by decide +kernel
theorem dX11_goes_17 : decode cX11_goes 17 = .ok (.iconst 0, 1) := by decide +kernel
theorem dX11_goes_18 : decode cX11_goes 18 = .ok (.istore_n 3, 1) := by decide +kernel
theorem dX11_goes_19 : decode cX11_goes 19 = .ok (.iload_n 3, 1) := by decide +kernel
theorem dX11_goes_20 : decode cX11_goes 20 = .ok (.aload_n 0, 1) := by decide +kernel
theorem dX11_goes_21 : decode cX11_goes 21 = .ok (.getfield 163, 3) := by decide +kernel
theorem dX11_goes_24 : decode cX11_goes 24 = .ok (.if_icmp .ge 43, 3) := by decide +kernel
theorem dX11_goes_27 : decode cX11_goes 27 = .ok (.aload_n 0, 1) := by decide +kernel
theorem dX11_goes_28 : decode cX11_goes 28 = .ok (.getfield 160, 3) := by decide +kernel
theorem dX11_goes_31 : decode cX11_goes 31 = .ok (.aload_n 0, 1) := by decide +kernel
theorem dX11_goes_32 : decode cX11_goes 32 = .ok (.getfield 141, 3) := by decide +kernel
theorem dX11_goes_35 : decode cX11_goes 35 = .ok (.iload_n 3, 1) := by decide +kernel
theorem dX11_goes_36 : decode cX11_goes 36 = .ok (.iaload, 1) := by decide +kernel
theorem dX11_goes_37 : decode cX11_goes 37 = .ok (.isub, 1) := by decide +kernel
theorem dX11_goes_38 : decode cX11_goes 38 = .ok (.bipush 30, 2) := by decide +kernel
theorem dX11_goes_40 : decode cX11_goes 40 = .ok (.irem, 1) := by decide +kernel
theorem dX11_goes_41 : decode cX11_goes 41 = .ok (.ifCond .ne 20, 3) := by decide +kernel
theorem dX11_goes_44 : decode cX11_goes 44 = .ok (.aload_n 0, 1) := by decide +kernel
theorem dX11_goes_45 : decode cX11_goes 45 = .ok (.getfield 135, 3) := by decide +kernel
theorem dX11_goes_48 : decode cX11_goes 48 = .ok (.iload_n 3, 1) := by decide +kernel
theorem dX11_goes_49 : decode cX11_goes 49 = .ok (.aload_n 0, 1) := by decide +kernel
theorem dX11_goes_50 : decode cX11_goes 50 = .ok (.iload_n 3, 1) := by decide +kernel
theorem dX11_goes_51 : decode cX11_goes 51 = .ok (.aload_n 0, 1) := by decide +kernel
theorem dX11_goes_52 : decode cX11_goes 52 = .ok (.getfield 135, 3) := by decide +kernel
theorem dX11_goes_55 : decode cX11_goes 55 = .ok (.iload_n 3, 1) := by decide +kernel
theorem dX11_goes_56 : decode cX11_goes 56 = .ok (.iaload, 1) := by decide +kernel
theorem dX11_goes_57 : decode cX11_goes 57 = .ok (.invokevirtual 166, 3) := by decide +kernel
theorem dX11_goes_60 : decode cX11_goes 60 = .ok (.iastore, 1) := by decide +kernel
theorem dX11_goes_61 : decode cX11_goes 61 = .ok (.iinc 3 1, 3) := by decide +kernel
theorem dX11_goes_64 : decode cX11_goes 64 = .ok (.goto (-45), 3) := by decide +kernel
theorem dX11_goes_67 : decode cX11_goes 67 = .ok (.iinc 2 1, 3) := by decide +kernel
theorem dX11_goes_70 : decode cX11_goes 70 = .ok (.goto (-68), 3) := by decide +kernel
theorem dX11_goes_73 : decode cX11_goes 73 = .ok (.return_, 1) := by decide +kernel
theorem dX11_days_0 : decode cX11_days 0 = .ok (.iload_n 1, 1) := by decide +kernel
theorem dX11_days_1 : decode cX11_days 1 = .ok (.iconst 1, 1) := by decide +kernel
theorem dX11_days_2 : decode cX11_days 2 = .ok (.sipush 4000, 3) := by decide +kernel
theorem dX11_days_5 : decode cX11_days 5 = .ok (.aload_n 0, 1) := by decide +kernel
theorem dX11_days_6 : decode cX11_days 6 = .ok (.getfield 160, 3) := by decide +kernel
theorem dX11_days_9 : decode cX11_days 9 = .ok (.isub, 1) := by decide +kernel
theorem dX11_days_10 : decode cX11_days 10 = .ok (.invokestatic 148, 3) := by decide +kernel
theorem dX11_days_13 : decode cX11_days 13 = .ok (.istore_n 2, 1) := by decide +kernel
theorem dX11_days_14 : decode cX11_days 14 = .ok (.iload_n 2, 1) := by decide +kernel
theorem dX11_days_15 : decode cX11_days 15 = .ok (.ifCond .eq 9, 3) := by decide +kernel
theorem dX11_days_18 : decode cX11_days 18 = .ok (.aload_n 0, 1) := by decide +kernel
theorem dX11_days_19 : decode cX11_days 19 = .ok (.iload_n 2, 1) := by decide +kernel
theorem dX11_days_20 : decode cX11_days 20 = .ok (.invokevirtual 152, 3) := by decide +kernel
theorem dX11_days_23 : decode cX11_days 23 = .ok (.ireturn, 1) := by decide +kernel
theorem dX11_days_24 : decode cX11_days 24 = .ok (.aload_n 0, 1) := by decide +kernel
theorem dX11_days_25 : decode cX11_days 25 = .ok (.iload_n 1, 1) := by decide +kernel
theorem dX11_days_26 : decode cX11_days 26 = .ok (.invokevirtual 170, 3) := by decide +kernel
theorem dX11_days_29 : decode cX11_days 29 = .ok (.aload_n 0, 1) := by decide +kernel
theorem dX11_days_30 : decode cX11_days 30 = .ok (.getfield 160, 3) := by decide +kernel
theorem dX11_days_33 : decode cX11_days 33 = .ok (.ireturn, 1) := by decide +kernel
theorem dX11_piece_0 : decode cX11_piece 0 = .ok (.iload_n 1, 1) := by decide +kernel
theorem dX11_piece_1 : decode cX11_piece 1 = .ok (.aload_n 0, 1) := by decide +kernel
theorem dX11_piece_2 : decode cX11_piece 2 = .ok (.getfield 156, 3) := by decide +kernel
theorem dX11_piece_5 : decode cX11_piece 5 = .ok (.invokestatic 144, 3) := by decide +kernel
theorem dX11_piece_8 : decode cX11_piece 8 = .ok (.ifCond .eq 12, 3) := by decide +kernel
theorem dX11_piece_11 : decode cX11_piece 11 = .ok (.iload_n 2, 1) := by decide +kernel
theorem dX11_piece_12 : decode cX11_piece 12 = .ok (.bipush 10, 2) := by decide +kernel
theorem dX11_piece_14 : decode cX11_piece 14 = .ok (.invokestatic 144, 3) := by decide +kernel
theorem dX11_piece_17 : decode cX11_piece 17 = .ok (.ifCond .ne 9, 3) := by decide +kernel
theorem dX11_piece_20 : decode cX11_piece 20 = .ok (.aload_n 0, 1) := by decide +kernel
theorem dX11_piece_21 : decode cX11_piece 21 = .ok (.iconst (-1), 1) := by decide +kernel
theorem dX11_piece_22 : decode cX11_piece 22 = .ok (.invokevirtual 152, 3) := by decide +kernel
theorem dX11_piece_25 : decode cX11_piece 25 = .ok (.ireturn, 1) := by decide +kernel
theorem dX11_piece_26 : decode cX11_piece 26 = .ok (.aload_n 0, 1) := by decide +kernel
theorem dX11_piece_27 : decode cX11_piece 27 = .ok (.getfield 160, 3) := by decide +kernel
theorem dX11_piece_30 : decode cX11_piece 30 = .ok (.aload_n 0, 1) := by decide +kernel
theorem dX11_piece_31 : decode cX11_piece 31 = .ok (.getfield 22, 3) := by decide +kernel
theorem dX11_piece_34 : decode cX11_piece 34 = .ok (.iload_n 1, 1) := by decide +kernel
theorem dX11_piece_35 : decode cX11_piece 35 = .ok (.iaload, 1) := by decide +kernel
theorem dX11_piece_36 : decode cX11_piece 36 = .ok (.isub, 1) := by decide +kernel
theorem dX11_piece_37 : decode cX11_piece 37 = .ok (.aload_n 0, 1) := by decide +kernel
theorem dX11_piece_38 : decode cX11_piece 38 = .ok (.getfield 13, 3) := by decide +kernel
theorem dX11_piece_41 : decode cX11_piece 41 = .ok (.iconst 4, 1) := by decide +kernel
theorem dX11_piece_42 : decode cX11_piece 42 = .ok (.aload_n 0, 1) := by decide +kernel
theorem dX11_piece_43 : decode cX11_piece 43 = .ok (.getfield 16, 3) := by decide +kernel
theorem dX11_piece_46 : decode cX11_piece 46 = .ok (.iload_n 1, 1) := by decide +kernel
theorem dX11_piece_47 : decode cX11_piece 47 = .ok (.iaload, 1) := by decide +kernel
theorem dX11_piece_48 : decode cX11_piece 48 = .ok (.imul, 1) := by decide +kernel
theorem dX11_piece_49 : decode cX11_piece 49 = .ok (.iaload, 1) := by decide +kernel
theorem dX11_piece_50 : decode cX11_piece 50 = .ok (.if_icmp .ge 10, 3) := by decide +kernel
theorem dX11_piece_53 : decode cX11_piece 53 = .ok (.aload_n 0, 1) := by decide +kernel
theorem dX11_piece_54 : decode cX11_piece 54 = .ok (.bipush (-3), 2) := by decide +kernel
theorem dX11_piece_56 : decode cX11_piece 56 = .ok (.invokevirtual 152, 3) := by decide +kernel
theorem dX11_piece_59 : decode cX11_piece 59 = .ok (.ireturn, 1) := by decide +kernel
theorem dX11_piece_60 : decode cX11_piece 60 = .ok (.iload_n 3, 1) := by decide +kernel
theorem dX11_piece_61 : decode cX11_piece 61 = .ok (.iconst 1, 1) := by decide +kernel
theorem dX11_piece_62 : decode cX11_piece 62 = .ok (.if_icmp .lt 10, 3) := by decide +kernel
theorem dX11_piece_65 : decode cX11_piece 65 = .ok (.iload 4, 2) := by decide +kernel
theorem dX11_piece_67 : decode cX11_piece 67 = .ok (.bipush 10, 2) := by decide +kernel
theorem dX11_piece_69 : decode cX11_piece 69 = .ok (.if_icmp .ge 10, 3) := by decide +kernel
theorem dX11_piece_72 : decode cX11_piece 72 = .ok (.aload_n 0, 1) := by decide +kernel
theorem dX11_piece_73 : decode cX11_piece 73 = .ok (.bipush (-4), 2) := by decide +kernel
theorem dX11_piece_75 : decode cX11_piece 75 = .ok (.invokevirtual 152, 3) := by decide +kernel
theorem dX11_piece_78 : decode cX11_piece 78 = .ok (.ireturn, 1) := by decide +kernel
theorem dX11_piece_79 : decode cX11_piece 79 = .ok (.iload_n 3, 1) := by decide +kernel
theorem dX11_piece_80 : decode cX11_piece 80 = .ok (.bipush 40, 2) := by decide +kernel
theorem dX11_piece_82 : decode cX11_piece 82 = .ok (.if_icmp .gt 30, 3) := by decide +kernel
theorem dX11_piece_85 : decode cX11_piece 85 = .ok (.iload_n 3, 1) := by decide +kernel
theorem dX11_piece_86 : decode cX11_piece 86 = .ok (.aload_n 0, 1) := by decide +kernel
theorem dX11_piece_87 : decode cX11_piece 87 = .ok (.getfield 19, 3) := by decide +kernel
theorem dX11_piece_90 : decode cX11_piece 90 = .ok (.iload_n 1, 1) := by decide +kernel
theorem dX11_piece_91 : decode cX11_piece 91 = .ok (.iaload, 1) := by decide +kernel
theorem dX11_piece_92 : decode cX11_piece 92 = .ok (.if_icmp .gt 20, 3) := by decide +kernel
theorem dX11_piece_95 : decode cX11_piece 95 = .ok (.iload 4, 2) := by decide +kernel
theorem dX11_piece_97 : decode cX11_piece 97 = .ok (.sipush 900, 3) := by decide +kernel
theorem dX11_piece_100 : decode cX11_piece 100 = .ok (.if_icmp .gt 12, 3) := by decide +kernel
theorem dX11_piece_103 : decode cX11_piece 103 = .ok (.aload_n 0, 1) := by decide +kernel
theorem dX11_piece_104 : decode cX11_piece 104 = .ok (.getfield 174, 3) := by decide +kernel
theorem dX11_piece_107 : decode cX11_piece 107 = .ok (.bipush 80, 2) := by decide +kernel
theorem dX11_piece_109 : decode cX11_piece 109 = .ok (.if_icmp .ne 10, 3) := by decide +kernel
theorem dX11_piece_112 : decode cX11_piece 112 = .ok (.aload_n 0, 1) := by decide +kernel
theorem dX11_piece_113 : decode cX11_piece 113 = .ok (.bipush (-6), 2) := by decide +kernel
theorem dX11_piece_115 : decode cX11_piece 115 = .ok (.invokevirtual 152, 3) := by decide +kernel
theorem dX11_piece_118 : decode cX11_piece 118 = .ok (.ireturn, 1) := by decide +kernel
theorem dX11_piece_119 : decode cX11_piece 119 = .ok (.aload_n 0, 1) := by decide +kernel
theorem dX11_piece_120 : decode cX11_piece 120 = .ok (.getfield 19, 3) := by decide +kernel
theorem dX11_piece_123 : decode cX11_piece 123 = .ok (.iload_n 1, 1) := by decide +kernel
theorem dX11_piece_124 : decode cX11_piece 124 = .ok (.dup2, 1) := by decide +kernel
theorem dX11_piece_125 : decode cX11_piece 125 = .ok (.iaload, 1) := by decide +kernel
theorem dX11_piece_126 : decode cX11_piece 126 = .ok (.iload_n 3, 1) := by decide +kernel
theorem dX11_piece_127 : decode cX11_piece 127 = .ok (.isub, 1) := by decide +kernel
theorem dX11_piece_128 : decode cX11_piece 128 = .ok (.iastore, 1) := by decide +kernel
theorem dX11_piece_129 : decode cX11_piece 129 = .ok (.aload_n 0, 1) := by decide +kernel
theorem dX11_piece_130 : decode cX11_piece 130 = .ok (.getfield 25, 3) := by decide +kernel
theorem dX11_piece_133 : decode cX11_piece 133 = .ok (.aload_n 0, 1) := by decide +kernel
theorem dX11_piece_134 : decode cX11_piece 134 = .ok (.getfield 174, 3) := by decide +kernel
theorem dX11_piece_137 : decode cX11_piece 137 = .ok (.iload_n 1, 1) := by decide +kernel
theorem dX11_piece_138 : decode cX11_piece 138 = .ok (.iastore, 1) := by decide +kernel
theorem dX11_piece_139 : decode cX11_piece 139 = .ok (.aload_n 0, 1) := by decide +kernel
theorem dX11_piece_140 : decode cX11_piece 140 = .ok (.getfield 28, 3) := by decide +kernel
theorem dX11_piece_143 : decode cX11_piece 143 = .ok (.aload_n 0, 1) := by decide +kernel
theorem dX11_piece_144 : decode cX11_piece 144 = .ok (.getfield 174, 3) := by decide +kernel
theorem dX11_piece_147 : decode cX11_piece 147 = .ok (.iload_n 2, 1) := by decide +kernel
theorem dX11_piece_148 : decode cX11_piece 148 = .ok (.iastore, 1) := by decide +kernel
theorem dX11_piece_149 : decode cX11_piece 149 = .ok (.aload_n 0, 1) := by decide +kernel
theorem dX11_piece_150 : decode cX11_piece 150 = .ok (.getfield 31, 3) := by decide +kernel
theorem dX11_piece_153 : decode cX11_piece 153 = .ok (.aload_n 0, 1) := by decide +kernel
theorem dX11_piece_154 : decode cX11_piece 154 = .ok (.getfield 174, 3) := by decide +kernel
theorem dX11_piece_157 : decode cX11_piece 157 = .ok (.iload 4, 2) := by decide +kernel
theorem dX11_piece_159 : decode cX11_piece 159 = .ok (.iastore, 1) := by decide +kernel
theorem dX11_piece_160 : decode cX11_piece 160 = .ok (.aload_n 0, 1) := by decide +kernel
theorem dX11_piece_161 : decode cX11_piece 161 = .ok (.getfield 37, 3) := by decide +kernel
theorem dX11_piece_164 : decode cX11_piece 164 = .ok (.aload_n 0, 1) := by decide +kernel
theorem dX11_piece_165 : decode cX11_piece 165 = .ok (.getfield 174, 3) := by decide +kernel
theorem dX11_piece_168 : decode cX11_piece 168 = .ok (.bipush (-9), 2) := by decide +kernel
theorem dX11_piece_170 : decode cX11_piece 170 = .ok (.iastore, 1) := by decide +kernel
theorem dX11_piece_171 : decode cX11_piece 171 = .ok (.aload_n 0, 1) := by decide +kernel
theorem dX11_piece_172 : decode cX11_piece 172 = .ok (.getfield 40, 3) := by decide +kernel
theorem dX11_piece_175 : decode cX11_piece 175 = .ok (.aload_n 0, 1) := by decide +kernel
theorem dX11_piece_176 : decode cX11_piece 176 = .ok (.getfield 174, 3) := by decide +kernel
theorem dX11_piece_179 : decode cX11_piece 179 = .ok (.bipush (-9), 2) := by decide +kernel
theorem dX11_piece_181 : decode cX11_piece 181 = .ok (.iastore, 1) := by decide +kernel
theorem dX11_piece_182 : decode cX11_piece 182 = .ok (.aload_n 0, 1) := by decide +kernel
theorem dX11_piece_183 : decode cX11_piece 183 = .ok (.getfield 43, 3) := by decide +kernel
theorem dX11_piece_186 : decode cX11_piece 186 = .ok (.aload_n 0, 1) := by decide +kernel
theorem dX11_piece_187 : decode cX11_piece 187 = .ok (.getfield 174, 3) := by decide +kernel
theorem dX11_piece_190 : decode cX11_piece 190 = .ok (.bipush (-9), 2) := by decide +kernel
theorem dX11_piece_192 : decode cX11_piece 192 = .ok (.iastore, 1) := by decide +kernel
theorem dX11_piece_193 : decode cX11_piece 193 = .ok (.aload_n 0, 1) := by decide +kernel
theorem dX11_piece_194 : decode cX11_piece 194 = .ok (.dup, 1) := by decide +kernel
theorem dX11_piece_195 : decode cX11_piece 195 = .ok (.getfield 174, 3) := by decide +kernel
theorem dX11_piece_198 : decode cX11_piece 198 = .ok (.iconst 1, 1) := by decide +kernel
theorem dX11_piece_199 : decode cX11_piece 199 = .ok (.iadd, 1) := by decide +kernel
theorem dX11_piece_200 : decode cX11_piece 200 = .ok (.putfield 174, 3) := by decide +kernel
theorem dX11_piece_203 : decode cX11_piece 203 = .ok (.aload_n 0, 1) := by decide +kernel
theorem dX11_piece_204 : decode cX11_piece 204 = .ok (.getfield 174, 3) := by decide +kernel
theorem dX11_piece_207 : decode cX11_piece 207 = .ok (.iconst 1, 1) := by decide +kernel
theorem dX11_piece_208 : decode cX11_piece 208 = .ok (.isub, 1) := by decide +kernel
theorem dX11_piece_209 : decode cX11_piece 209 = .ok (.ireturn, 1) := by decide +kernel
theorem dX11_place_0 : decode cX11_place 0 = .ok (.iload_n 1, 1) := by decide +kernel
theorem dX11_place_1 : decode cX11_place 1 = .ok (.bipush 12, 2) := by decide +kernel
theorem dX11_place_3 : decode cX11_place 3 = .ok (.invokestatic 144, 3) := by decide +kernel
theorem dX11_place_6 : decode cX11_place 6 = .ok (.ifCond .ne 7, 3) := by decide +kernel
theorem dX11_place_9 : decode cX11_place 9 = .ok (.iconst (-1), 1) := by decide +kernel
theorem dX11_place_10 : decode cX11_place 10 = .ok (.goto 41, 3) := by decide +kernel
theorem dX11_place_13 : decode cX11_place 13 = .ok (.iload_n 2, 1) := by decide +kernel
theorem dX11_place_14 : decode cX11_place 14 = .ok (.iconst 2, 1) := by decide +kernel
theorem dX11_place_15 : decode cX11_place 15 = .ok (.invokestatic 144, 3) := by decide +kernel
theorem dX11_place_18 : decode cX11_place 18 = .ok (.ifCond .ne 8, 3) := by decide +kernel
theorem dX11_place_21 : decode cX11_place 21 = .ok (.bipush (-2), 2) := by decide +kernel
theorem dX11_place_23 : decode cX11_place 23 = .ok (.goto 28, 3) := by decide +kernel
theorem dX11_place_26 : decode cX11_place 26 = .ok (.iload_n 3, 1) := by decide +kernel
theorem dX11_place_27 : decode cX11_place 27 = .ok (.iload_n 2, 1) := by decide +kernel
theorem dX11_place_28 : decode cX11_place 28 = .ok (.ifCond .ne 7, 3) := by decide +kernel
theorem dX11_place_31 : decode cX11_place 31 = .ok (.iconst 1, 1) := by decide +kernel
theorem dX11_place_32 : decode cX11_place 32 = .ok (.goto 4, 3) := by decide +kernel
theorem dX11_place_35 : decode cX11_place 35 = .ok (.iconst 0, 1) := by decide +kernel
theorem dX11_place_36 : decode cX11_place 36 = .ok (.iload_n 2, 1) := by decide +kernel
theorem dX11_place_37 : decode cX11_place 37 = .ok (.ifCond .ne 8, 3) := by decide +kernel
theorem dX11_place_40 : decode cX11_place 40 = .ok (.bipush 40, 2) := by decide +kernel
theorem dX11_place_42 : decode cX11_place 42 = .ok (.goto 6, 3) := by decide +kernel
theorem dX11_place_45 : decode cX11_place 45 = .ok (.sipush 200, 3) := by decide +kernel
theorem dX11_place_48 : decode cX11_place 48 = .ok (.invokestatic 148, 3) := by decide +kernel
theorem dX11_place_51 : decode cX11_place 51 = .ok (.istore 4, 2) := by decide +kernel
theorem dX11_place_53 : decode cX11_place 53 = .ok (.iload 4, 2) := by decide +kernel
theorem dX11_place_55 : decode cX11_place 55 = .ok (.ifCond .eq 10, 3) := by decide +kernel
theorem dX11_place_58 : decode cX11_place 58 = .ok (.aload_n 0, 1) := by decide +kernel
theorem dX11_place_59 : decode cX11_place 59 = .ok (.iload 4, 2) := by decide +kernel
theorem dX11_place_61 : decode cX11_place 61 = .ok (.invokevirtual 152, 3) := by decide +kernel
theorem dX11_place_64 : decode cX11_place 64 = .ok (.ireturn, 1) := by decide +kernel
theorem dX11_place_65 : decode cX11_place 65 = .ok (.iload_n 2, 1) := by decide +kernel
theorem dX11_place_66 : decode cX11_place 66 = .ok (.ifCond .ne 12, 3) := by decide +kernel
theorem dX11_place_69 : decode cX11_place 69 = .ok (.aload_n 0, 1) := by decide +kernel
theorem dX11_place_70 : decode cX11_place 70 = .ok (.getfield 46, 3) := by decide +kernel
theorem dX11_place_73 : decode cX11_place 73 = .ok (.iload_n 1, 1) := by decide +kernel
theorem dX11_place_74 : decode cX11_place 74 = .ok (.iaload, 1) := by decide +kernel
theorem dX11_place_75 : decode cX11_place 75 = .ok (.goto 9, 3) := by decide +kernel
theorem dX11_place_78 : decode cX11_place 78 = .ok (.aload_n 0, 1) := by decide +kernel
theorem dX11_place_79 : decode cX11_place 79 = .ok (.getfield 49, 3) := by decide +kernel
theorem dX11_place_82 : decode cX11_place 82 = .ok (.iload_n 1, 1) := by decide +kernel
theorem dX11_place_83 : decode cX11_place 83 = .ok (.iaload, 1) := by decide +kernel
theorem dX11_place_84 : decode cX11_place 84 = .ok (.istore 5, 2) := by decide +kernel
theorem dX11_place_86 : decode cX11_place 86 = .ok (.iload_n 2, 1) := by decide +kernel
theorem dX11_place_87 : decode cX11_place 87 = .ok (.ifCond .ne 13, 3) := by decide +kernel
theorem dX11_place_90 : decode cX11_place 90 = .ok (.aload_n 0, 1) := by decide +kernel
theorem dX11_place_91 : decode cX11_place 91 = .ok (.getfield 46, 3) := by decide +kernel
theorem dX11_place_94 : decode cX11_place 94 = .ok (.iload_n 1, 1) := by decide +kernel
theorem dX11_place_95 : decode cX11_place 95 = .ok (.iload_n 3, 1) := by decide +kernel
theorem dX11_place_96 : decode cX11_place 96 = .ok (.iastore, 1) := by decide +kernel
theorem dX11_place_97 : decode cX11_place 97 = .ok (.goto 10, 3) := by decide +kernel
theorem dX11_place_100 : decode cX11_place 100 = .ok (.aload_n 0, 1) := by decide +kernel
theorem dX11_place_101 : decode cX11_place 101 = .ok (.getfield 49, 3) := by decide +kernel
theorem dX11_place_104 : decode cX11_place 104 = .ok (.iload_n 1, 1) := by decide +kernel
theorem dX11_place_105 : decode cX11_place 105 = .ok (.iload_n 3, 1) := by decide +kernel
theorem dX11_place_106 : decode cX11_place 106 = .ok (.iastore, 1) := by decide +kernel
theorem dX11_place_107 : decode cX11_place 107 = .ok (.iload 5, 2) := by decide +kernel
theorem dX11_place_109 : decode cX11_place 109 = .ok (.ireturn, 1) := by decide +kernel
theorem dX11_wood_0 : decode cX11_wood 0 = .ok (.iload_n 1, 1) := by decide +kernel
theorem dX11_wood_1 : decode cX11_wood 1 = .ok (.iconst 0, 1) := by decide +kernel
theorem dX11_wood_2 : decode cX11_wood 2 = .ok (.bipush 50, 2) := by decide +kernel
theorem dX11_wood_4 : decode cX11_wood 4 = .ok (.invokestatic 148, 3) := by decide +kernel
theorem dX11_wood_7 : decode cX11_wood 7 = .ok (.istore_n 2, 1) := by decide +kernel
theorem dX11_wood_8 : decode cX11_wood 8 = .ok (.iload_n 2, 1) := by decide +kernel
theorem dX11_wood_9 : decode cX11_wood 9 = .ok (.ifCond .ne 15, 3) := by decide +kernel
theorem dX11_wood_12 : decode cX11_wood 12 = .ok (.aload_n 0, 1) := by decide +kernel
theorem dX11_wood_13 : decode cX11_wood 13 = .ok (.getfield 177, 3) := by decide +kernel
theorem dX11_wood_16 : decode cX11_wood 16 = .ok (.bipush 48, 2) := by decide +kernel
theorem dX11_wood_18 : decode cX11_wood 18 = .ok (.if_icmp .ne 6, 3) := by decide +kernel
theorem dX11_wood_21 : decode cX11_wood 21 = .ok (.bipush (-6), 2) := by decide +kernel
theorem dX11_wood_23 : decode cX11_wood 23 = .ok (.istore_n 2, 1) := by decide +kernel
theorem dX11_wood_24 : decode cX11_wood 24 = .ok (.iload_n 2, 1) := by decide +kernel
theorem dX11_wood_25 : decode cX11_wood 25 = .ok (.ifCond .eq 9, 3) := by decide +kernel
theorem dX11_wood_28 : decode cX11_wood 28 = .ok (.aload_n 0, 1) := by decide +kernel
theorem dX11_wood_29 : decode cX11_wood 29 = .ok (.iload_n 2, 1) := by decide +kernel
theorem dX11_wood_30 : decode cX11_wood 30 = .ok (.invokevirtual 152, 3) := by decide +kernel
theorem dX11_wood_33 : decode cX11_wood 33 = .ok (.ireturn, 1) := by decide +kernel
theorem dX11_wood_34 : decode cX11_wood 34 = .ok (.aload_n 0, 1) := by decide +kernel
theorem dX11_wood_35 : decode cX11_wood 35 = .ok (.getfield 55, 3) := by decide +kernel
theorem dX11_wood_38 : decode cX11_wood 38 = .ok (.aload_n 0, 1) := by decide +kernel
theorem dX11_wood_39 : decode cX11_wood 39 = .ok (.getfield 177, 3) := by decide +kernel
theorem dX11_wood_42 : decode cX11_wood 42 = .ok (.iload_n 1, 1) := by decide +kernel
theorem dX11_wood_43 : decode cX11_wood 43 = .ok (.iastore, 1) := by decide +kernel
theorem dX11_wood_44 : decode cX11_wood 44 = .ok (.aload_n 0, 1) := by decide +kernel
theorem dX11_wood_45 : decode cX11_wood 45 = .ok (.dup, 1) := by decide +kernel
theorem dX11_wood_46 : decode cX11_wood 46 = .ok (.getfield 177, 3) := by decide +kernel
theorem dX11_wood_49 : decode cX11_wood 49 = .ok (.iconst 1, 1) := by decide +kernel
theorem dX11_wood_50 : decode cX11_wood 50 = .ok (.iadd, 1) := by decide +kernel
theorem dX11_wood_51 : decode cX11_wood 51 = .ok (.putfield 177, 3) := by decide +kernel
theorem dX11_wood_54 : decode cX11_wood 54 = .ok (.aload_n 0, 1) := by decide +kernel
theorem dX11_wood_55 : decode cX11_wood 55 = .ok (.getfield 177, 3) := by decide +kernel
theorem dX11_wood_58 : decode cX11_wood 58 = .ok (.ireturn, 1) := by decide +kernel
theorem dX11_clear_0 : decode cX11_clear 0 = .ok (.aload_n 0, 1) := by decide +kernel
theorem dX11_clear_1 : decode cX11_clear 1 = .ok (.getfield 177, 3) := by decide +kernel
theorem dX11_clear_4 : decode cX11_clear 4 = .ok (.istore_n 1, 1) := by decide +kernel
theorem dX11_clear_5 : decode cX11_clear 5 = .ok (.aload_n 0, 1) := by decide +kernel
theorem dX11_clear_6 : decode cX11_clear 6 = .ok (.iconst 0, 1) := by decide +kernel
theorem dX11_clear_7 : decode cX11_clear 7 = .ok (.putfield 177, 3) := by decide +kernel
theorem dX11_clear_10 : decode cX11_clear 10 = .ok (.iload_n 1, 1) := by decide +kernel
theorem dX11_clear_11 : decode cX11_clear 11 = .ok (.ireturn, 1) := by decide +kernel
theorem dX11_burns_0 : decode cX11_burns 0 = .ok (.iconst 0, 1) := by decide +kernel
theorem dX11_burns_1 : decode cX11_burns 1 = .ok (.istore_n 2, 1) := by decide +kernel
theorem dX11_burns_2 : decode cX11_burns 2 = .ok (.iload_n 2, 1) := by decide +kernel
theorem dX11_burns_3 : decode cX11_burns 3 = .ok (.bipush 12, 2) := by decide +kernel
theorem dX11_burns_5 : decode cX11_burns 5 = .ok (.if_icmp .ge 23, 3) := by decide +kernel
theorem dX11_burns_8 : decode cX11_burns 8 = .ok (.aload_n 0, 1) := by decide +kernel
theorem dX11_burns_9 : decode cX11_burns 9 = .ok (.getfield 58, 3) := by decide +kernel
theorem dX11_burns_12 : decode cX11_burns 12 = .ok (.iload_n 2, 1) := by decide +kernel
theorem dX11_burns_13 : decode cX11_burns 13 = .ok (.iconst 0, 1) := by decide +kernel
theorem dX11_burns_14 : decode cX11_burns 14 = .ok (.iastore, 1) := by decide +kernel
theorem dX11_burns_15 : decode cX11_burns 15 = .ok (.aload_n 0, 1) := by decide +kernel
theorem dX11_burns_16 : decode cX11_burns 16 = .ok (.getfield 64, 3) := by decide +kernel
theorem dX11_burns_19 : decode cX11_burns 19 = .ok (.iload_n 2, 1) := by decide +kernel
theorem dX11_burns_20 : decode cX11_burns 20 = .ok (.iconst 0, 1) := by decide +kernel
theorem dX11_burns_21 : decode cX11_burns 21 = .ok (.iastore, 1) := by decide +kernel
theorem dX11_burns_22 : decode cX11_burns 22 = .ok (.iinc 2 1, 3) := by decide +kernel
theorem dX11_burns_25 : decode cX11_burns 25 = .ok (.goto (-23), 3) := by decide +kernel
theorem dX11_burns_28 : decode cX11_burns 28 = .ok (.iconst 0, 1) := by decide +kernel
theorem dX11_burns_29 : decode cX11_burns 29 = .ok (.istore_n 2, 1) := by decide +kernel
theorem dX11_burns_30 : decode cX11_burns 30 = .ok (.iload_n 2, 1) := by decide +kernel
theorem dX11_burns_31 : decode cX11_burns 31 = .ok (.iload_n 1, 1) := by decide +kernel
theorem dX11_burns_32 : decode cX11_burns 32 = .ok (.if_icmp .ge 189, 3) := by decide +kernel
theorem dX11_burns_35 : decode cX11_burns 35 = .ok (.iconst 0, 1) := by decide +kernel
theorem dX11_burns_36 : decode cX11_burns 36 = .ok (.istore_n 3, 1) := by decide +kernel
theorem dX11_burns_37 : decode cX11_burns 37 = .ok (.iload_n 3, 1) := by decide +kernel
theorem dX11_burns_38 : decode cX11_burns 38 = .ok (.bipush 12, 2) := by decide +kernel
theorem dX11_burns_40 : decode cX11_burns 40 = .ok (.if_icmp .ge 56, 3) := by decide +kernel
theorem dX11_burns_43 : decode cX11_burns 43 = .ok (.aload_n 0, 1) := by decide +kernel
theorem dX11_burns_44 : decode cX11_burns 44 = .ok (.getfield 61, 3) := by decide +kernel
theorem dX11_burns_47 : decode cX11_burns 47 = .ok (.iload_n 3, 1) := by decide +kernel
theorem dX11_burns_48 : decode cX11_burns 48 = .ok (.aload_n 0, 1) := by decide +kernel
theorem dX11_burns_49 : decode cX11_burns 49 = .ok (.getfield 58, 3) := by decide +kernel
theorem dX11_burns_52 : decode cX11_burns 52 = .ok (.iload_n 3, 1) := by decide +kernel
theorem dX11_burns_53 : decode cX11_burns 53 = .ok (.iaload, 1) := by decide +kernel
theorem dX11_burns_54 : decode cX11_burns 54 = .ok (.aload_n 0, 1) := by decide +kernel
theorem dX11_burns_55 : decode cX11_burns 55 = .ok (.getfield 46, 3) := by decide +kernel
theorem dX11_burns_58 : decode cX11_burns 58 = .ok (.iload_n 3, 1) := by decide +kernel
theorem dX11_burns_59 : decode cX11_burns 59 = .ok (.iaload, 1) := by decide +kernel
theorem dX11_burns_60 : decode cX11_burns 60 = .ok (.aload_n 0, 1) := by decide +kernel
theorem dX11_burns_61 : decode cX11_burns 61 = .ok (.getfield 55, 3) := by decide +kernel
theorem dX11_burns_64 : decode cX11_burns 64 = .ok (.iload_n 2, 1) := by decide +kernel
theorem dX11_burns_65 : decode cX11_burns 65 = .ok (.iaload, 1) := by decide +kernel
theorem dX11_burns_66 : decode cX11_burns 66 = .ok (.imul, 1) := by decide +kernel
theorem dX11_burns_67 : decode cX11_burns 67 = .ok (.iadd, 1) := by decide +kernel
theorem dX11_burns_68 : decode cX11_burns 68 = .ok (.aload_n 0, 1) := by decide +kernel
theorem dX11_burns_69 : decode cX11_burns 69 = .ok (.getfield 58, 3) := by decide +kernel
theorem dX11_burns_72 : decode cX11_burns 72 = .ok (.iload_n 3, 1) := by decide +kernel
theorem dX11_burns_73 : decode cX11_burns 73 = .ok (.iaload, 1) := by decide +kernel
theorem dX11_burns_74 : decode cX11_burns 74 = .ok (.i2l, 1) := by decide +kernel
theorem dX11_burns_75 : decode cX11_burns 75 = .ok (.aload_n 0, 1) := by decide +kernel
theorem dX11_burns_76 : decode cX11_burns 76 = .ok (.getfield 49, 3) := by decide +kernel
theorem dX11_burns_79 : decode cX11_burns 79 = .ok (.iload_n 3, 1) := by decide +kernel
theorem dX11_burns_80 : decode cX11_burns 80 = .ok (.iaload, 1) := by decide +kernel
theorem dX11_burns_81 : decode cX11_burns 81 = .ok (.i2l, 1) := by decide +kernel
theorem dX11_burns_82 : decode cX11_burns 82 = .ok (.lmul, 1) := by decide +kernel
theorem dX11_burns_83 : decode cX11_burns 83 = .ok (.ldc2_w 180, 3) := by decide +kernel
theorem dX11_burns_86 : decode cX11_burns 86 = .ok (.ldiv, 1) := by decide +kernel
theorem dX11_burns_87 : decode cX11_burns 87 = .ok (.l2i, 1) := by decide +kernel
theorem dX11_burns_88 : decode cX11_burns 88 = .ok (.isub, 1) := by decide +kernel
theorem dX11_burns_89 : decode cX11_burns 89 = .ok (.iastore, 1) := by decide +kernel
theorem dX11_burns_90 : decode cX11_burns 90 = .ok (.iinc 3 1, 3) := by decide +kernel
theorem dX11_burns_93 : decode cX11_burns 93 = .ok (.goto (-56), 3) := by decide +kernel
theorem dX11_burns_96 : decode cX11_burns 96 = .ok (.iconst 0, 1) := by decide +kernel
theorem dX11_burns_97 : decode cX11_burns 97 = .ok (.istore_n 3, 1) := by decide +kernel
theorem dX11_burns_98 : decode cX11_burns 98 = .ok (.iload_n 3, 1) := by decide +kernel
theorem dX11_burns_99 : decode cX11_burns 99 = .ok (.bipush 12, 2) := by decide +kernel
theorem dX11_burns_101 : decode cX11_burns 101 = .ok (.if_icmp .ge 114, 3) := by decide +kernel
theorem dX11_burns_104 : decode cX11_burns 104 = .ok (.iload_n 3, 1) := by decide +kernel
theorem dX11_burns_105 : decode cX11_burns 105 = .ok (.ifCond .le 21, 3) := by decide +kernel
theorem dX11_burns_108 : decode cX11_burns 108 = .ok (.aload_n 0, 1) := by decide +kernel
theorem dX11_burns_109 : decode cX11_burns 109 = .ok (.getfield 61, 3) := by decide +kernel
theorem dX11_burns_112 : decode cX11_burns 112 = .ok (.iload_n 3, 1) := by decide +kernel
theorem dX11_burns_113 : decode cX11_burns 113 = .ok (.iconst 1, 1) := by decide +kernel
theorem dX11_burns_114 : decode cX11_burns 114 = .ok (.isub, 1) := by decide +kernel
theorem dX11_burns_115 : decode cX11_burns 115 = .ok (.iaload, 1) := by decide +kernel
theorem dX11_burns_116 : decode cX11_burns 116 = .ok (.aload_n 0, 1) := by decide +kernel
theorem dX11_burns_117 : decode cX11_burns 117 = .ok (.getfield 61, 3) := by decide +kernel
theorem dX11_burns_120 : decode cX11_burns 120 = .ok (.iload_n 3, 1) := by decide +kernel
theorem dX11_burns_121 : decode cX11_burns 121 = .ok (.iaload, 1) := by decide +kernel
theorem dX11_burns_122 : decode cX11_burns 122 = .ok (.isub, 1) := by decide +kernel
theorem dX11_burns_123 : decode cX11_burns 123 = .ok (.goto 4, 3) := by decide +kernel
theorem dX11_burns_126 : decode cX11_burns 126 = .ok (.iconst 0, 1) := by decide +kernel
theorem dX11_burns_127 : decode cX11_burns 127 = .ok (.iload_n 3, 1) := by decide +kernel
theorem dX11_burns_128 : decode cX11_burns 128 = .ok (.iconst 1, 1) := by decide +kernel
theorem dX11_burns_129 : decode cX11_burns 129 = .ok (.iadd, 1) := by decide +kernel
theorem dX11_burns_130 : decode cX11_burns 130 = .ok (.bipush 12, 2) := by decide +kernel
theorem dX11_burns_132 : decode cX11_burns 132 = .ok (.if_icmp .ge 21, 3) := by decide +kernel
theorem dX11_burns_135 : decode cX11_burns 135 = .ok (.aload_n 0, 1) := by decide +kernel
theorem dX11_burns_136 : decode cX11_burns 136 = .ok (.getfield 61, 3) := by decide +kernel
theorem dX11_burns_139 : decode cX11_burns 139 = .ok (.iload_n 3, 1) := by decide +kernel
theorem dX11_burns_140 : decode cX11_burns 140 = .ok (.iconst 1, 1) := by decide +kernel
theorem dX11_burns_141 : decode cX11_burns 141 = .ok (.iadd, 1) := by decide +kernel
theorem dX11_burns_142 : decode cX11_burns 142 = .ok (.iaload, 1) := by decide +kernel
theorem dX11_burns_143 : decode cX11_burns 143 = .ok (.aload_n 0, 1) := by decide +kernel
theorem dX11_burns_144 : decode cX11_burns 144 = .ok (.getfield 61, 3) := by decide +kernel
theorem dX11_burns_147 : decode cX11_burns 147 = .ok (.iload_n 3, 1) := by decide +kernel
theorem dX11_burns_148 : decode cX11_burns 148 = .ok (.iaload, 1) := by decide +kernel
theorem dX11_burns_149 : decode cX11_burns 149 = .ok (.isub, 1) := by decide +kernel
theorem dX11_burns_150 : decode cX11_burns 150 = .ok (.goto 4, 3) := by decide +kernel
theorem dX11_burns_153 : decode cX11_burns 153 = .ok (.iconst 0, 1) := by decide +kernel
theorem dX11_burns_154 : decode cX11_burns 154 = .ok (.iadd, 1) := by decide +kernel
theorem dX11_burns_155 : decode cX11_burns 155 = .ok (.istore 4, 2) := by decide +kernel
theorem dX11_burns_157 : decode cX11_burns 157 = .ok (.aload_n 0, 1) := by decide +kernel
theorem dX11_burns_158 : decode cX11_burns 158 = .ok (.getfield 58, 3) := by decide +kernel
theorem dX11_burns_161 : decode cX11_burns 161 = .ok (.iload_n 3, 1) := by decide +kernel
theorem dX11_burns_162 : decode cX11_burns 162 = .ok (.aload_n 0, 1) := by decide +kernel
theorem dX11_burns_163 : decode cX11_burns 163 = .ok (.getfield 61, 3) := by decide +kernel
theorem dX11_burns_166 : decode cX11_burns 166 = .ok (.iload_n 3, 1) := by decide +kernel
theorem dX11_burns_167 : decode cX11_burns 167 = .ok (.iaload, 1) := by decide +kernel
theorem dX11_burns_168 : decode cX11_burns 168 = .ok (.iload 4, 2) := by decide +kernel
theorem dX11_burns_170 : decode cX11_burns 170 = .ok (.bipush 10, 2) := by decide +kernel
theorem dX11_burns_172 : decode cX11_burns 172 = .ok (.idiv, 1) := by decide +kernel
theorem dX11_burns_173 : decode cX11_burns 173 = .ok (.iadd, 1) := by decide +kernel
theorem dX11_burns_174 : decode cX11_burns 174 = .ok (.iastore, 1) := by decide +kernel
theorem dX11_burns_175 : decode cX11_burns 175 = .ok (.aload_n 0, 1) := by decide +kernel
theorem dX11_burns_176 : decode cX11_burns 176 = .ok (.getfield 64, 3) := by decide +kernel
theorem dX11_burns_179 : decode cX11_burns 179 = .ok (.iload_n 3, 1) := by decide +kernel
theorem dX11_burns_180 : decode cX11_burns 180 = .ok (.iload_n 2, 1) := by decide +kernel
theorem dX11_burns_181 : decode cX11_burns 181 = .ok (.ifCond .ne 12, 3) := by decide +kernel
theorem dX11_burns_184 : decode cX11_burns 184 = .ok (.aload_n 0, 1) := by decide +kernel
theorem dX11_burns_185 : decode cX11_burns 185 = .ok (.getfield 58, 3) := by decide +kernel
theorem dX11_burns_188 : decode cX11_burns 188 = .ok (.iload_n 3, 1) := by decide +kernel
theorem dX11_burns_189 : decode cX11_burns 189 = .ok (.iaload, 1) := by decide +kernel
theorem dX11_burns_190 : decode cX11_burns 190 = .ok (.goto 18, 3) := by decide +kernel
theorem dX11_burns_193 : decode cX11_burns 193 = .ok (.aload_n 0, 1) := by decide +kernel
theorem dX11_burns_194 : decode cX11_burns 194 = .ok (.getfield 64, 3) := by decide +kernel
theorem dX11_burns_197 : decode cX11_burns 197 = .ok (.iload_n 3, 1) := by decide +kernel
theorem dX11_burns_198 : decode cX11_burns 198 = .ok (.iaload, 1) := by decide +kernel
theorem dX11_burns_199 : decode cX11_burns 199 = .ok (.aload_n 0, 1) := by decide +kernel
theorem dX11_burns_200 : decode cX11_burns 200 = .ok (.getfield 58, 3) := by decide +kernel
theorem dX11_burns_203 : decode cX11_burns 203 = .ok (.iload_n 3, 1) := by decide +kernel
theorem dX11_burns_204 : decode cX11_burns 204 = .ok (.iaload, 1) := by decide +kernel
theorem dX11_burns_205 : decode cX11_burns 205 = .ok (.invokestatic 182, 3) := by decide +kernel
theorem dX11_burns_208 : decode cX11_burns 208 = .ok (.iastore, 1) := by decide +kernel
theorem dX11_burns_209 : decode cX11_burns 209 = .ok (.iinc 3 1, 3) := by decide +kernel
theorem dX11_burns_212 : decode cX11_burns 212 = .ok (.goto (-114), 3) := by decide +kernel
theorem dX11_burns_215 : decode cX11_burns 215 = .ok (.iinc 2 1, 3) := by decide +kernel
theorem dX11_burns_218 : decode cX11_burns 218 = .ok (.goto (-188), 3) := by decide +kernel
theorem dX11_burns_221 : decode cX11_burns 221 = .ok (.return_, 1) := by decide +kernel
theorem dX11_peak_0 : decode cX11_peak 0 = .ok (.iload_n 1, 1) := by decide +kernel
theorem dX11_peak_1 : decode cX11_peak 1 = .ok (.bipush 12, 2) := by decide +kernel
theorem dX11_peak_3 : decode cX11_peak 3 = .ok (.invokestatic 144, 3) := by decide +kernel
theorem dX11_peak_6 : decode cX11_peak 6 = .ok (.ifCond .ne 9, 3) := by decide +kernel
theorem dX11_peak_9 : decode cX11_peak 9 = .ok (.aload_n 0, 1) := by decide +kernel
theorem dX11_peak_10 : decode cX11_peak 10 = .ok (.iconst (-1), 1) := by decide +kernel
theorem dX11_peak_11 : decode cX11_peak 11 = .ok (.invokevirtual 152, 3) := by decide +kernel
theorem dX11_peak_14 : decode cX11_peak 14 = .ok (.ireturn, 1) := by decide +kernel
theorem dX11_peak_15 : decode cX11_peak 15 = .ok (.aload_n 0, 1) := by decide +kernel
theorem dX11_peak_16 : decode cX11_peak 16 = .ok (.aload_n 0, 1) := by decide +kernel
theorem dX11_peak_17 : decode cX11_peak 17 = .ok (.getfield 177, 3) := by decide +kernel
theorem dX11_peak_20 : decode cX11_peak 20 = .ok (.invokevirtual 187, 3) := by decide +kernel
theorem dX11_peak_23 : decode cX11_peak 23 = .ok (.aload_n 0, 1) := by decide +kernel
theorem dX11_peak_24 : decode cX11_peak 24 = .ok (.getfield 64, 3) := by decide +kernel
theorem dX11_peak_27 : decode cX11_peak 27 = .ok (.iload_n 1, 1) := by decide +kernel
theorem dX11_peak_28 : decode cX11_peak 28 = .ok (.iaload, 1) := by decide +kernel
theorem dX11_peak_29 : decode cX11_peak 29 = .ok (.ireturn, 1) := by decide +kernel
theorem dX11_heat_0 : decode cX11_heat 0 = .ok (.iload_n 1, 1) := by decide +kernel
theorem dX11_heat_1 : decode cX11_heat 1 = .ok (.bipush 12, 2) := by decide +kernel
theorem dX11_heat_3 : decode cX11_heat 3 = .ok (.invokestatic 144, 3) := by decide +kernel
theorem dX11_heat_6 : decode cX11_heat 6 = .ok (.ifCond .eq 15, 3) := by decide +kernel
theorem dX11_heat_9 : decode cX11_heat 9 = .ok (.iload_n 2, 1) := by decide +kernel
theorem dX11_heat_10 : decode cX11_heat 10 = .ok (.iconst 0, 1) := by decide +kernel
theorem dX11_heat_11 : decode cX11_heat 11 = .ok (.aload_n 0, 1) := by decide +kernel
theorem dX11_heat_12 : decode cX11_heat 12 = .ok (.getfield 177, 3) := by decide +kernel
theorem dX11_heat_15 : decode cX11_heat 15 = .ok (.invokestatic 148, 3) := by decide +kernel
theorem dX11_heat_18 : decode cX11_heat 18 = .ok (.goto 4, 3) := by decide +kernel
theorem dX11_heat_21 : decode cX11_heat 21 = .ok (.iconst (-1), 1) := by decide +kernel
theorem dX11_heat_22 : decode cX11_heat 22 = .ok (.istore_n 3, 1) := by decide +kernel
theorem dX11_heat_23 : decode cX11_heat 23 = .ok (.iload_n 3, 1) := by decide +kernel
theorem dX11_heat_24 : decode cX11_heat 24 = .ok (.ifCond .eq 9, 3) := by decide +kernel
theorem dX11_heat_27 : decode cX11_heat 27 = .ok (.aload_n 0, 1) := by decide +kernel
theorem dX11_heat_28 : decode cX11_heat 28 = .ok (.iload_n 3, 1) := by decide +kernel
theorem dX11_heat_29 : decode cX11_heat 29 = .ok (.invokevirtual 152, 3) := by decide +kernel
theorem dX11_heat_32 : decode cX11_heat 32 = .ok (.ireturn, 1) := by decide +kernel
theorem dX11_heat_33 : decode cX11_heat 33 = .ok (.aload_n 0, 1) := by decide +kernel
theorem dX11_heat_34 : decode cX11_heat 34 = .ok (.iload_n 2, 1) := by decide +kernel
theorem dX11_heat_35 : decode cX11_heat 35 = .ok (.invokevirtual 187, 3) := by decide +kernel
theorem dX11_heat_38 : decode cX11_heat 38 = .ok (.aload_n 0, 1) := by decide +kernel
theorem dX11_heat_39 : decode cX11_heat 39 = .ok (.getfield 58, 3) := by decide +kernel
theorem dX11_heat_42 : decode cX11_heat 42 = .ok (.iload_n 1, 1) := by decide +kernel
theorem dX11_heat_43 : decode cX11_heat 43 = .ok (.iaload, 1) := by decide +kernel
theorem dX11_heat_44 : decode cX11_heat 44 = .ok (.ireturn, 1) := by decide +kernel
theorem dX11_isPiece_0 : decode cX11_isPiece 0 = .ok (.iload_n 1, 1) := by decide +kernel
theorem dX11_isPiece_1 : decode cX11_isPiece 1 = .ok (.aload_n 0, 1) := by decide +kernel
theorem dX11_isPiece_2 : decode cX11_isPiece 2 = .ok (.getfield 174, 3) := by decide +kernel
theorem dX11_isPiece_5 : decode cX11_isPiece 5 = .ok (.invokestatic 144, 3) := by decide +kernel
theorem dX11_isPiece_8 : decode cX11_isPiece 8 = .ok (.ireturn, 1) := by decide +kernel
theorem dX11_stack_0 : decode cX11_stack 0 = .ok (.aload_n 0, 1) := by decide +kernel
theorem dX11_stack_1 : decode cX11_stack 1 = .ok (.iload_n 1, 1) := by decide +kernel
theorem dX11_stack_2 : decode cX11_stack 2 = .ok (.invokevirtual 190, 3) := by decide +kernel
theorem dX11_stack_5 : decode cX11_stack 5 = .ok (.ifCond .eq 12, 3) := by decide +kernel
theorem dX11_stack_8 : decode cX11_stack 8 = .ok (.iload_n 2, 1) := by decide +kernel
theorem dX11_stack_9 : decode cX11_stack 9 = .ok (.bipush 12, 2) := by decide +kernel
theorem dX11_stack_11 : decode cX11_stack 11 = .ok (.invokestatic 144, 3) := by decide +kernel
theorem dX11_stack_14 : decode cX11_stack 14 = .ok (.ifCond .ne 9, 3) := by decide +kernel
theorem dX11_stack_17 : decode cX11_stack 17 = .ok (.aload_n 0, 1) := by decide +kernel
theorem dX11_stack_18 : decode cX11_stack 18 = .ok (.iconst (-1), 1) := by decide +kernel
theorem dX11_stack_19 : decode cX11_stack 19 = .ok (.invokevirtual 152, 3) := by decide +kernel
theorem dX11_stack_22 : decode cX11_stack 22 = .ok (.ireturn, 1) := by decide +kernel
theorem dX11_stack_23 : decode cX11_stack 23 = .ok (.aload_n 0, 1) := by decide +kernel
theorem dX11_stack_24 : decode cX11_stack 24 = .ok (.getfield 34, 3) := by decide +kernel
theorem dX11_stack_27 : decode cX11_stack 27 = .ok (.iload_n 1, 1) := by decide +kernel
theorem dX11_stack_28 : decode cX11_stack 28 = .ok (.iaload, 1) := by decide +kernel
theorem dX11_stack_29 : decode cX11_stack 29 = .ok (.ifCond .ne 29, 3) := by decide +kernel
theorem dX11_stack_32 : decode cX11_stack 32 = .ok (.aload_n 0, 1) := by decide +kernel
theorem dX11_stack_33 : decode cX11_stack 33 = .ok (.getfield 37, 3) := by decide +kernel
theorem dX11_stack_36 : decode cX11_stack 36 = .ok (.iload_n 1, 1) := by decide +kernel
theorem dX11_stack_37 : decode cX11_stack 37 = .ok (.iaload, 1) := by decide +kernel
theorem dX11_stack_38 : decode cX11_stack 38 = .ok (.ifCond .ge 20, 3) := by decide +kernel
theorem dX11_stack_41 : decode cX11_stack 41 = .ok (.aload_n 0, 1) := by decide +kernel
theorem dX11_stack_42 : decode cX11_stack 42 = .ok (.iload_n 1, 1) := by decide +kernel
theorem dX11_stack_43 : decode cX11_stack 43 = .ok (.invokevirtual 194, 3) := by decide +kernel
theorem dX11_stack_46 : decode cX11_stack 46 = .ok (.ifCond .ne 12, 3) := by decide +kernel
theorem dX11_stack_49 : decode cX11_stack 49 = .ok (.aload_n 0, 1) := by decide +kernel
theorem dX11_stack_50 : decode cX11_stack 50 = .ok (.getfield 52, 3) := by decide +kernel
theorem dX11_stack_53 : decode cX11_stack 53 = .ok (.iload_n 2, 1) := by decide +kernel
theorem dX11_stack_54 : decode cX11_stack 54 = .ok (.iaload, 1) := by decide +kernel
theorem dX11_stack_55 : decode cX11_stack 55 = .ok (.ifCond .lt 10, 3) := by decide +kernel
theorem dX11_stack_58 : decode cX11_stack 58 = .ok (.aload_n 0, 1) := by decide +kernel
theorem dX11_stack_59 : decode cX11_stack 59 = .ok (.bipush (-3), 2) := by decide +kernel
theorem dX11_stack_61 : decode cX11_stack 61 = .ok (.invokevirtual 152, 3) := by decide +kernel
theorem dX11_stack_64 : decode cX11_stack 64 = .ok (.ireturn, 1) := by decide +kernel
theorem dX11_stack_65 : decode cX11_stack 65 = .ok (.aload_n 0, 1) := by decide +kernel
theorem dX11_stack_66 : decode cX11_stack 66 = .ok (.getfield 52, 3) := by decide +kernel
theorem dX11_stack_69 : decode cX11_stack 69 = .ok (.iload_n 2, 1) := by decide +kernel
theorem dX11_stack_70 : decode cX11_stack 70 = .ok (.iload_n 1, 1) := by decide +kernel
theorem dX11_stack_71 : decode cX11_stack 71 = .ok (.iastore, 1) := by decide +kernel
theorem dX11_stack_72 : decode cX11_stack 72 = .ok (.aload_n 0, 1) := by decide +kernel
theorem dX11_stack_73 : decode cX11_stack 73 = .ok (.getfield 37, 3) := by decide +kernel
theorem dX11_stack_76 : decode cX11_stack 76 = .ok (.iload_n 1, 1) := by decide +kernel
theorem dX11_stack_77 : decode cX11_stack 77 = .ok (.iload_n 2, 1) := by decide +kernel
theorem dX11_stack_78 : decode cX11_stack 78 = .ok (.iastore, 1) := by decide +kernel
theorem dX11_stack_79 : decode cX11_stack 79 = .ok (.iconst 1, 1) := by decide +kernel
theorem dX11_stack_80 : decode cX11_stack 80 = .ok (.ireturn, 1) := by decide +kernel
theorem dX11_takes_0 : decode cX11_takes 0 = .ok (.aload_n 0, 1) := by decide +kernel
theorem dX11_takes_1 : decode cX11_takes 1 = .ok (.getfield 52, 3) := by decide +kernel
theorem dX11_takes_4 : decode cX11_takes 4 = .ok (.iload_n 1, 1) := by decide +kernel
theorem dX11_takes_5 : decode cX11_takes 5 = .ok (.iaload, 1) := by decide +kernel
theorem dX11_takes_6 : decode cX11_takes 6 = .ok (.istore_n 2, 1) := by decide +kernel
theorem dX11_takes_7 : decode cX11_takes 7 = .ok (.aload_n 0, 1) := by decide +kernel
theorem dX11_takes_8 : decode cX11_takes 8 = .ok (.getfield 52, 3) := by decide +kernel
theorem dX11_takes_11 : decode cX11_takes 11 = .ok (.iload_n 1, 1) := by decide +kernel
theorem dX11_takes_12 : decode cX11_takes 12 = .ok (.bipush (-9), 2) := by decide +kernel
theorem dX11_takes_14 : decode cX11_takes 14 = .ok (.iastore, 1) := by decide +kernel
theorem dX11_takes_15 : decode cX11_takes 15 = .ok (.aload_n 0, 1) := by decide +kernel
theorem dX11_takes_16 : decode cX11_takes 16 = .ok (.getfield 37, 3) := by decide +kernel
theorem dX11_takes_19 : decode cX11_takes 19 = .ok (.iload_n 2, 1) := by decide +kernel
theorem dX11_takes_20 : decode cX11_takes 20 = .ok (.bipush (-9), 2) := by decide +kernel
theorem dX11_takes_22 : decode cX11_takes 22 = .ok (.iastore, 1) := by decide +kernel
theorem dX11_takes_23 : decode cX11_takes 23 = .ok (.iload_n 2, 1) := by decide +kernel
theorem dX11_takes_24 : decode cX11_takes 24 = .ok (.ireturn, 1) := by decide +kernel
theorem dX11_unstack_0 : decode cX11_unstack 0 = .ok (.iload_n 1, 1) := by decide +kernel
theorem dX11_unstack_1 : decode cX11_unstack 1 = .ok (.bipush 12, 2) := by decide +kernel
theorem dX11_unstack_3 : decode cX11_unstack 3 = .ok (.invokestatic 144, 3) := by decide +kernel
theorem dX11_unstack_6 : decode cX11_unstack 6 = .ok (.ifCond .ne 9, 3) := by decide +kernel
theorem dX11_unstack_9 : decode cX11_unstack 9 = .ok (.aload_n 0, 1) := by decide +kernel
theorem dX11_unstack_10 : decode cX11_unstack 10 = .ok (.iconst (-1), 1) := by decide +kernel
theorem dX11_unstack_11 : decode cX11_unstack 11 = .ok (.invokevirtual 152, 3) := by decide +kernel
theorem dX11_unstack_14 : decode cX11_unstack 14 = .ok (.ireturn, 1) := by decide +kernel
theorem dX11_unstack_15 : decode cX11_unstack 15 = .ok (.aload_n 0, 1) := by decide +kernel
theorem dX11_unstack_16 : decode cX11_unstack 16 = .ok (.getfield 52, 3) := by decide +kernel
theorem dX11_unstack_19 : decode cX11_unstack 19 = .ok (.iload_n 1, 1) := by decide +kernel
theorem dX11_unstack_20 : decode cX11_unstack 20 = .ok (.iaload, 1) := by decide +kernel
theorem dX11_unstack_21 : decode cX11_unstack 21 = .ok (.ifCond .ge 12, 3) := by decide +kernel
theorem dX11_unstack_24 : decode cX11_unstack 24 = .ok (.aload_n 0, 1) := by decide +kernel
theorem dX11_unstack_25 : decode cX11_unstack 25 = .ok (.bipush (-3), 2) := by decide +kernel
theorem dX11_unstack_27 : decode cX11_unstack 27 = .ok (.invokevirtual 152, 3) := by decide +kernel
theorem dX11_unstack_30 : decode cX11_unstack 30 = .ok (.goto 8, 3) := by decide +kernel
theorem dX11_unstack_33 : decode cX11_unstack 33 = .ok (.aload_n 0, 1) := by decide +kernel
theorem dX11_unstack_34 : decode cX11_unstack 34 = .ok (.iload_n 1, 1) := by decide +kernel
theorem dX11_unstack_35 : decode cX11_unstack 35 = .ok (.invokevirtual 197, 3) := by decide +kernel
theorem dX11_unstack_38 : decode cX11_unstack 38 = .ok (.ireturn, 1) := by decide +kernel
theorem dX11_pasteOf_0 : decode cX11_pasteOf 0 = .ok (.aload_n 0, 1) := by decide +kernel
theorem dX11_pasteOf_1 : decode cX11_pasteOf 1 = .ok (.getfield 13, 3) := by decide +kernel
theorem dX11_pasteOf_4 : decode cX11_pasteOf 4 = .ok (.iconst 4, 1) := by decide +kernel
theorem dX11_pasteOf_5 : decode cX11_pasteOf 5 = .ok (.aload_n 0, 1) := by decide +kernel
theorem dX11_pasteOf_6 : decode cX11_pasteOf 6 = .ok (.getfield 16, 3) := by decide +kernel
theorem dX11_pasteOf_9 : decode cX11_pasteOf 9 = .ok (.aload_n 0, 1) := by decide +kernel
theorem dX11_pasteOf_10 : decode cX11_pasteOf 10 = .ok (.getfield 25, 3) := by decide +kernel
theorem dX11_pasteOf_13 : decode cX11_pasteOf 13 = .ok (.iload_n 1, 1) := by decide +kernel
theorem dX11_pasteOf_14 : decode cX11_pasteOf 14 = .ok (.iaload, 1) := by decide +kernel
theorem dX11_pasteOf_15 : decode cX11_pasteOf 15 = .ok (.iaload, 1) := by decide +kernel
theorem dX11_pasteOf_16 : decode cX11_pasteOf 16 = .ok (.imul, 1) := by decide +kernel
theorem dX11_pasteOf_17 : decode cX11_pasteOf 17 = .ok (.iload_n 2, 1) := by decide +kernel
theorem dX11_pasteOf_18 : decode cX11_pasteOf 18 = .ok (.iadd, 1) := by decide +kernel
theorem dX11_pasteOf_19 : decode cX11_pasteOf 19 = .ok (.iaload, 1) := by decide +kernel
theorem dX11_pasteOf_20 : decode cX11_pasteOf 20 = .ok (.ireturn, 1) := by decide +kernel
theorem dX11_bears_0 : decode cX11_bears 0 = .ok (.aload_n 0, 1) := by decide +kernel
theorem dX11_bears_1 : decode cX11_bears 1 = .ok (.getfield 64, 3) := by decide +kernel
theorem dX11_bears_4 : decode cX11_bears 4 = .ok (.iload_n 2, 1) := by decide +kernel
theorem dX11_bears_5 : decode cX11_bears 5 = .ok (.iaload, 1) := by decide +kernel
theorem dX11_bears_6 : decode cX11_bears 6 = .ok (.aload_n 0, 1) := by decide +kernel
theorem dX11_bears_7 : decode cX11_bears 7 = .ok (.iload_n 1, 1) := by decide +kernel
theorem dX11_bears_8 : decode cX11_bears 8 = .ok (.iconst 2, 1) := by decide +kernel
theorem dX11_bears_9 : decode cX11_bears 9 = .ok (.invokevirtual 200, 3) := by decide +kernel
theorem dX11_bears_12 : decode cX11_bears 12 = .ok (.if_icmp .lt 22, 3) := by decide +kernel
theorem dX11_bears_15 : decode cX11_bears 15 = .ok (.aload_n 0, 1) := by decide +kernel
theorem dX11_bears_16 : decode cX11_bears 16 = .ok (.getfield 64, 3) := by decide +kernel
theorem dX11_bears_19 : decode cX11_bears 19 = .ok (.iload_n 2, 1) := by decide +kernel
theorem dX11_bears_20 : decode cX11_bears 20 = .ok (.iaload, 1) := by decide +kernel
theorem dX11_bears_21 : decode cX11_bears 21 = .ok (.aload_n 0, 1) := by decide +kernel
theorem dX11_bears_22 : decode cX11_bears 22 = .ok (.iload_n 1, 1) := by decide +kernel
theorem dX11_bears_23 : decode cX11_bears 23 = .ok (.iconst 3, 1) := by decide +kernel
theorem dX11_bears_24 : decode cX11_bears 24 = .ok (.invokevirtual 200, 3) := by decide +kernel
theorem dX11_bears_27 : decode cX11_bears 27 = .ok (.if_icmp .gt 7, 3) := by decide +kernel
theorem dX11_bears_30 : decode cX11_bears 30 = .ok (.iconst 1, 1) := by decide +kernel
theorem dX11_bears_31 : decode cX11_bears 31 = .ok (.goto 4, 3) := by decide +kernel
theorem dX11_bears_34 : decode cX11_bears 34 = .ok (.iconst 0, 1) := by decide +kernel
theorem dX11_bears_35 : decode cX11_bears 35 = .ok (.ireturn, 1) := by decide +kernel
theorem dX11_fire_0 : decode cX11_fire 0 = .ok (.aload_n 0, 1) := by decide +kernel
theorem dX11_fire_1 : decode cX11_fire 1 = .ok (.getfield 177, 3) := by decide +kernel
theorem dX11_fire_4 : decode cX11_fire 4 = .ok (.ifCond .ne 10, 3) := by decide +kernel
theorem dX11_fire_7 : decode cX11_fire 7 = .ok (.aload_n 0, 1) := by decide +kernel
theorem dX11_fire_8 : decode cX11_fire 8 = .ok (.bipush (-3), 2) := by decide +kernel
theorem dX11_fire_10 : decode cX11_fire 10 = .ok (.invokevirtual 152, 3) := by decide +kernel
theorem dX11_fire_13 : decode cX11_fire 13 = .ok (.ireturn, 1) := by decide +kernel
theorem dX11_fire_14 : decode cX11_fire 14 = .ok (.aload_n 0, 1) := by decide +kernel
theorem dX11_fire_15 : decode cX11_fire 15 = .ok (.getfield 160, 3) := by decide +kernel
theorem dX11_fire_18 : decode cX11_fire 18 = .ok (.iconst 2, 1) := by decide +kernel
theorem dX11_fire_19 : decode cX11_fire 19 = .ok (.iadd, 1) := by decide +kernel
theorem dX11_fire_20 : decode cX11_fire 20 = .ok (.sipush 4000, 3) := by decide +kernel
theorem dX11_fire_23 : decode cX11_fire 23 = .ok (.if_icmp .le 10, 3) := by decide +kernel
theorem dX11_fire_26 : decode cX11_fire 26 = .ok (.aload_n 0, 1) := by decide +kernel
theorem dX11_fire_27 : decode cX11_fire 27 = .ok (.bipush (-6), 2) := by decide +kernel
theorem dX11_fire_29 : decode cX11_fire 29 = .ok (.invokevirtual 152, 3) := by decide +kernel
theorem dX11_fire_32 : decode cX11_fire 32 = .ok (.ireturn, 1) := by decide +kernel
theorem dX11_fire_33 : decode cX11_fire 33 = .ok (.aload_n 0, 1) := by decide +kernel
theorem dX11_fire_34 : decode cX11_fire 34 = .ok (.aload_n 0, 1) := by decide +kernel
theorem dX11_fire_35 : decode cX11_fire 35 = .ok (.getfield 177, 3) := by decide +kernel
theorem dX11_fire_38 : decode cX11_fire 38 = .ok (.invokevirtual 187, 3) := by decide +kernel
theorem dX11_fire_41 : decode cX11_fire 41 = .ok (.iconst 0, 1) := by decide +kernel
theorem dX11_fire_42 : decode cX11_fire 42 = .ok (.istore_n 1, 1) := by decide +kernel
theorem dX11_fire_43 : decode cX11_fire 43 = .ok (.iconst 0, 1) := by decide +kernel
theorem dX11_fire_44 : decode cX11_fire 44 = .ok (.istore_n 2, 1) := by decide +kernel
theorem dX11_fire_45 : decode cX11_fire 45 = .ok (.iload_n 2, 1) := by decide +kernel
theorem dX11_fire_46 : decode cX11_fire 46 = .ok (.bipush 12, 2) := by decide +kernel
theorem dX11_fire_48 : decode cX11_fire 48 = .ok (.if_icmp .ge 134, 3) := by decide +kernel
theorem dX11_fire_51 : decode cX11_fire 51 = .ok (.aload_n 0, 1) := by decide +kernel
theorem dX11_fire_52 : decode cX11_fire 52 = .ok (.getfield 52, 3) := by decide +kernel
theorem dX11_fire_55 : decode cX11_fire 55 = .ok (.iload_n 2, 1) := by decide +kernel
theorem dX11_fire_56 : decode cX11_fire 56 = .ok (.iaload, 1) := by decide +kernel
theorem dX11_fire_57 : decode cX11_fire 57 = .ok (.ifCond .ge 6, 3) := by decide +kernel
theorem dX11_fire_60 : decode cX11_fire 60 = .ok (.goto 116, 3) := by decide +kernel
theorem dX11_fire_63 : decode cX11_fire 63 = .ok (.aload_n 0, 1) := by decide +kernel
theorem dX11_fire_64 : decode cX11_fire 64 = .ok (.iload_n 2, 1) := by decide +kernel
theorem dX11_fire_65 : decode cX11_fire 65 = .ok (.invokevirtual 197, 3) := by decide +kernel
theorem dX11_fire_68 : decode cX11_fire 68 = .ok (.istore_n 3, 1) := by decide +kernel
theorem dX11_fire_69 : decode cX11_fire 69 = .ok (.aload_n 0, 1) := by decide +kernel
theorem dX11_fire_70 : decode cX11_fire 70 = .ok (.getfield 40, 3) := by decide +kernel
theorem dX11_fire_73 : decode cX11_fire 73 = .ok (.iload_n 3, 1) := by decide +kernel
theorem dX11_fire_74 : decode cX11_fire 74 = .ok (.aload_n 0, 1) := by decide +kernel
theorem dX11_fire_75 : decode cX11_fire 75 = .ok (.getfield 64, 3) := by decide +kernel
theorem dX11_fire_78 : decode cX11_fire 78 = .ok (.iload_n 2, 1) := by decide +kernel
theorem dX11_fire_79 : decode cX11_fire 79 = .ok (.iaload, 1) := by decide +kernel
theorem dX11_fire_80 : decode cX11_fire 80 = .ok (.iastore, 1) := by decide +kernel
theorem dX11_fire_81 : decode cX11_fire 81 = .ok (.aload_n 0, 1) := by decide +kernel
theorem dX11_fire_82 : decode cX11_fire 82 = .ok (.iload_n 3, 1) := by decide +kernel
theorem dX11_fire_83 : decode cX11_fire 83 = .ok (.iload_n 2, 1) := by decide +kernel
theorem dX11_fire_84 : decode cX11_fire 84 = .ok (.invokevirtual 203, 3) := by decide +kernel
theorem dX11_fire_87 : decode cX11_fire 87 = .ok (.ifCond .ne 13, 3) := by decide +kernel
theorem dX11_fire_90 : decode cX11_fire 90 = .ok (.aload_n 0, 1) := by decide +kernel
theorem dX11_fire_91 : decode cX11_fire 91 = .ok (.getfield 34, 3) := by decide +kernel
theorem dX11_fire_94 : decode cX11_fire 94 = .ok (.iload_n 3, 1) := by decide +kernel
theorem dX11_fire_95 : decode cX11_fire 95 = .ok (.iconst 3, 1) := by decide +kernel
theorem dX11_fire_96 : decode cX11_fire 96 = .ok (.iastore, 1) := by decide +kernel
theorem dX11_fire_97 : decode cX11_fire 97 = .ok (.goto 79, 3) := by decide +kernel
theorem dX11_fire_100 : decode cX11_fire 100 = .ok (.aload_n 0, 1) := by decide +kernel
theorem dX11_fire_101 : decode cX11_fire 101 = .ok (.getfield 34, 3) := by decide +kernel
theorem dX11_fire_104 : decode cX11_fire 104 = .ok (.iload_n 3, 1) := by decide +kernel
theorem dX11_fire_105 : decode cX11_fire 105 = .ok (.iconst 1, 1) := by decide +kernel
theorem dX11_fire_106 : decode cX11_fire 106 = .ok (.iastore, 1) := by decide +kernel
theorem dX11_fire_107 : decode cX11_fire 107 = .ok (.aload_n 0, 1) := by decide +kernel
theorem dX11_fire_108 : decode cX11_fire 108 = .ok (.getfield 31, 3) := by decide +kernel
theorem dX11_fire_111 : decode cX11_fire 111 = .ok (.iload_n 3, 1) := by decide +kernel
theorem dX11_fire_112 : decode cX11_fire 112 = .ok (.dup2, 1) := by decide +kernel
theorem dX11_fire_113 : decode cX11_fire 113 = .ok (.iaload, 1) := by decide +kernel
theorem dX11_fire_114 : decode cX11_fire 114 = .ok (.aload_n 0, 1) := by decide +kernel
theorem dX11_fire_115 : decode cX11_fire 115 = .ok (.getfield 31, 3) := by decide +kernel
theorem dX11_fire_118 : decode cX11_fire 118 = .ok (.iload_n 3, 1) := by decide +kernel
theorem dX11_fire_119 : decode cX11_fire 119 = .ok (.iaload, 1) := by decide +kernel
theorem dX11_fire_120 : decode cX11_fire 120 = .ok (.aload_n 0, 1) := by decide +kernel
theorem dX11_fire_121 : decode cX11_fire 121 = .ok (.iload_n 3, 1) := by decide +kernel
theorem dX11_fire_122 : decode cX11_fire 122 = .ok (.iconst 1, 1) := by decide +kernel
theorem dX11_fire_123 : decode cX11_fire 123 = .ok (.invokevirtual 200, 3) := by decide +kernel
theorem dX11_fire_126 : decode cX11_fire 126 = .ok (.imul, 1) := by decide +kernel
theorem dX11_fire_127 : decode cX11_fire 127 = .ok (.sipush 1000, 3) := by decide +kernel
theorem dX11_fire_130 : decode cX11_fire 130 = .ok (.idiv, 1) := by decide +kernel
theorem dX11_fire_131 : decode cX11_fire 131 = .ok (.isub, 1) := by decide +kernel
theorem dX11_fire_132 : decode cX11_fire 132 = .ok (.iastore, 1) := by decide +kernel
theorem dX11_fire_133 : decode cX11_fire 133 = .ok (.aload_n 0, 1) := by decide +kernel
theorem dX11_fire_134 : decode cX11_fire 134 = .ok (.getfield 43, 3) := by decide +kernel
theorem dX11_fire_137 : decode cX11_fire 137 = .ok (.iload_n 3, 1) := by decide +kernel
theorem dX11_fire_138 : decode cX11_fire 138 = .ok (.iconst 0, 1) := by decide +kernel
theorem dX11_fire_139 : decode cX11_fire 139 = .ok (.bipush 100, 2) := by decide +kernel
theorem dX11_fire_141 : decode cX11_fire 141 = .ok (.aload_n 0, 1) := by decide +kernel
theorem dX11_fire_142 : decode cX11_fire 142 = .ok (.getfield 64, 3) := by decide +kernel
theorem dX11_fire_145 : decode cX11_fire 145 = .ok (.iload_n 2, 1) := by decide +kernel
theorem dX11_fire_146 : decode cX11_fire 146 = .ok (.iaload, 1) := by decide +kernel
theorem dX11_fire_147 : decode cX11_fire 147 = .ok (.aload_n 0, 1) := by decide +kernel
theorem dX11_fire_148 : decode cX11_fire 148 = .ok (.iload_n 3, 1) := by decide +kernel
theorem dX11_fire_149 : decode cX11_fire 149 = .ok (.iconst 2, 1) := by decide +kernel
theorem dX11_fire_150 : decode cX11_fire 150 = .ok (.invokevirtual 200, 3) := by decide +kernel
theorem dX11_fire_153 : decode cX11_fire 153 = .ok (.aload_n 0, 1) := by decide +kernel
theorem dX11_fire_154 : decode cX11_fire 154 = .ok (.iload_n 3, 1) := by decide +kernel
theorem dX11_fire_155 : decode cX11_fire 155 = .ok (.iconst 3, 1) := by decide +kernel
theorem dX11_fire_156 : decode cX11_fire 156 = .ok (.invokevirtual 200, 3) := by decide +kernel
theorem dX11_fire_159 : decode cX11_fire 159 = .ok (.iadd, 1) := by decide +kernel
theorem dX11_fire_160 : decode cX11_fire 160 = .ok (.iconst 2, 1) := by decide +kernel
theorem dX11_fire_161 : decode cX11_fire 161 = .ok (.idiv, 1) := by decide +kernel
theorem dX11_fire_162 : decode cX11_fire 162 = .ok (.isub, 1) := by decide +kernel
theorem dX11_fire_163 : decode cX11_fire 163 = .ok (.invokestatic 206, 3) := by decide +kernel
theorem dX11_fire_166 : decode cX11_fire 166 = .ok (.iconst 5, 1) := by decide +kernel
theorem dX11_fire_167 : decode cX11_fire 167 = .ok (.idiv, 1) := by decide +kernel
theorem dX11_fire_168 : decode cX11_fire 168 = .ok (.isub, 1) := by decide +kernel
theorem dX11_fire_169 : decode cX11_fire 169 = .ok (.invokestatic 182, 3) := by decide +kernel
theorem dX11_fire_172 : decode cX11_fire 172 = .ok (.iastore, 1) := by decide +kernel
theorem dX11_fire_173 : decode cX11_fire 173 = .ok (.iinc 1 1, 3) := by decide +kernel
theorem dX11_fire_176 : decode cX11_fire 176 = .ok (.iinc 2 1, 3) := by decide +kernel
theorem dX11_fire_179 : decode cX11_fire 179 = .ok (.goto (-134), 3) := by decide +kernel
theorem dX11_fire_182 : decode cX11_fire 182 = .ok (.iconst 0, 1) := by decide +kernel
theorem dX11_fire_183 : decode cX11_fire 183 = .ok (.istore_n 2, 1) := by decide +kernel
theorem dX11_fire_184 : decode cX11_fire 184 = .ok (.iload_n 2, 1) := by decide +kernel
theorem dX11_fire_185 : decode cX11_fire 185 = .ok (.aload_n 0, 1) := by decide +kernel
theorem dX11_fire_186 : decode cX11_fire 186 = .ok (.getfield 177, 3) := by decide +kernel
theorem dX11_fire_189 : decode cX11_fire 189 = .ok (.if_icmp .ge 24, 3) := by decide +kernel
theorem dX11_fire_192 : decode cX11_fire 192 = .ok (.aload_n 0, 1) := by decide +kernel
theorem dX11_fire_193 : decode cX11_fire 193 = .ok (.dup, 1) := by decide +kernel
theorem dX11_fire_194 : decode cX11_fire 194 = .ok (.getfield 209, 3) := by decide +kernel
theorem dX11_fire_197 : decode cX11_fire 197 = .ok (.aload_n 0, 1) := by decide +kernel
theorem dX11_fire_198 : decode cX11_fire 198 = .ok (.getfield 55, 3) := by decide +kernel
theorem dX11_fire_201 : decode cX11_fire 201 = .ok (.iload_n 2, 1) := by decide +kernel
theorem dX11_fire_202 : decode cX11_fire 202 = .ok (.iaload, 1) := by decide +kernel
theorem dX11_fire_203 : decode cX11_fire 203 = .ok (.iadd, 1) := by decide +kernel
theorem dX11_fire_204 : decode cX11_fire 204 = .ok (.putfield 209, 3) := by decide +kernel
theorem dX11_fire_207 : decode cX11_fire 207 = .ok (.iinc 2 1, 3) := by decide +kernel
theorem dX11_fire_210 : decode cX11_fire 210 = .ok (.goto (-26), 3) := by decide +kernel
theorem dX11_fire_213 : decode cX11_fire 213 = .ok (.aload_n 0, 1) := by decide +kernel
theorem dX11_fire_214 : decode cX11_fire 214 = .ok (.iconst 0, 1) := by decide +kernel
theorem dX11_fire_215 : decode cX11_fire 215 = .ok (.putfield 177, 3) := by decide +kernel
theorem dX11_fire_218 : decode cX11_fire 218 = .ok (.aload_n 0, 1) := by decide +kernel
theorem dX11_fire_219 : decode cX11_fire 219 = .ok (.iconst 2, 1) := by decide +kernel
theorem dX11_fire_220 : decode cX11_fire 220 = .ok (.invokevirtual 170, 3) := by decide +kernel
theorem dX11_fire_223 : decode cX11_fire 223 = .ok (.iload_n 1, 1) := by decide +kernel
theorem dX11_fire_224 : decode cX11_fire 224 = .ok (.ireturn, 1) := by decide +kernel
theorem dX11_isWanted_0 : decode cX11_isWanted 0 = .ok (.iconst 0, 1) := by decide +kernel
theorem dX11_isWanted_1 : decode cX11_isWanted 1 = .ok (.istore_n 2, 1) := by decide +kernel
theorem dX11_isWanted_2 : decode cX11_isWanted 2 = .ok (.iconst 0, 1) := by decide +kernel
theorem dX11_isWanted_3 : decode cX11_isWanted 3 = .ok (.istore_n 3, 1) := by decide +kernel
theorem dX11_isWanted_4 : decode cX11_isWanted 4 = .ok (.iload_n 3, 1) := by decide +kernel
theorem dX11_isWanted_5 : decode cX11_isWanted 5 = .ok (.aload_n 0, 1) := by decide +kernel
theorem dX11_isWanted_6 : decode cX11_isWanted 6 = .ok (.getfield 212, 3) := by decide +kernel
theorem dX11_isWanted_9 : decode cX11_isWanted 9 = .ok (.if_icmp .ge 29, 3) := by decide +kernel
theorem dX11_isWanted_12 : decode cX11_isWanted 12 = .ok (.iload_n 2, 1) := by decide +kernel
theorem dX11_isWanted_13 : decode cX11_isWanted 13 = .ok (.ifCond .ne 13, 3) := by decide +kernel
theorem dX11_isWanted_16 : decode cX11_isWanted 16 = .ok (.aload_n 0, 1) := by decide +kernel
theorem dX11_isWanted_17 : decode cX11_isWanted 17 = .ok (.getfield 67, 3) := by decide +kernel
theorem dX11_isWanted_20 : decode cX11_isWanted 20 = .ok (.iload_n 3, 1) := by decide +kernel
theorem dX11_isWanted_21 : decode cX11_isWanted 21 = .ok (.iaload, 1) := by decide +kernel
theorem dX11_isWanted_22 : decode cX11_isWanted 22 = .ok (.iload_n 1, 1) := by decide +kernel
theorem dX11_isWanted_23 : decode cX11_isWanted 23 = .ok (.if_icmp .ne 7, 3) := by decide +kernel
theorem dX11_isWanted_26 : decode cX11_isWanted 26 = .ok (.iconst 1, 1) := by decide +kernel
theorem dX11_isWanted_27 : decode cX11_isWanted 27 = .ok (.goto 4, 3) := by decide +kernel
theorem dX11_isWanted_30 : decode cX11_isWanted 30 = .ok (.iconst 0, 1) := by decide +kernel
theorem dX11_isWanted_31 : decode cX11_isWanted 31 = .ok (.istore_n 2, 1) := by decide +kernel
theorem dX11_isWanted_32 : decode cX11_isWanted 32 = .ok (.iinc 3 1, 3) := by decide +kernel
theorem dX11_isWanted_35 : decode cX11_isWanted 35 = .ok (.goto (-31), 3) := by decide +kernel
theorem dX11_isWanted_38 : decode cX11_isWanted 38 = .ok (.iload_n 2, 1) := by decide +kernel
theorem dX11_isWanted_39 : decode cX11_isWanted 39 = .ok (.ireturn, 1) := by decide +kernel
theorem dX11_want_0 : decode cX11_want 0 = .ok (.aload_n 0, 1) := by decide +kernel
theorem dX11_want_1 : decode cX11_want 1 = .ok (.iload_n 1, 1) := by decide +kernel
theorem dX11_want_2 : decode cX11_want 2 = .ok (.invokevirtual 190, 3) := by decide +kernel
theorem dX11_want_5 : decode cX11_want 5 = .ok (.ifCond .ne 9, 3) := by decide +kernel
theorem dX11_want_8 : decode cX11_want 8 = .ok (.aload_n 0, 1) := by decide +kernel
theorem dX11_want_9 : decode cX11_want 9 = .ok (.iconst (-1), 1) := by decide +kernel
theorem dX11_want_10 : decode cX11_want 10 = .ok (.invokevirtual 152, 3) := by decide +kernel
theorem dX11_want_13 : decode cX11_want 13 = .ok (.ireturn, 1) := by decide +kernel
theorem dX11_want_14 : decode cX11_want 14 = .ok (.aload_n 0, 1) := by decide +kernel
theorem dX11_want_15 : decode cX11_want 15 = .ok (.getfield 34, 3) := by decide +kernel
theorem dX11_want_18 : decode cX11_want 18 = .ok (.iload_n 1, 1) := by decide +kernel
theorem dX11_want_19 : decode cX11_want 19 = .ok (.iaload, 1) := by decide +kernel
theorem dX11_want_20 : decode cX11_want 20 = .ok (.ifCond .ne 20, 3) := by decide +kernel
theorem dX11_want_23 : decode cX11_want 23 = .ok (.aload_n 0, 1) := by decide +kernel
theorem dX11_want_24 : decode cX11_want 24 = .ok (.getfield 37, 3) := by decide +kernel
theorem dX11_want_27 : decode cX11_want 27 = .ok (.iload_n 1, 1) := by decide +kernel
theorem dX11_want_28 : decode cX11_want 28 = .ok (.iaload, 1) := by decide +kernel
theorem dX11_want_29 : decode cX11_want 29 = .ok (.ifCond .ge 11, 3) := by decide +kernel
theorem dX11_want_32 : decode cX11_want 32 = .ok (.aload_n 0, 1) := by decide +kernel
theorem dX11_want_33 : decode cX11_want 33 = .ok (.iload_n 1, 1) := by decide +kernel
theorem dX11_want_34 : decode cX11_want 34 = .ok (.invokevirtual 194, 3) := by decide +kernel
theorem dX11_want_37 : decode cX11_want 37 = .ok (.ifCond .eq 10, 3) := by decide +kernel
theorem dX11_want_40 : decode cX11_want 40 = .ok (.aload_n 0, 1) := by decide +kernel
theorem dX11_want_41 : decode cX11_want 41 = .ok (.bipush (-3), 2) := by decide +kernel
theorem dX11_want_43 : decode cX11_want 43 = .ok (.invokevirtual 152, 3) := by decide +kernel
theorem dX11_want_46 : decode cX11_want 46 = .ok (.ireturn, 1) := by decide +kernel
theorem dX11_want_47 : decode cX11_want 47 = .ok (.iload_n 2, 1) := by decide +kernel
theorem dX11_want_48 : decode cX11_want 48 = .ok (.iconst 1, 1) := by decide +kernel
theorem dX11_want_49 : decode cX11_want 49 = .ok (.sipush 999, 3) := by decide +kernel
theorem dX11_want_52 : decode cX11_want 52 = .ok (.invokestatic 148, 3) := by decide +kernel
theorem dX11_want_55 : decode cX11_want 55 = .ok (.istore_n 3, 1) := by decide +kernel
theorem dX11_want_56 : decode cX11_want 56 = .ok (.iload_n 3, 1) := by decide +kernel
theorem dX11_want_57 : decode cX11_want 57 = .ok (.ifCond .ne 15, 3) := by decide +kernel
theorem dX11_want_60 : decode cX11_want 60 = .ok (.aload_n 0, 1) := by decide +kernel
theorem dX11_want_61 : decode cX11_want 61 = .ok (.getfield 212, 3) := by decide +kernel
theorem dX11_want_64 : decode cX11_want 64 = .ok (.bipush 8, 2) := by decide +kernel
theorem dX11_want_66 : decode cX11_want 66 = .ok (.if_icmp .ne 6, 3) := by decide +kernel
theorem dX11_want_69 : decode cX11_want 69 = .ok (.bipush (-6), 2) := by decide +kernel
theorem dX11_want_71 : decode cX11_want 71 = .ok (.istore_n 3, 1) := by decide +kernel
theorem dX11_want_72 : decode cX11_want 72 = .ok (.iload_n 3, 1) := by decide +kernel
theorem dX11_want_73 : decode cX11_want 73 = .ok (.ifCond .eq 9, 3) := by decide +kernel
theorem dX11_want_76 : decode cX11_want 76 = .ok (.aload_n 0, 1) := by decide +kernel
theorem dX11_want_77 : decode cX11_want 77 = .ok (.iload_n 3, 1) := by decide +kernel
theorem dX11_want_78 : decode cX11_want 78 = .ok (.invokevirtual 152, 3) := by decide +kernel
theorem dX11_want_81 : decode cX11_want 81 = .ok (.ireturn, 1) := by decide +kernel
theorem dX11_want_82 : decode cX11_want 82 = .ok (.aload_n 0, 1) := by decide +kernel
theorem dX11_want_83 : decode cX11_want 83 = .ok (.getfield 67, 3) := by decide +kernel
theorem dX11_want_86 : decode cX11_want 86 = .ok (.aload_n 0, 1) := by decide +kernel
theorem dX11_want_87 : decode cX11_want 87 = .ok (.getfield 212, 3) := by decide +kernel
theorem dX11_want_90 : decode cX11_want 90 = .ok (.iload_n 1, 1) := by decide +kernel
theorem dX11_want_91 : decode cX11_want 91 = .ok (.iastore, 1) := by decide +kernel
theorem dX11_want_92 : decode cX11_want 92 = .ok (.aload_n 0, 1) := by decide +kernel
theorem dX11_want_93 : decode cX11_want 93 = .ok (.getfield 70, 3) := by decide +kernel
theorem dX11_want_96 : decode cX11_want 96 = .ok (.aload_n 0, 1) := by decide +kernel
theorem dX11_want_97 : decode cX11_want 97 = .ok (.getfield 212, 3) := by decide +kernel
theorem dX11_want_100 : decode cX11_want 100 = .ok (.iload_n 2, 1) := by decide +kernel
theorem dX11_want_101 : decode cX11_want 101 = .ok (.iastore, 1) := by decide +kernel
theorem dX11_want_102 : decode cX11_want 102 = .ok (.aload_n 0, 1) := by decide +kernel
theorem dX11_want_103 : decode cX11_want 103 = .ok (.dup, 1) := by decide +kernel
theorem dX11_want_104 : decode cX11_want 104 = .ok (.getfield 212, 3) := by decide +kernel
theorem dX11_want_107 : decode cX11_want 107 = .ok (.iconst 1, 1) := by decide +kernel
theorem dX11_want_108 : decode cX11_want 108 = .ok (.iadd, 1) := by decide +kernel
theorem dX11_want_109 : decode cX11_want 109 = .ok (.putfield 212, 3) := by decide +kernel
theorem dX11_want_112 : decode cX11_want 112 = .ok (.aload_n 0, 1) := by decide +kernel
theorem dX11_want_113 : decode cX11_want 113 = .ok (.getfield 212, 3) := by decide +kernel
theorem dX11_want_116 : decode cX11_want 116 = .ok (.ireturn, 1) := by decide +kernel
theorem dX11_finds_0 : decode cX11_finds 0 = .ok (.aload_n 0, 1) := by decide +kernel
theorem dX11_finds_1 : decode cX11_finds 1 = .ok (.aload_n 0, 1) := by decide +kernel
theorem dX11_finds_2 : decode cX11_finds 2 = .ok (.getfield 177, 3) := by decide +kernel
theorem dX11_finds_5 : decode cX11_finds 5 = .ok (.invokevirtual 187, 3) := by decide +kernel
theorem dX11_finds_8 : decode cX11_finds 8 = .ok (.sipush 4096, 3) := by decide +kernel
theorem dX11_finds_11 : decode cX11_finds 11 = .ok (.istore_n 1, 1) := by decide +kernel
theorem dX11_finds_12 : decode cX11_finds 12 = .ok (.iconst 0, 1) := by decide +kernel
theorem dX11_finds_13 : decode cX11_finds 13 = .ok (.istore_n 2, 1) := by decide +kernel
theorem dX11_finds_14 : decode cX11_finds 14 = .ok (.iload_n 2, 1) := by decide +kernel
theorem dX11_finds_15 : decode cX11_finds 15 = .ok (.iload_n 1, 1) := by decide +kernel
theorem dX11_finds_16 : decode cX11_finds 16 = .ok (.if_icmp .ge 23, 3) := by decide +kernel
theorem dX11_finds_19 : decode cX11_finds 19 = .ok (.aload_n 0, 1) := by decide +kernel
theorem dX11_finds_20 : decode cX11_finds 20 = .ok (.getfield 74, 3) := by decide +kernel
theorem dX11_finds_23 : decode cX11_finds 23 = .ok (.iload_n 1, 1) := by decide +kernel
theorem dX11_finds_24 : decode cX11_finds 24 = .ok (.aload_n 0, 1) := by decide +kernel
theorem dX11_finds_25 : decode cX11_finds 25 = .ok (.getfield 212, 3) := by decide +kernel
theorem dX11_finds_28 : decode cX11_finds 28 = .ok (.imul, 1) := by decide +kernel
theorem dX11_finds_29 : decode cX11_finds 29 = .ok (.iload_n 2, 1) := by decide +kernel
theorem dX11_finds_30 : decode cX11_finds 30 = .ok (.iadd, 1) := by decide +kernel
theorem dX11_finds_31 : decode cX11_finds 31 = .ok (.iconst 0, 1) := by decide +kernel
theorem dX11_finds_32 : decode cX11_finds 32 = .ok (.iastore, 1) := by decide +kernel
theorem dX11_finds_33 : decode cX11_finds 33 = .ok (.iinc 2 1, 3) := by decide +kernel
theorem dX11_finds_36 : decode cX11_finds 36 = .ok (.goto (-22), 3) := by decide +kernel
theorem dX11_finds_39 : decode cX11_finds 39 = .ok (.aload_n 0, 1) := by decide +kernel
theorem dX11_finds_40 : decode cX11_finds 40 = .ok (.getfield 212, 3) := by decide +kernel
theorem dX11_finds_43 : decode cX11_finds 43 = .ok (.iconst 1, 1) := by decide +kernel
theorem dX11_finds_44 : decode cX11_finds 44 = .ok (.isub, 1) := by decide +kernel
theorem dX11_finds_45 : decode cX11_finds 45 = .ok (.istore_n 2, 1) := by decide +kernel
theorem dX11_finds_46 : decode cX11_finds 46 = .ok (.iload_n 2, 1) := by decide +kernel
theorem dX11_finds_47 : decode cX11_finds 47 = .ok (.ifCond .lt 106, 3) := by decide +kernel
theorem dX11_finds_50 : decode cX11_finds 50 = .ok (.iconst 0, 1) := by decide +kernel
theorem dX11_finds_51 : decode cX11_finds 51 = .ok (.istore_n 3, 1) := by decide +kernel
theorem dX11_finds_52 : decode cX11_finds 52 = .ok (.iload_n 3, 1) := by decide +kernel
theorem dX11_finds_53 : decode cX11_finds 53 = .ok (.iload_n 1, 1) := by decide +kernel
theorem dX11_finds_54 : decode cX11_finds 54 = .ok (.if_icmp .ge 93, 3) := by decide +kernel
theorem dX11_finds_57 : decode cX11_finds 57 = .ok (.aload_n 0, 1) := by decide +kernel
theorem dX11_finds_58 : decode cX11_finds 58 = .ok (.getfield 74, 3) := by decide +kernel
theorem dX11_finds_61 : decode cX11_finds 61 = .ok (.iload_n 1, 1) := by decide +kernel
theorem dX11_finds_62 : decode cX11_finds 62 = .ok (.iload_n 2, 1) := by decide +kernel
theorem dX11_finds_63 : decode cX11_finds 63 = .ok (.iconst 1, 1) := by decide +kernel
theorem dX11_finds_64 : decode cX11_finds 64 = .ok (.iadd, 1) := by decide +kernel
theorem dX11_finds_65 : decode cX11_finds 65 = .ok (.imul, 1) := by decide +kernel
theorem dX11_finds_66 : decode cX11_finds 66 = .ok (.iload_n 3, 1) := by decide +kernel
theorem dX11_finds_67 : decode cX11_finds 67 = .ok (.iadd, 1) := by decide +kernel
theorem dX11_finds_68 : decode cX11_finds 68 = .ok (.iaload, 1) := by decide +kernel
theorem dX11_finds_69 : decode cX11_finds 69 = .ok (.istore 4, 2) := by decide +kernel
theorem dX11_finds_71 : decode cX11_finds 71 = .ok (.iconst 0, 1) := by decide +kernel
theorem dX11_finds_72 : decode cX11_finds 72 = .ok (.istore 5, 2) := by decide +kernel
theorem dX11_finds_74 : decode cX11_finds 74 = .ok (.iload 5, 2) := by decide +kernel
theorem dX11_finds_76 : decode cX11_finds 76 = .ok (.bipush 12, 2) := by decide +kernel
theorem dX11_finds_78 : decode cX11_finds 78 = .ok (.if_icmp .ge 51, 3) := by decide +kernel
theorem dX11_finds_81 : decode cX11_finds 81 = .ok (.aload_n 0, 1) := by decide +kernel
theorem dX11_finds_82 : decode cX11_finds 82 = .ok (.iload_n 2, 1) := by decide +kernel
theorem dX11_finds_83 : decode cX11_finds 83 = .ok (.iload 5, 2) := by decide +kernel
theorem dX11_finds_85 : decode cX11_finds 85 = .ok (.iload_n 3, 1) := by decide +kernel
theorem dX11_finds_86 : decode cX11_finds 86 = .ok (.invokevirtual 215, 3) := by decide +kernel
theorem dX11_finds_89 : decode cX11_finds 89 = .ok (.ifCond .eq 34, 3) := by decide +kernel
theorem dX11_finds_92 : decode cX11_finds 92 = .ok (.iload 4, 2) := by decide +kernel
theorem dX11_finds_94 : decode cX11_finds 94 = .ok (.aload_n 0, 1) := by decide +kernel
theorem dX11_finds_95 : decode cX11_finds 95 = .ok (.getfield 70, 3) := by decide +kernel
theorem dX11_finds_98 : decode cX11_finds 98 = .ok (.iload_n 2, 1) := by decide +kernel
theorem dX11_finds_99 : decode cX11_finds 99 = .ok (.iaload, 1) := by decide +kernel
theorem dX11_finds_100 : decode cX11_finds 100 = .ok (.aload_n 0, 1) := by decide +kernel
theorem dX11_finds_101 : decode cX11_finds 101 = .ok (.getfield 74, 3) := by decide +kernel
theorem dX11_finds_104 : decode cX11_finds 104 = .ok (.iload_n 1, 1) := by decide +kernel
theorem dX11_finds_105 : decode cX11_finds 105 = .ok (.iload_n 2, 1) := by decide +kernel
theorem dX11_finds_106 : decode cX11_finds 106 = .ok (.iconst 1, 1) := by decide +kernel
theorem dX11_finds_107 : decode cX11_finds 107 = .ok (.iadd, 1) := by decide +kernel
theorem dX11_finds_108 : decode cX11_finds 108 = .ok (.imul, 1) := by decide +kernel
theorem dX11_finds_109 : decode cX11_finds 109 = .ok (.iload_n 3, 1) := by decide +kernel
theorem dX11_finds_110 : decode cX11_finds 110 = .ok (.iconst 1, 1) := by decide +kernel
theorem dX11_finds_111 : decode cX11_finds 111 = .ok (.iload 5, 2) := by decide +kernel
theorem dX11_finds_113 : decode cX11_finds 113 = .ok (.ishl, 1) := by decide +kernel
theorem dX11_finds_114 : decode cX11_finds 114 = .ok (.ior, 1) := by decide +kernel
theorem dX11_finds_115 : decode cX11_finds 115 = .ok (.iadd, 1) := by decide +kernel
theorem dX11_finds_116 : decode cX11_finds 116 = .ok (.iaload, 1) := by decide +kernel
theorem dX11_finds_117 : decode cX11_finds 117 = .ok (.iadd, 1) := by decide +kernel
theorem dX11_finds_118 : decode cX11_finds 118 = .ok (.invokestatic 182, 3) := by decide +kernel
theorem dX11_finds_121 : decode cX11_finds 121 = .ok (.istore 4, 2) := by decide +kernel
theorem dX11_finds_123 : decode cX11_finds 123 = .ok (.iinc 5 1, 3) := by decide +kernel
theorem dX11_finds_126 : decode cX11_finds 126 = .ok (.goto (-52), 3) := by decide +kernel
theorem dX11_finds_129 : decode cX11_finds 129 = .ok (.aload_n 0, 1) := by decide +kernel
theorem dX11_finds_130 : decode cX11_finds 130 = .ok (.getfield 74, 3) := by decide +kernel
theorem dX11_finds_133 : decode cX11_finds 133 = .ok (.iload_n 1, 1) := by decide +kernel
theorem dX11_finds_134 : decode cX11_finds 134 = .ok (.iload_n 2, 1) := by decide +kernel
theorem dX11_finds_135 : decode cX11_finds 135 = .ok (.imul, 1) := by decide +kernel
theorem dX11_finds_136 : decode cX11_finds 136 = .ok (.iload_n 3, 1) := by decide +kernel
theorem dX11_finds_137 : decode cX11_finds 137 = .ok (.iadd, 1) := by decide +kernel
theorem dX11_finds_138 : decode cX11_finds 138 = .ok (.iload 4, 2) := by decide +kernel
theorem dX11_finds_140 : decode cX11_finds 140 = .ok (.iastore, 1) := by decide +kernel
theorem dX11_finds_141 : decode cX11_finds 141 = .ok (.iinc 3 1, 3) := by decide +kernel
theorem dX11_finds_144 : decode cX11_finds 144 = .ok (.goto (-92), 3) := by decide +kernel
theorem dX11_finds_147 : decode cX11_finds 147 = .ok (.iinc 2 (-1), 3) := by decide +kernel
theorem dX11_finds_150 : decode cX11_finds 150 = .ok (.goto (-104), 3) := by decide +kernel
theorem dX11_finds_153 : decode cX11_finds 153 = .ok (.iconst 0, 1) := by decide +kernel
theorem dX11_finds_154 : decode cX11_finds 154 = .ok (.istore_n 2, 1) := by decide +kernel
theorem dX11_finds_155 : decode cX11_finds 155 = .ok (.iconst 0, 1) := by decide +kernel
theorem dX11_finds_156 : decode cX11_finds 156 = .ok (.istore_n 3, 1) := by decide +kernel
theorem dX11_finds_157 : decode cX11_finds 157 = .ok (.iload_n 3, 1) := by decide +kernel
theorem dX11_finds_158 : decode cX11_finds 158 = .ok (.aload_n 0, 1) := by decide +kernel
theorem dX11_finds_159 : decode cX11_finds 159 = .ok (.getfield 212, 3) := by decide +kernel
theorem dX11_finds_162 : decode cX11_finds 162 = .ok (.if_icmp .ge 118, 3) := by decide +kernel
theorem dX11_finds_165 : decode cX11_finds 165 = .ok (.aload_n 0, 1) := by decide +kernel
theorem dX11_finds_166 : decode cX11_finds 166 = .ok (.getfield 77, 3) := by decide +kernel
theorem dX11_finds_169 : decode cX11_finds 169 = .ok (.iload_n 3, 1) := by decide +kernel
theorem dX11_finds_170 : decode cX11_finds 170 = .ok (.bipush (-9), 2) := by decide +kernel
theorem dX11_finds_172 : decode cX11_finds 172 = .ok (.iastore, 1) := by decide +kernel
theorem dX11_finds_173 : decode cX11_finds 173 = .ok (.iconst 0, 1) := by decide +kernel
theorem dX11_finds_174 : decode cX11_finds 174 = .ok (.istore 4, 2) := by decide +kernel
theorem dX11_finds_176 : decode cX11_finds 176 = .ok (.iload 4, 2) := by decide +kernel
theorem dX11_finds_178 : decode cX11_finds 178 = .ok (.bipush 12, 2) := by decide +kernel
theorem dX11_finds_180 : decode cX11_finds 180 = .ok (.if_icmp .ge 74, 3) := by decide +kernel
theorem dX11_finds_183 : decode cX11_finds 183 = .ok (.aload_n 0, 1) := by decide +kernel
theorem dX11_finds_184 : decode cX11_finds 184 = .ok (.getfield 77, 3) := by decide +kernel
theorem dX11_finds_187 : decode cX11_finds 187 = .ok (.iload_n 3, 1) := by decide +kernel
theorem dX11_finds_188 : decode cX11_finds 188 = .ok (.iaload, 1) := by decide +kernel
theorem dX11_finds_189 : decode cX11_finds 189 = .ok (.ifCond .ge 65, 3) := by decide +kernel
theorem dX11_finds_192 : decode cX11_finds 192 = .ok (.aload_n 0, 1) := by decide +kernel
theorem dX11_finds_193 : decode cX11_finds 193 = .ok (.iload_n 3, 1) := by decide +kernel
theorem dX11_finds_194 : decode cX11_finds 194 = .ok (.iload 4, 2) := by decide +kernel
theorem dX11_finds_196 : decode cX11_finds 196 = .ok (.iload_n 2, 1) := by decide +kernel
theorem dX11_finds_197 : decode cX11_finds 197 = .ok (.invokevirtual 215, 3) := by decide +kernel
theorem dX11_finds_200 : decode cX11_finds 200 = .ok (.ifCond .eq 48, 3) := by decide +kernel
theorem dX11_finds_203 : decode cX11_finds 203 = .ok (.aload_n 0, 1) := by decide +kernel
theorem dX11_finds_204 : decode cX11_finds 204 = .ok (.getfield 70, 3) := by decide +kernel
theorem dX11_finds_207 : decode cX11_finds 207 = .ok (.iload_n 3, 1) := by decide +kernel
theorem dX11_finds_208 : decode cX11_finds 208 = .ok (.iaload, 1) := by decide +kernel
theorem dX11_finds_209 : decode cX11_finds 209 = .ok (.aload_n 0, 1) := by decide +kernel
theorem dX11_finds_210 : decode cX11_finds 210 = .ok (.getfield 74, 3) := by decide +kernel
theorem dX11_finds_213 : decode cX11_finds 213 = .ok (.iload_n 1, 1) := by decide +kernel
theorem dX11_finds_214 : decode cX11_finds 214 = .ok (.iload_n 3, 1) := by decide +kernel
theorem dX11_finds_215 : decode cX11_finds 215 = .ok (.iconst 1, 1) := by decide +kernel
theorem dX11_finds_216 : decode cX11_finds 216 = .ok (.iadd, 1) := by decide +kernel
theorem dX11_finds_217 : decode cX11_finds 217 = .ok (.imul, 1) := by decide +kernel
theorem dX11_finds_218 : decode cX11_finds 218 = .ok (.iload_n 2, 1) := by decide +kernel
theorem dX11_finds_219 : decode cX11_finds 219 = .ok (.iconst 1, 1) := by decide +kernel
theorem dX11_finds_220 : decode cX11_finds 220 = .ok (.iload 4, 2) := by decide +kernel
theorem dX11_finds_222 : decode cX11_finds 222 = .ok (.ishl, 1) := by decide +kernel
theorem dX11_finds_223 : decode cX11_finds 223 = .ok (.ior, 1) := by decide +kernel
theorem dX11_finds_224 : decode cX11_finds 224 = .ok (.iadd, 1) := by decide +kernel
theorem dX11_finds_225 : decode cX11_finds 225 = .ok (.iaload, 1) := by decide +kernel
theorem dX11_finds_226 : decode cX11_finds 226 = .ok (.iadd, 1) := by decide +kernel
theorem dX11_finds_227 : decode cX11_finds 227 = .ok (.aload_n 0, 1) := by decide +kernel
theorem dX11_finds_228 : decode cX11_finds 228 = .ok (.getfield 74, 3) := by decide +kernel
theorem dX11_finds_231 : decode cX11_finds 231 = .ok (.iload_n 1, 1) := by decide +kernel
theorem dX11_finds_232 : decode cX11_finds 232 = .ok (.iload_n 3, 1) := by decide +kernel
theorem dX11_finds_233 : decode cX11_finds 233 = .ok (.imul, 1) := by decide +kernel
theorem dX11_finds_234 : decode cX11_finds 234 = .ok (.iload_n 2, 1) := by decide +kernel
theorem dX11_finds_235 : decode cX11_finds 235 = .ok (.iadd, 1) := by decide +kernel
theorem dX11_finds_236 : decode cX11_finds 236 = .ok (.iaload, 1) := by decide +kernel
theorem dX11_finds_237 : decode cX11_finds 237 = .ok (.if_icmp .ne 11, 3) := by decide +kernel
theorem dX11_finds_240 : decode cX11_finds 240 = .ok (.aload_n 0, 1) := by decide +kernel
theorem dX11_finds_241 : decode cX11_finds 241 = .ok (.getfield 77, 3) := by decide +kernel
theorem dX11_finds_244 : decode cX11_finds 244 = .ok (.iload_n 3, 1) := by decide +kernel
theorem dX11_finds_245 : decode cX11_finds 245 = .ok (.iload 4, 2) := by decide +kernel
theorem dX11_finds_247 : decode cX11_finds 247 = .ok (.iastore, 1) := by decide +kernel
theorem dX11_finds_248 : decode cX11_finds 248 = .ok (.iinc 4 1, 3) := by decide +kernel
theorem dX11_finds_251 : decode cX11_finds 251 = .ok (.goto (-75), 3) := by decide +kernel
theorem dX11_finds_254 : decode cX11_finds 254 = .ok (.aload_n 0, 1) := by decide +kernel
theorem dX11_finds_255 : decode cX11_finds 255 = .ok (.getfield 77, 3) := by decide +kernel
theorem dX11_finds_258 : decode cX11_finds 258 = .ok (.iload_n 3, 1) := by decide +kernel
theorem dX11_finds_259 : decode cX11_finds 259 = .ok (.iaload, 1) := by decide +kernel
theorem dX11_finds_260 : decode cX11_finds 260 = .ok (.ifCond .lt 14, 3) := by decide +kernel
theorem dX11_finds_263 : decode cX11_finds 263 = .ok (.iload_n 2, 1) := by decide +kernel
theorem dX11_finds_264 : decode cX11_finds 264 = .ok (.iconst 1, 1) := by decide +kernel
theorem dX11_finds_265 : decode cX11_finds 265 = .ok (.aload_n 0, 1) := by decide +kernel
theorem dX11_finds_266 : decode cX11_finds 266 = .ok (.getfield 77, 3) := by decide +kernel
theorem dX11_finds_269 : decode cX11_finds 269 = .ok (.iload_n 3, 1) := by decide +kernel
theorem dX11_finds_270 : decode cX11_finds 270 = .ok (.iaload, 1) := by decide +kernel
theorem dX11_finds_271 : decode cX11_finds 271 = .ok (.ishl, 1) := by decide +kernel
theorem dX11_finds_272 : decode cX11_finds 272 = .ok (.ior, 1) := by decide +kernel
theorem dX11_finds_273 : decode cX11_finds 273 = .ok (.istore_n 2, 1) := by decide +kernel
theorem dX11_finds_274 : decode cX11_finds 274 = .ok (.iinc 3 1, 3) := by decide +kernel
theorem dX11_finds_277 : decode cX11_finds 277 = .ok (.goto (-120), 3) := by decide +kernel
theorem dX11_finds_280 : decode cX11_finds 280 = .ok (.aload_n 0, 1) := by decide +kernel
theorem dX11_finds_281 : decode cX11_finds 281 = .ok (.getfield 74, 3) := by decide +kernel
theorem dX11_finds_284 : decode cX11_finds 284 = .ok (.iconst 0, 1) := by decide +kernel
theorem dX11_finds_285 : decode cX11_finds 285 = .ok (.iaload, 1) := by decide +kernel
theorem dX11_finds_286 : decode cX11_finds 286 = .ok (.ireturn, 1) := by decide +kernel
theorem dX11_mayLie_0 : decode cX11_mayLie 0 = .ok (.iload_n 3, 1) := by decide +kernel
theorem dX11_mayLie_1 : decode cX11_mayLie 1 = .ok (.iload_n 2, 1) := by decide +kernel
theorem dX11_mayLie_2 : decode cX11_mayLie 2 = .ok (.ishr, 1) := by decide +kernel
theorem dX11_mayLie_3 : decode cX11_mayLie 3 = .ok (.iconst 1, 1) := by decide +kernel
theorem dX11_mayLie_4 : decode cX11_mayLie 4 = .ok (.iand, 1) := by decide +kernel
theorem dX11_mayLie_5 : decode cX11_mayLie 5 = .ok (.ifCond .ne 30, 3) := by decide +kernel
theorem dX11_mayLie_8 : decode cX11_mayLie 8 = .ok (.aload_n 0, 1) := by decide +kernel
theorem dX11_mayLie_9 : decode cX11_mayLie 9 = .ok (.getfield 52, 3) := by decide +kernel
theorem dX11_mayLie_12 : decode cX11_mayLie 12 = .ok (.iload_n 2, 1) := by decide +kernel
theorem dX11_mayLie_13 : decode cX11_mayLie 13 = .ok (.iaload, 1) := by decide +kernel
theorem dX11_mayLie_14 : decode cX11_mayLie 14 = .ok (.ifCond .ge 21, 3) := by decide +kernel
theorem dX11_mayLie_17 : decode cX11_mayLie 17 = .ok (.aload_n 0, 1) := by decide +kernel
theorem dX11_mayLie_18 : decode cX11_mayLie 18 = .ok (.aload_n 0, 1) := by decide +kernel
theorem dX11_mayLie_19 : decode cX11_mayLie 19 = .ok (.getfield 67, 3) := by decide +kernel
theorem dX11_mayLie_22 : decode cX11_mayLie 22 = .ok (.iload_n 1, 1) := by decide +kernel
theorem dX11_mayLie_23 : decode cX11_mayLie 23 = .ok (.iaload, 1) := by decide +kernel
theorem dX11_mayLie_24 : decode cX11_mayLie 24 = .ok (.iload_n 2, 1) := by decide +kernel
theorem dX11_mayLie_25 : decode cX11_mayLie 25 = .ok (.invokevirtual 203, 3) := by decide +kernel
theorem dX11_mayLie_28 : decode cX11_mayLie 28 = .ok (.ifCond .eq 7, 3) := by decide +kernel
theorem dX11_mayLie_31 : decode cX11_mayLie 31 = .ok (.iconst 1, 1) := by decide +kernel
theorem dX11_mayLie_32 : decode cX11_mayLie 32 = .ok (.goto 4, 3) := by decide +kernel
theorem dX11_mayLie_35 : decode cX11_mayLie 35 = .ok (.iconst 0, 1) := by decide +kernel
theorem dX11_mayLie_36 : decode cX11_mayLie 36 = .ok (.ireturn, 1) := by decide +kernel
theorem dX11_best_0 : decode cX11_best 0 = .ok (.aload_n 0, 1) := by decide +kernel
theorem dX11_best_1 : decode cX11_best 1 = .ok (.invokevirtual 219, 3) := by decide +kernel
theorem dX11_best_4 : decode cX11_best 4 = .ok (.ireturn, 1) := by decide +kernel
theorem dX11_bestPlace_0 : decode cX11_bestPlace 0 = .ok (.iload_n 1, 1) := by decide +kernel
theorem dX11_bestPlace_1 : decode cX11_bestPlace 1 = .ok (.aload_n 0, 1) := by decide +kernel
theorem dX11_bestPlace_2 : decode cX11_bestPlace 2 = .ok (.getfield 212, 3) := by decide +kernel
theorem dX11_bestPlace_5 : decode cX11_bestPlace 5 = .ok (.invokestatic 144, 3) := by decide +kernel
theorem dX11_bestPlace_8 : decode cX11_bestPlace 8 = .ok (.ifCond .ne 9, 3) := by decide +kernel
theorem dX11_bestPlace_11 : decode cX11_bestPlace 11 = .ok (.aload_n 0, 1) := by decide +kernel
theorem dX11_bestPlace_12 : decode cX11_bestPlace 12 = .ok (.iconst (-1), 1) := by decide +kernel
theorem dX11_bestPlace_13 : decode cX11_bestPlace 13 = .ok (.invokevirtual 152, 3) := by decide +kernel
theorem dX11_bestPlace_16 : decode cX11_bestPlace 16 = .ok (.ireturn, 1) := by decide +kernel
theorem dX11_bestPlace_17 : decode cX11_bestPlace 17 = .ok (.aload_n 0, 1) := by decide +kernel
theorem dX11_bestPlace_18 : decode cX11_bestPlace 18 = .ok (.invokevirtual 219, 3) := by decide +kernel
theorem dX11_bestPlace_21 : decode cX11_bestPlace 21 = .ok (.istore_n 2, 1) := by decide +kernel
theorem dX11_bestPlace_22 : decode cX11_bestPlace 22 = .ok (.aload_n 0, 1) := by decide +kernel
theorem dX11_bestPlace_23 : decode cX11_bestPlace 23 = .ok (.getfield 77, 3) := by decide +kernel
theorem dX11_bestPlace_26 : decode cX11_bestPlace 26 = .ok (.iload_n 1, 1) := by decide +kernel
theorem dX11_bestPlace_27 : decode cX11_bestPlace 27 = .ok (.iaload, 1) := by decide +kernel
theorem dX11_bestPlace_28 : decode cX11_bestPlace 28 = .ok (.ireturn, 1) := by decide +kernel
theorem dX11_lay_0 : decode cX11_lay 0 = .ok (.aload_n 0, 1) := by decide +kernel
theorem dX11_lay_1 : decode cX11_lay 1 = .ok (.invokevirtual 219, 3) := by decide +kernel
theorem dX11_lay_4 : decode cX11_lay 4 = .ok (.istore_n 1, 1) := by decide +kernel
theorem dX11_lay_5 : decode cX11_lay 5 = .ok (.iconst 0, 1) := by decide +kernel
theorem dX11_lay_6 : decode cX11_lay 6 = .ok (.istore_n 2, 1) := by decide +kernel
theorem dX11_lay_7 : decode cX11_lay 7 = .ok (.iconst 0, 1) := by decide +kernel
theorem dX11_lay_8 : decode cX11_lay 8 = .ok (.istore_n 3, 1) := by decide +kernel
theorem dX11_lay_9 : decode cX11_lay 9 = .ok (.iload_n 3, 1) := by decide +kernel
theorem dX11_lay_10 : decode cX11_lay 10 = .ok (.aload_n 0, 1) := by decide +kernel
theorem dX11_lay_11 : decode cX11_lay 11 = .ok (.getfield 212, 3) := by decide +kernel
theorem dX11_lay_14 : decode cX11_lay 14 = .ok (.if_icmp .ge 58, 3) := by decide +kernel
theorem dX11_lay_17 : decode cX11_lay 17 = .ok (.aload_n 0, 1) := by decide +kernel
theorem dX11_lay_18 : decode cX11_lay 18 = .ok (.getfield 77, 3) := by decide +kernel
theorem dX11_lay_21 : decode cX11_lay 21 = .ok (.iload_n 3, 1) := by decide +kernel
theorem dX11_lay_22 : decode cX11_lay 22 = .ok (.iaload, 1) := by decide +kernel
theorem dX11_lay_23 : decode cX11_lay 23 = .ok (.ifCond .ge 6, 3) := by decide +kernel
theorem dX11_lay_26 : decode cX11_lay 26 = .ok (.goto 40, 3) := by decide +kernel
theorem dX11_lay_29 : decode cX11_lay 29 = .ok (.aload_n 0, 1) := by decide +kernel
theorem dX11_lay_30 : decode cX11_lay 30 = .ok (.getfield 52, 3) := by decide +kernel
theorem dX11_lay_33 : decode cX11_lay 33 = .ok (.aload_n 0, 1) := by decide +kernel
theorem dX11_lay_34 : decode cX11_lay 34 = .ok (.getfield 77, 3) := by decide +kernel
theorem dX11_lay_37 : decode cX11_lay 37 = .ok (.iload_n 3, 1) := by decide +kernel
theorem dX11_lay_38 : decode cX11_lay 38 = .ok (.iaload, 1) := by decide +kernel
theorem dX11_lay_39 : decode cX11_lay 39 = .ok (.aload_n 0, 1) := by decide +kernel
theorem dX11_lay_40 : decode cX11_lay 40 = .ok (.getfield 67, 3) := by decide +kernel
theorem dX11_lay_43 : decode cX11_lay 43 = .ok (.iload_n 3, 1) := by decide +kernel
theorem dX11_lay_44 : decode cX11_lay 44 = .ok (.iaload, 1) := by decide +kernel
theorem dX11_lay_45 : decode cX11_lay 45 = .ok (.iastore, 1) := by decide +kernel
theorem dX11_lay_46 : decode cX11_lay 46 = .ok (.aload_n 0, 1) := by decide +kernel
theorem dX11_lay_47 : decode cX11_lay 47 = .ok (.getfield 37, 3) := by decide +kernel
theorem dX11_lay_50 : decode cX11_lay 50 = .ok (.aload_n 0, 1) := by decide +kernel
theorem dX11_lay_51 : decode cX11_lay 51 = .ok (.getfield 67, 3) := by decide +kernel
theorem dX11_lay_54 : decode cX11_lay 54 = .ok (.iload_n 3, 1) := by decide +kernel
theorem dX11_lay_55 : decode cX11_lay 55 = .ok (.iaload, 1) := by decide +kernel
theorem dX11_lay_56 : decode cX11_lay 56 = .ok (.aload_n 0, 1) := by decide +kernel
theorem dX11_lay_57 : decode cX11_lay 57 = .ok (.getfield 77, 3) := by decide +kernel
theorem dX11_lay_60 : decode cX11_lay 60 = .ok (.iload_n 3, 1) := by decide +kernel
theorem dX11_lay_61 : decode cX11_lay 61 = .ok (.iaload, 1) := by decide +kernel
theorem dX11_lay_62 : decode cX11_lay 62 = .ok (.iastore, 1) := by decide +kernel
theorem dX11_lay_63 : decode cX11_lay 63 = .ok (.iinc 2 1, 3) := by decide +kernel
theorem dX11_lay_66 : decode cX11_lay 66 = .ok (.iinc 3 1, 3) := by decide +kernel
theorem dX11_lay_69 : decode cX11_lay 69 = .ok (.goto (-60), 3) := by decide +kernel
theorem dX11_lay_72 : decode cX11_lay 72 = .ok (.aload_n 0, 1) := by decide +kernel
theorem dX11_lay_73 : decode cX11_lay 73 = .ok (.iconst 0, 1) := by decide +kernel
theorem dX11_lay_74 : decode cX11_lay 74 = .ok (.putfield 212, 3) := by decide +kernel
theorem dX11_lay_77 : decode cX11_lay 77 = .ok (.iload_n 2, 1) := by decide +kernel
theorem dX11_lay_78 : decode cX11_lay 78 = .ok (.ireturn, 1) := by decide +kernel
theorem dX11_colour_0 : decode cX11_colour 0 = .ok (.iload_n 1, 1) := by decide +kernel
theorem dX11_colour_1 : decode cX11_colour 1 = .ok (.bipush 12, 2) := by decide +kernel
theorem dX11_colour_3 : decode cX11_colour 3 = .ok (.invokestatic 144, 3) := by decide +kernel
theorem dX11_colour_6 : decode cX11_colour 6 = .ok (.ifCond .ne 9, 3) := by decide +kernel
theorem dX11_colour_9 : decode cX11_colour 9 = .ok (.aload_n 0, 1) := by decide +kernel
theorem dX11_colour_10 : decode cX11_colour 10 = .ok (.iconst (-1), 1) := by decide +kernel
theorem dX11_colour_11 : decode cX11_colour 11 = .ok (.invokevirtual 152, 3) := by decide +kernel
theorem dX11_colour_14 : decode cX11_colour 14 = .ok (.ireturn, 1) := by decide +kernel
theorem dX11_colour_15 : decode cX11_colour 15 = .ok (.iload_n 2, 1) := by decide +kernel
theorem dX11_colour_16 : decode cX11_colour 16 = .ok (.ifCond .lt 8, 3) := by decide +kernel
theorem dX11_colour_19 : decode cX11_colour 19 = .ok (.iload_n 3, 1) := by decide +kernel
theorem dX11_colour_20 : decode cX11_colour 20 = .ok (.iload_n 2, 1) := by decide +kernel
theorem dX11_colour_21 : decode cX11_colour 21 = .ok (.if_icmp .ge 10, 3) := by decide +kernel
theorem dX11_colour_24 : decode cX11_colour 24 = .ok (.aload_n 0, 1) := by decide +kernel
theorem dX11_colour_25 : decode cX11_colour 25 = .ok (.bipush (-4), 2) := by decide +kernel
theorem dX11_colour_27 : decode cX11_colour 27 = .ok (.invokevirtual 152, 3) := by decide +kernel
theorem dX11_colour_30 : decode cX11_colour 30 = .ok (.ireturn, 1) := by decide +kernel
theorem dX11_colour_31 : decode cX11_colour 31 = .ok (.iload_n 3, 1) := by decide +kernel
theorem dX11_colour_32 : decode cX11_colour 32 = .ok (.sipush 1000, 3) := by decide +kernel
theorem dX11_colour_35 : decode cX11_colour 35 = .ok (.if_icmp .le 10, 3) := by decide +kernel
theorem dX11_colour_38 : decode cX11_colour 38 = .ok (.aload_n 0, 1) := by decide +kernel
theorem dX11_colour_39 : decode cX11_colour 39 = .ok (.bipush (-6), 2) := by decide +kernel
theorem dX11_colour_41 : decode cX11_colour 41 = .ok (.invokevirtual 152, 3) := by decide +kernel
theorem dX11_colour_44 : decode cX11_colour 44 = .ok (.ireturn, 1) := by decide +kernel
theorem dX11_colour_45 : decode cX11_colour 45 = .ok (.aload_n 0, 1) := by decide +kernel
theorem dX11_colour_46 : decode cX11_colour 46 = .ok (.getfield 80, 3) := by decide +kernel
theorem dX11_colour_49 : decode cX11_colour 49 = .ok (.iload_n 1, 1) := by decide +kernel
theorem dX11_colour_50 : decode cX11_colour 50 = .ok (.iload_n 2, 1) := by decide +kernel
theorem dX11_colour_51 : decode cX11_colour 51 = .ok (.iastore, 1) := by decide +kernel
theorem dX11_colour_52 : decode cX11_colour 52 = .ok (.aload_n 0, 1) := by decide +kernel
theorem dX11_colour_53 : decode cX11_colour 53 = .ok (.getfield 83, 3) := by decide +kernel
theorem dX11_colour_56 : decode cX11_colour 56 = .ok (.iload_n 1, 1) := by decide +kernel
theorem dX11_colour_57 : decode cX11_colour 57 = .ok (.iload_n 3, 1) := by decide +kernel
theorem dX11_colour_58 : decode cX11_colour 58 = .ok (.iastore, 1) := by decide +kernel
theorem dX11_colour_59 : decode cX11_colour 59 = .ok (.iconst 1, 1) := by decide +kernel
theorem dX11_colour_60 : decode cX11_colour 60 = .ok (.ireturn, 1) := by decide +kernel
theorem dX11_firesOf_0 : decode cX11_firesOf 0 = .ok (.iload_n 1, 1) := by decide +kernel
theorem dX11_firesOf_1 : decode cX11_firesOf 1 = .ok (.istore_n 2, 1) := by decide +kernel
theorem dX11_firesOf_2 : decode cX11_firesOf 2 = .ok (.iconst 0, 1) := by decide +kernel
theorem dX11_firesOf_3 : decode cX11_firesOf 3 = .ok (.istore_n 3, 1) := by decide +kernel
theorem dX11_firesOf_4 : decode cX11_firesOf 4 = .ok (.iload_n 2, 1) := by decide +kernel
theorem dX11_firesOf_5 : decode cX11_firesOf 5 = .ok (.ifCond .eq 107, 3) := by decide +kernel
theorem dX11_firesOf_8 : decode cX11_firesOf 8 = .ok (.iconst (-1), 1) := by decide +kernel
theorem dX11_firesOf_9 : decode cX11_firesOf 9 = .ok (.istore 4, 2) := by decide +kernel
theorem dX11_firesOf_11 : decode cX11_firesOf 11 = .ok (.iconst 0, 1) := by decide +kernel
theorem dX11_firesOf_12 : decode cX11_firesOf 12 = .ok (.istore 5, 2) := by decide +kernel
theorem dX11_firesOf_14 : decode cX11_firesOf 14 = .ok (.iload 5, 2) := by decide +kernel
theorem dX11_firesOf_16 : decode cX11_firesOf 16 = .ok (.bipush 12, 2) := by decide +kernel
theorem dX11_firesOf_18 : decode cX11_firesOf 18 = .ok (.if_icmp .ge 33, 3) := by decide +kernel
theorem dX11_firesOf_21 : decode cX11_firesOf 21 = .ok (.iload_n 2, 1) := by decide +kernel
theorem dX11_firesOf_22 : decode cX11_firesOf 22 = .ok (.iload 5, 2) := by decide +kernel
theorem dX11_firesOf_24 : decode cX11_firesOf 24 = .ok (.ishr, 1) := by decide +kernel
theorem dX11_firesOf_25 : decode cX11_firesOf 25 = .ok (.iconst 1, 1) := by decide +kernel
theorem dX11_firesOf_26 : decode cX11_firesOf 26 = .ok (.iand, 1) := by decide +kernel
theorem dX11_firesOf_27 : decode cX11_firesOf 27 = .ok (.iconst 1, 1) := by decide +kernel
theorem dX11_firesOf_28 : decode cX11_firesOf 28 = .ok (.if_icmp .ne 17, 3) := by decide +kernel
theorem dX11_firesOf_31 : decode cX11_firesOf 31 = .ok (.iload 4, 2) := by decide +kernel
theorem dX11_firesOf_33 : decode cX11_firesOf 33 = .ok (.aload_n 0, 1) := by decide +kernel
theorem dX11_firesOf_34 : decode cX11_firesOf 34 = .ok (.getfield 80, 3) := by decide +kernel
theorem dX11_firesOf_37 : decode cX11_firesOf 37 = .ok (.iload 5, 2) := by decide +kernel
theorem dX11_firesOf_39 : decode cX11_firesOf 39 = .ok (.iaload, 1) := by decide +kernel
theorem dX11_firesOf_40 : decode cX11_firesOf 40 = .ok (.invokestatic 182, 3) := by decide +kernel
theorem dX11_firesOf_43 : decode cX11_firesOf 43 = .ok (.istore 4, 2) := by decide +kernel
theorem dX11_firesOf_45 : decode cX11_firesOf 45 = .ok (.iinc 5 1, 3) := by decide +kernel
theorem dX11_firesOf_48 : decode cX11_firesOf 48 = .ok (.goto (-34), 3) := by decide +kernel
theorem dX11_firesOf_51 : decode cX11_firesOf 51 = .ok (.iconst 0, 1) := by decide +kernel
theorem dX11_firesOf_52 : decode cX11_firesOf 52 = .ok (.istore 5, 2) := by decide +kernel
theorem dX11_firesOf_54 : decode cX11_firesOf 54 = .ok (.iload 5, 2) := by decide +kernel
theorem dX11_firesOf_56 : decode cX11_firesOf 56 = .ok (.bipush 12, 2) := by decide +kernel
theorem dX11_firesOf_58 : decode cX11_firesOf 58 = .ok (.if_icmp .ge 40, 3) := by decide +kernel
theorem dX11_firesOf_61 : decode cX11_firesOf 61 = .ok (.iload_n 2, 1) := by decide +kernel
theorem dX11_firesOf_62 : decode cX11_firesOf 62 = .ok (.iload 5, 2) := by decide +kernel
theorem dX11_firesOf_64 : decode cX11_firesOf 64 = .ok (.ishr, 1) := by decide +kernel
theorem dX11_firesOf_65 : decode cX11_firesOf 65 = .ok (.iconst 1, 1) := by decide +kernel
theorem dX11_firesOf_66 : decode cX11_firesOf 66 = .ok (.iand, 1) := by decide +kernel
theorem dX11_firesOf_67 : decode cX11_firesOf 67 = .ok (.iconst 1, 1) := by decide +kernel
theorem dX11_firesOf_68 : decode cX11_firesOf 68 = .ok (.if_icmp .ne 24, 3) := by decide +kernel
theorem dX11_firesOf_71 : decode cX11_firesOf 71 = .ok (.aload_n 0, 1) := by decide +kernel
theorem dX11_firesOf_72 : decode cX11_firesOf 72 = .ok (.getfield 83, 3) := by decide +kernel
theorem dX11_firesOf_75 : decode cX11_firesOf 75 = .ok (.iload 5, 2) := by decide +kernel
theorem dX11_firesOf_77 : decode cX11_firesOf 77 = .ok (.iaload, 1) := by decide +kernel
theorem dX11_firesOf_78 : decode cX11_firesOf 78 = .ok (.iload 4, 2) := by decide +kernel
theorem dX11_firesOf_80 : decode cX11_firesOf 80 = .ok (.if_icmp .lt 12, 3) := by decide +kernel
theorem dX11_firesOf_83 : decode cX11_firesOf 83 = .ok (.iload_n 2, 1) := by decide +kernel
theorem dX11_firesOf_84 : decode cX11_firesOf 84 = .ok (.iconst 1, 1) := by decide +kernel
theorem dX11_firesOf_85 : decode cX11_firesOf 85 = .ok (.iload 5, 2) := by decide +kernel
theorem dX11_firesOf_87 : decode cX11_firesOf 87 = .ok (.ishl, 1) := by decide +kernel
theorem dX11_firesOf_88 : decode cX11_firesOf 88 = .ok (.iconst (-1), 1) := by decide +kernel
theorem dX11_firesOf_89 : decode cX11_firesOf 89 = .ok (.ixor, 1) := by decide +kernel
theorem dX11_firesOf_90 : decode cX11_firesOf 90 = .ok (.iand, 1) := by decide +kernel
theorem dX11_firesOf_91 : decode cX11_firesOf 91 = .ok (.istore_n 2, 1) := by decide +kernel
theorem dX11_firesOf_92 : decode cX11_firesOf 92 = .ok (.iinc 5 1, 3) := by decide +kernel
theorem dX11_firesOf_95 : decode cX11_firesOf 95 = .ok (.goto (-41), 3) := by decide +kernel
theorem dX11_firesOf_98 : decode cX11_firesOf 98 = .ok (.aload_n 0, 1) := by decide +kernel
theorem dX11_firesOf_99 : decode cX11_firesOf 99 = .ok (.getfield 86, 3) := by decide +kernel
theorem dX11_firesOf_102 : decode cX11_firesOf 102 = .ok (.iload_n 3, 1) := by decide +kernel
theorem dX11_firesOf_103 : decode cX11_firesOf 103 = .ok (.iload 4, 2) := by decide +kernel
theorem dX11_firesOf_105 : decode cX11_firesOf 105 = .ok (.iastore, 1) := by decide +kernel
theorem dX11_firesOf_106 : decode cX11_firesOf 106 = .ok (.iinc 3 1, 3) := by decide +kernel
theorem dX11_firesOf_109 : decode cX11_firesOf 109 = .ok (.goto (-105), 3) := by decide +kernel
theorem dX11_firesOf_112 : decode cX11_firesOf 112 = .ok (.iload_n 3, 1) := by decide +kernel
theorem dX11_firesOf_113 : decode cX11_firesOf 113 = .ok (.ireturn, 1) := by decide +kernel
theorem dX11_fires_0 : decode cX11_fires 0 = .ok (.iload_n 1, 1) := by decide +kernel
theorem dX11_fires_1 : decode cX11_fires 1 = .ok (.ifCond .lt 10, 3) := by decide +kernel
theorem dX11_fires_4 : decode cX11_fires 4 = .ok (.iload_n 1, 1) := by decide +kernel
theorem dX11_fires_5 : decode cX11_fires 5 = .ok (.sipush 4096, 3) := by decide +kernel
theorem dX11_fires_8 : decode cX11_fires 8 = .ok (.if_icmp .lt 11, 3) := by decide +kernel
theorem dX11_fires_11 : decode cX11_fires 11 = .ok (.aload_n 0, 1) := by decide +kernel
theorem dX11_fires_12 : decode cX11_fires 12 = .ok (.iconst (-1), 1) := by decide +kernel
theorem dX11_fires_13 : decode cX11_fires 13 = .ok (.invokevirtual 152, 3) := by decide +kernel
theorem dX11_fires_16 : decode cX11_fires 16 = .ok (.goto 8, 3) := by decide +kernel
theorem dX11_fires_19 : decode cX11_fires 19 = .ok (.aload_n 0, 1) := by decide +kernel
theorem dX11_fires_20 : decode cX11_fires 20 = .ok (.iload_n 1, 1) := by decide +kernel
theorem dX11_fires_21 : decode cX11_fires 21 = .ok (.invokevirtual 223, 3) := by decide +kernel
theorem dX11_fires_24 : decode cX11_fires 24 = .ok (.ireturn, 1) := by decide +kernel
theorem dX11_fireHeat_0 : decode cX11_fireHeat 0 = .ok (.iload_n 1, 1) := by decide +kernel
theorem dX11_fireHeat_1 : decode cX11_fireHeat 1 = .ok (.ifCond .lt 22, 3) := by decide +kernel
theorem dX11_fireHeat_4 : decode cX11_fireHeat 4 = .ok (.iload_n 1, 1) := by decide +kernel
theorem dX11_fireHeat_5 : decode cX11_fireHeat 5 = .ok (.sipush 4096, 3) := by decide +kernel
theorem dX11_fireHeat_8 : decode cX11_fireHeat 8 = .ok (.if_icmp .ge 15, 3) := by decide +kernel
theorem dX11_fireHeat_11 : decode cX11_fireHeat 11 = .ok (.iload_n 2, 1) := by decide +kernel
theorem dX11_fireHeat_12 : decode cX11_fireHeat 12 = .ok (.aload_n 0, 1) := by decide +kernel
theorem dX11_fireHeat_13 : decode cX11_fireHeat 13 = .ok (.iload_n 1, 1) := by decide +kernel
theorem dX11_fireHeat_14 : decode cX11_fireHeat 14 = .ok (.invokevirtual 223, 3) := by decide +kernel
theorem dX11_fireHeat_17 : decode cX11_fireHeat 17 = .ok (.invokestatic 144, 3) := by decide +kernel
theorem dX11_fireHeat_20 : decode cX11_fireHeat 20 = .ok (.ifCond .ne 9, 3) := by decide +kernel
theorem dX11_fireHeat_23 : decode cX11_fireHeat 23 = .ok (.aload_n 0, 1) := by decide +kernel
theorem dX11_fireHeat_24 : decode cX11_fireHeat 24 = .ok (.iconst (-1), 1) := by decide +kernel
theorem dX11_fireHeat_25 : decode cX11_fireHeat 25 = .ok (.invokevirtual 152, 3) := by decide +kernel
theorem dX11_fireHeat_28 : decode cX11_fireHeat 28 = .ok (.ireturn, 1) := by decide +kernel
theorem dX11_fireHeat_29 : decode cX11_fireHeat 29 = .ok (.aload_n 0, 1) := by decide +kernel
theorem dX11_fireHeat_30 : decode cX11_fireHeat 30 = .ok (.getfield 86, 3) := by decide +kernel
theorem dX11_fireHeat_33 : decode cX11_fireHeat 33 = .ok (.iload_n 2, 1) := by decide +kernel
theorem dX11_fireHeat_34 : decode cX11_fireHeat 34 = .ok (.iaload, 1) := by decide +kernel
theorem dX11_fireHeat_35 : decode cX11_fireHeat 35 = .ok (.ireturn, 1) := by decide +kernel
theorem dX11_skill_0 : decode cX11_skill 0 = .ok (.iload_n 1, 1) := by decide +kernel
theorem dX11_skill_1 : decode cX11_skill 1 = .ok (.iconst 3, 1) := by decide +kernel
theorem dX11_skill_2 : decode cX11_skill 2 = .ok (.invokestatic 144, 3) := by decide +kernel
theorem dX11_skill_5 : decode cX11_skill 5 = .ok (.ifCond .eq 13, 3) := by decide +kernel
theorem dX11_skill_8 : decode cX11_skill 8 = .ok (.iload_n 2, 1) := by decide +kernel
theorem dX11_skill_9 : decode cX11_skill 9 = .ok (.iconst 1, 1) := by decide +kernel
theorem dX11_skill_10 : decode cX11_skill 10 = .ok (.bipush 20, 2) := by decide +kernel
theorem dX11_skill_12 : decode cX11_skill 12 = .ok (.invokestatic 148, 3) := by decide +kernel
theorem dX11_skill_15 : decode cX11_skill 15 = .ok (.goto 4, 3) := by decide +kernel
theorem dX11_skill_18 : decode cX11_skill 18 = .ok (.iconst (-1), 1) := by decide +kernel
theorem dX11_skill_19 : decode cX11_skill 19 = .ok (.istore_n 3, 1) := by decide +kernel
theorem dX11_skill_20 : decode cX11_skill 20 = .ok (.iload_n 3, 1) := by decide +kernel
theorem dX11_skill_21 : decode cX11_skill 21 = .ok (.ifCond .eq 9, 3) := by decide +kernel
theorem dX11_skill_24 : decode cX11_skill 24 = .ok (.aload_n 0, 1) := by decide +kernel
theorem dX11_skill_25 : decode cX11_skill 25 = .ok (.iload_n 3, 1) := by decide +kernel
theorem dX11_skill_26 : decode cX11_skill 26 = .ok (.invokevirtual 152, 3) := by decide +kernel
theorem dX11_skill_29 : decode cX11_skill 29 = .ok (.ireturn, 1) := by decide +kernel
theorem dX11_skill_30 : decode cX11_skill 30 = .ok (.aload_n 0, 1) := by decide +kernel
theorem dX11_skill_31 : decode cX11_skill 31 = .ok (.getfield 89, 3) := by decide +kernel
theorem dX11_skill_34 : decode cX11_skill 34 = .ok (.iload_n 1, 1) := by decide +kernel
theorem dX11_skill_35 : decode cX11_skill 35 = .ok (.iaload, 1) := by decide +kernel
theorem dX11_skill_36 : decode cX11_skill 36 = .ok (.istore 4, 2) := by decide +kernel
theorem dX11_skill_38 : decode cX11_skill 38 = .ok (.aload_n 0, 1) := by decide +kernel
theorem dX11_skill_39 : decode cX11_skill 39 = .ok (.getfield 89, 3) := by decide +kernel
theorem dX11_skill_42 : decode cX11_skill 42 = .ok (.iload_n 1, 1) := by decide +kernel
theorem dX11_skill_43 : decode cX11_skill 43 = .ok (.iload_n 2, 1) := by decide +kernel
theorem dX11_skill_44 : decode cX11_skill 44 = .ok (.iastore, 1) := by decide +kernel
theorem dX11_skill_45 : decode cX11_skill 45 = .ok (.iload 4, 2) := by decide +kernel
theorem dX11_skill_47 : decode cX11_skill 47 = .ok (.ireturn, 1) := by decide +kernel
theorem dX11_job_0 : decode cX11_job 0 = .ok (.iload_n 1, 1) := by decide +kernel
theorem dX11_job_1 : decode cX11_job 1 = .ok (.iconst 1, 1) := by decide +kernel
theorem dX11_job_2 : decode cX11_job 2 = .ok (.sipush 500, 3) := by decide +kernel
theorem dX11_job_5 : decode cX11_job 5 = .ok (.invokestatic 148, 3) := by decide +kernel
theorem dX11_job_8 : decode cX11_job 8 = .ok (.istore_n 2, 1) := by decide +kernel
theorem dX11_job_9 : decode cX11_job 9 = .ok (.iload_n 2, 1) := by decide +kernel
theorem dX11_job_10 : decode cX11_job 10 = .ok (.ifCond .ne 15, 3) := by decide +kernel
theorem dX11_job_13 : decode cX11_job 13 = .ok (.aload_n 0, 1) := by decide +kernel
theorem dX11_job_14 : decode cX11_job 14 = .ok (.getfield 226, 3) := by decide +kernel
theorem dX11_job_17 : decode cX11_job 17 = .ok (.bipush 8, 2) := by decide +kernel
theorem dX11_job_19 : decode cX11_job 19 = .ok (.if_icmp .ne 6, 3) := by decide +kernel
theorem dX11_job_22 : decode cX11_job 22 = .ok (.bipush (-6), 2) := by decide +kernel
theorem dX11_job_24 : decode cX11_job 24 = .ok (.istore_n 2, 1) := by decide +kernel
theorem dX11_job_25 : decode cX11_job 25 = .ok (.iload_n 2, 1) := by decide +kernel
theorem dX11_job_26 : decode cX11_job 26 = .ok (.ifCond .eq 9, 3) := by decide +kernel
theorem dX11_job_29 : decode cX11_job 29 = .ok (.aload_n 0, 1) := by decide +kernel
theorem dX11_job_30 : decode cX11_job 30 = .ok (.iload_n 2, 1) := by decide +kernel
theorem dX11_job_31 : decode cX11_job 31 = .ok (.invokevirtual 152, 3) := by decide +kernel
theorem dX11_job_34 : decode cX11_job 34 = .ok (.ireturn, 1) := by decide +kernel
theorem dX11_job_35 : decode cX11_job 35 = .ok (.aload_n 0, 1) := by decide +kernel
theorem dX11_job_36 : decode cX11_job 36 = .ok (.getfield 92, 3) := by decide +kernel
theorem dX11_job_39 : decode cX11_job 39 = .ok (.aload_n 0, 1) := by decide +kernel
theorem dX11_job_40 : decode cX11_job 40 = .ok (.getfield 226, 3) := by decide +kernel
theorem dX11_job_43 : decode cX11_job 43 = .ok (.iload_n 1, 1) := by decide +kernel
theorem dX11_job_44 : decode cX11_job 44 = .ok (.iastore, 1) := by decide +kernel
theorem dX11_job_45 : decode cX11_job 45 = .ok (.aload_n 0, 1) := by decide +kernel
theorem dX11_job_46 : decode cX11_job 46 = .ok (.dup, 1) := by decide +kernel
theorem dX11_job_47 : decode cX11_job 47 = .ok (.getfield 226, 3) := by decide +kernel
theorem dX11_job_50 : decode cX11_job 50 = .ok (.iconst 1, 1) := by decide +kernel
theorem dX11_job_51 : decode cX11_job 51 = .ok (.iadd, 1) := by decide +kernel
theorem dX11_job_52 : decode cX11_job 52 = .ok (.putfield 226, 3) := by decide +kernel
theorem dX11_job_55 : decode cX11_job 55 = .ok (.aload_n 0, 1) := by decide +kernel
theorem dX11_job_56 : decode cX11_job 56 = .ok (.getfield 226, 3) := by decide +kernel
theorem dX11_job_59 : decode cX11_job 59 = .ok (.iconst 1, 1) := by decide +kernel
theorem dX11_job_60 : decode cX11_job 60 = .ok (.isub, 1) := by decide +kernel
theorem dX11_job_61 : decode cX11_job 61 = .ok (.ireturn, 1) := by decide +kernel
theorem dX11_leastOf_0 : decode cX11_leastOf 0 = .ok (.iconst 1, 1) := by decide +kernel
theorem dX11_leastOf_1 : decode cX11_leastOf 1 = .ok (.istore_n 1, 1) := by decide +kernel
theorem dX11_leastOf_2 : decode cX11_leastOf 2 = .ok (.iconst 0, 1) := by decide +kernel
theorem dX11_leastOf_3 : decode cX11_leastOf 3 = .ok (.istore_n 2, 1) := by decide +kernel
theorem dX11_leastOf_4 : decode cX11_leastOf 4 = .ok (.iload_n 2, 1) := by decide +kernel
theorem dX11_leastOf_5 : decode cX11_leastOf 5 = .ok (.aload_n 0, 1) := by decide +kernel
theorem dX11_leastOf_6 : decode cX11_leastOf 6 = .ok (.getfield 226, 3) := by decide +kernel
theorem dX11_leastOf_9 : decode cX11_leastOf 9 = .ok (.if_icmp .ge 13, 3) := by decide +kernel
theorem dX11_leastOf_12 : decode cX11_leastOf 12 = .ok (.iload_n 1, 1) := by decide +kernel
theorem dX11_leastOf_13 : decode cX11_leastOf 13 = .ok (.iconst 3, 1) := by decide +kernel
theorem dX11_leastOf_14 : decode cX11_leastOf 14 = .ok (.imul, 1) := by decide +kernel
theorem dX11_leastOf_15 : decode cX11_leastOf 15 = .ok (.istore_n 1, 1) := by decide +kernel
theorem dX11_leastOf_16 : decode cX11_leastOf 16 = .ok (.iinc 2 1, 3) := by decide +kernel
theorem dX11_leastOf_19 : decode cX11_leastOf 19 = .ok (.goto (-15), 3) := by decide +kernel
theorem dX11_leastOf_22 : decode cX11_leastOf 22 = .ok (.iconst (-1), 1) := by decide +kernel
theorem dX11_leastOf_23 : decode cX11_leastOf 23 = .ok (.istore_n 2, 1) := by decide +kernel
theorem dX11_leastOf_24 : decode cX11_leastOf 24 = .ok (.iconst 0, 1) := by decide +kernel
theorem dX11_leastOf_25 : decode cX11_leastOf 25 = .ok (.istore_n 3, 1) := by decide +kernel
theorem dX11_leastOf_26 : decode cX11_leastOf 26 = .ok (.iload_n 3, 1) := by decide +kernel
theorem dX11_leastOf_27 : decode cX11_leastOf 27 = .ok (.iload_n 1, 1) := by decide +kernel
theorem dX11_leastOf_28 : decode cX11_leastOf 28 = .ok (.if_icmp .ge 184, 3) := by decide +kernel
theorem dX11_leastOf_31 : decode cX11_leastOf 31 = .ok (.iconst 0, 1) := by decide +kernel
theorem dX11_leastOf_32 : decode cX11_leastOf 32 = .ok (.istore 4, 2) := by decide +kernel
theorem dX11_leastOf_34 : decode cX11_leastOf 34 = .ok (.iload 4, 2) := by decide +kernel
theorem dX11_leastOf_36 : decode cX11_leastOf 36 = .ok (.iconst 3, 1) := by decide +kernel
theorem dX11_leastOf_37 : decode cX11_leastOf 37 = .ok (.if_icmp .ge 17, 3) := by decide +kernel
theorem dX11_leastOf_40 : decode cX11_leastOf 40 = .ok (.aload_n 0, 1) := by decide +kernel
theorem dX11_leastOf_41 : decode cX11_leastOf 41 = .ok (.getfield 98, 3) := by decide +kernel
theorem dX11_leastOf_44 : decode cX11_leastOf 44 = .ok (.iload 4, 2) := by decide +kernel
theorem dX11_leastOf_46 : decode cX11_leastOf 46 = .ok (.iconst 0, 1) := by decide +kernel
theorem dX11_leastOf_47 : decode cX11_leastOf 47 = .ok (.iastore, 1) := by decide +kernel
theorem dX11_leastOf_48 : decode cX11_leastOf 48 = .ok (.iinc 4 1, 3) := by decide +kernel
theorem dX11_leastOf_51 : decode cX11_leastOf 51 = .ok (.goto (-17), 3) := by decide +kernel
theorem dX11_leastOf_54 : decode cX11_leastOf 54 = .ok (.iload_n 1, 1) := by decide +kernel
theorem dX11_leastOf_55 : decode cX11_leastOf 55 = .ok (.istore 4, 2) := by decide +kernel
theorem dX11_leastOf_57 : decode cX11_leastOf 57 = .ok (.iconst 0, 1) := by decide +kernel
theorem dX11_leastOf_58 : decode cX11_leastOf 58 = .ok (.istore 5, 2) := by decide +kernel
theorem dX11_leastOf_60 : decode cX11_leastOf 60 = .ok (.iload 5, 2) := by decide +kernel
theorem dX11_leastOf_62 : decode cX11_leastOf 62 = .ok (.aload_n 0, 1) := by decide +kernel
theorem dX11_leastOf_63 : decode cX11_leastOf 63 = .ok (.getfield 226, 3) := by decide +kernel
theorem dX11_leastOf_66 : decode cX11_leastOf 66 = .ok (.if_icmp .ge 58, 3) := by decide +kernel
theorem dX11_leastOf_69 : decode cX11_leastOf 69 = .ok (.iload 4, 2) := by decide +kernel
theorem dX11_leastOf_71 : decode cX11_leastOf 71 = .ok (.iconst 3, 1) := by decide +kernel
theorem dX11_leastOf_72 : decode cX11_leastOf 72 = .ok (.idiv, 1) := by decide +kernel
theorem dX11_leastOf_73 : decode cX11_leastOf 73 = .ok (.istore 4, 2) := by decide +kernel
theorem dX11_leastOf_75 : decode cX11_leastOf 75 = .ok (.iload_n 3, 1) := by decide +kernel
theorem dX11_leastOf_76 : decode cX11_leastOf 76 = .ok (.iload 4, 2) := by decide +kernel
theorem dX11_leastOf_78 : decode cX11_leastOf 78 = .ok (.idiv, 1) := by decide +kernel
theorem dX11_leastOf_79 : decode cX11_leastOf 79 = .ok (.iconst 3, 1) := by decide +kernel
theorem dX11_leastOf_80 : decode cX11_leastOf 80 = .ok (.irem, 1) := by decide +kernel
theorem dX11_leastOf_81 : decode cX11_leastOf 81 = .ok (.istore 6, 2) := by decide +kernel
theorem dX11_leastOf_83 : decode cX11_leastOf 83 = .ok (.aload_n 0, 1) := by decide +kernel
theorem dX11_leastOf_84 : decode cX11_leastOf 84 = .ok (.getfield 98, 3) := by decide +kernel
theorem dX11_leastOf_87 : decode cX11_leastOf 87 = .ok (.iload 6, 2) := by decide +kernel
theorem dX11_leastOf_89 : decode cX11_leastOf 89 = .ok (.dup2, 1) := by decide +kernel
theorem dX11_leastOf_90 : decode cX11_leastOf 90 = .ok (.iaload, 1) := by decide +kernel
theorem dX11_leastOf_91 : decode cX11_leastOf 91 = .ok (.aload_n 0, 1) := by decide +kernel
theorem dX11_leastOf_92 : decode cX11_leastOf 92 = .ok (.getfield 92, 3) := by decide +kernel
theorem dX11_leastOf_95 : decode cX11_leastOf 95 = .ok (.iload 5, 2) := by decide +kernel
theorem dX11_leastOf_97 : decode cX11_leastOf 97 = .ok (.iaload, 1) := by decide +kernel
theorem dX11_leastOf_98 : decode cX11_leastOf 98 = .ok (.aload_n 0, 1) := by decide +kernel
theorem dX11_leastOf_99 : decode cX11_leastOf 99 = .ok (.getfield 89, 3) := by decide +kernel
theorem dX11_leastOf_102 : decode cX11_leastOf 102 = .ok (.iload 6, 2) := by decide +kernel
theorem dX11_leastOf_104 : decode cX11_leastOf 104 = .ok (.iaload, 1) := by decide +kernel
theorem dX11_leastOf_105 : decode cX11_leastOf 105 = .ok (.iadd, 1) := by decide +kernel
theorem dX11_leastOf_106 : decode cX11_leastOf 106 = .ok (.iconst 1, 1) := by decide +kernel
theorem dX11_leastOf_107 : decode cX11_leastOf 107 = .ok (.isub, 1) := by decide +kernel
theorem dX11_leastOf_108 : decode cX11_leastOf 108 = .ok (.aload_n 0, 1) := by decide +kernel
theorem dX11_leastOf_109 : decode cX11_leastOf 109 = .ok (.getfield 89, 3) := by decide +kernel
theorem dX11_leastOf_112 : decode cX11_leastOf 112 = .ok (.iload 6, 2) := by decide +kernel
theorem dX11_leastOf_114 : decode cX11_leastOf 114 = .ok (.iaload, 1) := by decide +kernel
theorem dX11_leastOf_115 : decode cX11_leastOf 115 = .ok (.idiv, 1) := by decide +kernel
theorem dX11_leastOf_116 : decode cX11_leastOf 116 = .ok (.iadd, 1) := by decide +kernel
theorem dX11_leastOf_117 : decode cX11_leastOf 117 = .ok (.iastore, 1) := by decide +kernel
theorem dX11_leastOf_118 : decode cX11_leastOf 118 = .ok (.iinc 5 1, 3) := by decide +kernel
theorem dX11_leastOf_121 : decode cX11_leastOf 121 = .ok (.goto (-61), 3) := by decide +kernel
theorem dX11_leastOf_124 : decode cX11_leastOf 124 = .ok (.aload_n 0, 1) := by decide +kernel
theorem dX11_leastOf_125 : decode cX11_leastOf 125 = .ok (.getfield 98, 3) := by decide +kernel
theorem dX11_leastOf_128 : decode cX11_leastOf 128 = .ok (.iconst 0, 1) := by decide +kernel
theorem dX11_leastOf_129 : decode cX11_leastOf 129 = .ok (.iaload, 1) := by decide +kernel
theorem dX11_leastOf_130 : decode cX11_leastOf 130 = .ok (.aload_n 0, 1) := by decide +kernel
theorem dX11_leastOf_131 : decode cX11_leastOf 131 = .ok (.getfield 98, 3) := by decide +kernel
theorem dX11_leastOf_134 : decode cX11_leastOf 134 = .ok (.iconst 1, 1) := by decide +kernel
theorem dX11_leastOf_135 : decode cX11_leastOf 135 = .ok (.iaload, 1) := by decide +kernel
theorem dX11_leastOf_136 : decode cX11_leastOf 136 = .ok (.aload_n 0, 1) := by decide +kernel
theorem dX11_leastOf_137 : decode cX11_leastOf 137 = .ok (.getfield 98, 3) := by decide +kernel
theorem dX11_leastOf_140 : decode cX11_leastOf 140 = .ok (.iconst 2, 1) := by decide +kernel
theorem dX11_leastOf_141 : decode cX11_leastOf 141 = .ok (.iaload, 1) := by decide +kernel
theorem dX11_leastOf_142 : decode cX11_leastOf 142 = .ok (.invokestatic 182, 3) := by decide +kernel
theorem dX11_leastOf_145 : decode cX11_leastOf 145 = .ok (.invokestatic 182, 3) := by decide +kernel
theorem dX11_leastOf_148 : decode cX11_leastOf 148 = .ok (.istore 5, 2) := by decide +kernel
theorem dX11_leastOf_150 : decode cX11_leastOf 150 = .ok (.iload_n 2, 1) := by decide +kernel
theorem dX11_leastOf_151 : decode cX11_leastOf 151 = .ok (.ifCond .lt 12, 3) := by decide +kernel
theorem dX11_leastOf_154 : decode cX11_leastOf 154 = .ok (.iload 5, 2) := by decide +kernel
theorem dX11_leastOf_156 : decode cX11_leastOf 156 = .ok (.iload_n 2, 1) := by decide +kernel
theorem dX11_leastOf_157 : decode cX11_leastOf 157 = .ok (.if_icmp .lt 6, 3) := by decide +kernel
theorem dX11_leastOf_160 : decode cX11_leastOf 160 = .ok (.goto 46, 3) := by decide +kernel
theorem dX11_leastOf_163 : decode cX11_leastOf 163 = .ok (.iload 5, 2) := by decide +kernel
theorem dX11_leastOf_165 : decode cX11_leastOf 165 = .ok (.istore_n 2, 1) := by decide +kernel
theorem dX11_leastOf_166 : decode cX11_leastOf 166 = .ok (.iload_n 1, 1) := by decide +kernel
theorem dX11_leastOf_167 : decode cX11_leastOf 167 = .ok (.istore 4, 2) := by decide +kernel
theorem dX11_leastOf_169 : decode cX11_leastOf 169 = .ok (.iconst 0, 1) := by decide +kernel
theorem dX11_leastOf_170 : decode cX11_leastOf 170 = .ok (.istore 6, 2) := by decide +kernel
theorem dX11_leastOf_172 : decode cX11_leastOf 172 = .ok (.iload 6, 2) := by decide +kernel
theorem dX11_leastOf_174 : decode cX11_leastOf 174 = .ok (.aload_n 0, 1) := by decide +kernel
theorem dX11_leastOf_175 : decode cX11_leastOf 175 = .ok (.getfield 226, 3) := by decide +kernel
theorem dX11_leastOf_178 : decode cX11_leastOf 178 = .ok (.if_icmp .ge 28, 3) := by decide +kernel
theorem dX11_leastOf_181 : decode cX11_leastOf 181 = .ok (.iload 4, 2) := by decide +kernel
theorem dX11_leastOf_183 : decode cX11_leastOf 183 = .ok (.iconst 3, 1) := by decide +kernel
theorem dX11_leastOf_184 : decode cX11_leastOf 184 = .ok (.idiv, 1) := by decide +kernel
theorem dX11_leastOf_185 : decode cX11_leastOf 185 = .ok (.istore 4, 2) := by decide +kernel
theorem dX11_leastOf_187 : decode cX11_leastOf 187 = .ok (.aload_n 0, 1) := by decide +kernel
theorem dX11_leastOf_188 : decode cX11_leastOf 188 = .ok (.getfield 95, 3) := by decide +kernel
theorem dX11_leastOf_191 : decode cX11_leastOf 191 = .ok (.iload 6, 2) := by decide +kernel
theorem dX11_leastOf_193 : decode cX11_leastOf 193 = .ok (.iload_n 3, 1) := by decide +kernel
theorem dX11_leastOf_194 : decode cX11_leastOf 194 = .ok (.iload 4, 2) := by decide +kernel
theorem dX11_leastOf_196 : decode cX11_leastOf 196 = .ok (.idiv, 1) := by decide +kernel
theorem dX11_leastOf_197 : decode cX11_leastOf 197 = .ok (.iconst 3, 1) := by decide +kernel
theorem dX11_leastOf_198 : decode cX11_leastOf 198 = .ok (.irem, 1) := by decide +kernel
theorem dX11_leastOf_199 : decode cX11_leastOf 199 = .ok (.iastore, 1) := by decide +kernel
theorem dX11_leastOf_200 : decode cX11_leastOf 200 = .ok (.iinc 6 1, 3) := by decide +kernel
theorem dX11_leastOf_203 : decode cX11_leastOf 203 = .ok (.goto (-31), 3) := by decide +kernel
theorem dX11_leastOf_206 : decode cX11_leastOf 206 = .ok (.iinc 3 1, 3) := by decide +kernel
theorem dX11_leastOf_209 : decode cX11_leastOf 209 = .ok (.goto (-183), 3) := by decide +kernel
theorem dX11_leastOf_212 : decode cX11_leastOf 212 = .ok (.iload_n 2, 1) := by decide +kernel
theorem dX11_leastOf_213 : decode cX11_leastOf 213 = .ok (.ireturn, 1) := by decide +kernel
theorem dX11_least_0 : decode cX11_least 0 = .ok (.aload_n 0, 1) := by decide +kernel
theorem dX11_least_1 : decode cX11_least 1 = .ok (.invokevirtual 229, 3) := by decide +kernel
theorem dX11_least_4 : decode cX11_least 4 = .ok (.ireturn, 1) := by decide +kernel
theorem dX11_painter_0 : decode cX11_painter 0 = .ok (.iload_n 1, 1) := by decide +kernel
theorem dX11_painter_1 : decode cX11_painter 1 = .ok (.aload_n 0, 1) := by decide +kernel
theorem dX11_painter_2 : decode cX11_painter 2 = .ok (.getfield 226, 3) := by decide +kernel
theorem dX11_painter_5 : decode cX11_painter 5 = .ok (.invokestatic 144, 3) := by decide +kernel
theorem dX11_painter_8 : decode cX11_painter 8 = .ok (.ifCond .ne 6, 3) := by decide +kernel
theorem dX11_painter_11 : decode cX11_painter 11 = .ok (.bipush (-9), 2) := by decide +kernel
theorem dX11_painter_13 : decode cX11_painter 13 = .ok (.ireturn, 1) := by decide +kernel
theorem dX11_painter_14 : decode cX11_painter 14 = .ok (.aload_n 0, 1) := by decide +kernel
theorem dX11_painter_15 : decode cX11_painter 15 = .ok (.invokevirtual 229, 3) := by decide +kernel
theorem dX11_painter_18 : decode cX11_painter 18 = .ok (.istore_n 2, 1) := by decide +kernel
theorem dX11_painter_19 : decode cX11_painter 19 = .ok (.aload_n 0, 1) := by decide +kernel
theorem dX11_painter_20 : decode cX11_painter 20 = .ok (.getfield 95, 3) := by decide +kernel
theorem dX11_painter_23 : decode cX11_painter 23 = .ok (.iload_n 1, 1) := by decide +kernel
theorem dX11_painter_24 : decode cX11_painter 24 = .ok (.iaload, 1) := by decide +kernel
theorem dX11_painter_25 : decode cX11_painter 25 = .ok (.ireturn, 1) := by decide +kernel
theorem dX11_paint_0 : decode cX11_paint 0 = .ok (.aload_n 0, 1) := by decide +kernel
theorem dX11_paint_1 : decode cX11_paint 1 = .ok (.iload_n 1, 1) := by decide +kernel
theorem dX11_paint_2 : decode cX11_paint 2 = .ok (.invokevirtual 190, 3) := by decide +kernel
theorem dX11_paint_5 : decode cX11_paint 5 = .ok (.ifCond .ne 9, 3) := by decide +kernel
theorem dX11_paint_8 : decode cX11_paint 8 = .ok (.aload_n 0, 1) := by decide +kernel
theorem dX11_paint_9 : decode cX11_paint 9 = .ok (.iconst (-1), 1) := by decide +kernel
theorem dX11_paint_10 : decode cX11_paint 10 = .ok (.invokevirtual 152, 3) := by decide +kernel
theorem dX11_paint_13 : decode cX11_paint 13 = .ok (.ireturn, 1) := by decide +kernel
theorem dX11_paint_14 : decode cX11_paint 14 = .ok (.aload_n 0, 1) := by decide +kernel
theorem dX11_paint_15 : decode cX11_paint 15 = .ok (.getfield 34, 3) := by decide +kernel
theorem dX11_paint_18 : decode cX11_paint 18 = .ok (.iload_n 1, 1) := by decide +kernel
theorem dX11_paint_19 : decode cX11_paint 19 = .ok (.iaload, 1) := by decide +kernel
theorem dX11_paint_20 : decode cX11_paint 20 = .ok (.iconst 1, 1) := by decide +kernel
theorem dX11_paint_21 : decode cX11_paint 21 = .ok (.if_icmp .eq 10, 3) := by decide +kernel
theorem dX11_paint_24 : decode cX11_paint 24 = .ok (.aload_n 0, 1) := by decide +kernel
theorem dX11_paint_25 : decode cX11_paint 25 = .ok (.bipush (-3), 2) := by decide +kernel
theorem dX11_paint_27 : decode cX11_paint 27 = .ok (.invokevirtual 152, 3) := by decide +kernel
theorem dX11_paint_30 : decode cX11_paint 30 = .ok (.ireturn, 1) := by decide +kernel
theorem dX11_paint_31 : decode cX11_paint 31 = .ok (.aload_n 0, 1) := by decide +kernel
theorem dX11_paint_32 : decode cX11_paint 32 = .ok (.getfield 34, 3) := by decide +kernel
theorem dX11_paint_35 : decode cX11_paint 35 = .ok (.iload_n 1, 1) := by decide +kernel
theorem dX11_paint_36 : decode cX11_paint 36 = .ok (.iconst 2, 1) := by decide +kernel
theorem dX11_paint_37 : decode cX11_paint 37 = .ok (.iastore, 1) := by decide +kernel
theorem dX11_paint_38 : decode cX11_paint 38 = .ok (.iconst 1, 1) := by decide +kernel
theorem dX11_paint_39 : decode cX11_paint 39 = .ok (.ireturn, 1) := by decide +kernel
theorem dX11_wrongService_0 : decode cX11_wrongService 0 = .ok (.iload_n 1, 1) := by decide +kernel
theorem dX11_wrongService_1 : decode cX11_wrongService 1 = .ok (.bipush 10, 2) := by decide +kernel
theorem dX11_wrongService_3 : decode cX11_wrongService 3 = .ok (.invokestatic 144, 3) := by decide +kernel
theorem dX11_wrongService_6 : decode cX11_wrongService 6 = .ok (.ifCond .ne 5, 3) := by decide +kernel
theorem dX11_wrongService_9 : decode cX11_wrongService 9 = .ok (.iconst (-1), 1) := by decide +kernel
theorem dX11_wrongService_10 : decode cX11_wrongService 10 = .ok (.ireturn, 1) := by decide +kernel
theorem dX11_wrongService_11 : decode cX11_wrongService 11 = .ok (.iload_n 2, 1) := by decide +kernel
theorem dX11_wrongService_12 : decode cX11_wrongService 12 = .ok (.iconst 1, 1) := by decide +kernel
theorem dX11_wrongService_13 : decode cX11_wrongService 13 = .ok (.if_icmp .lt 7, 3) := by decide +kernel
theorem dX11_wrongService_16 : decode cX11_wrongService 16 = .ok (.iload_n 3, 1) := by decide +kernel
theorem dX11_wrongService_17 : decode cX11_wrongService 17 = .ok (.ifCond .ge 6, 3) := by decide +kernel
theorem dX11_wrongService_20 : decode cX11_wrongService 20 = .ok (.bipush (-4), 2) := by decide +kernel
theorem dX11_wrongService_22 : decode cX11_wrongService 22 = .ok (.ireturn, 1) := by decide +kernel
theorem dX11_wrongService_23 : decode cX11_wrongService 23 = .ok (.iload_n 2, 1) := by decide +kernel
theorem dX11_wrongService_24 : decode cX11_wrongService 24 = .ok (.bipush 12, 2) := by decide +kernel
theorem dX11_wrongService_26 : decode cX11_wrongService 26 = .ok (.if_icmp .gt 9, 3) := by decide +kernel
theorem dX11_wrongService_29 : decode cX11_wrongService 29 = .ok (.iload_n 3, 1) := by decide +kernel
theorem dX11_wrongService_30 : decode cX11_wrongService 30 = .ok (.bipush 100, 2) := by decide +kernel
theorem dX11_wrongService_32 : decode cX11_wrongService 32 = .ok (.if_icmp .le 8, 3) := by decide +kernel
theorem dX11_wrongService_35 : decode cX11_wrongService 35 = .ok (.bipush (-6), 2) := by decide +kernel
theorem dX11_wrongService_37 : decode cX11_wrongService 37 = .ok (.goto 4, 3) := by decide +kernel
theorem dX11_wrongService_40 : decode cX11_wrongService 40 = .ok (.iconst 0, 1) := by decide +kernel
theorem dX11_wrongService_41 : decode cX11_wrongService 41 = .ok (.ireturn, 1) := by decide +kernel
theorem dX11_isWhole_0 : decode cX11_isWhole 0 = .ok (.aload_n 0, 1) := by decide +kernel
theorem dX11_isWhole_1 : decode cX11_isWhole 1 = .ok (.getfield 28, 3) := by decide +kernel
theorem dX11_isWhole_4 : decode cX11_isWhole 4 = .ok (.iload_n 1, 1) := by decide +kernel
theorem dX11_isWhole_5 : decode cX11_isWhole 5 = .ok (.iaload, 1) := by decide +kernel
theorem dX11_isWhole_6 : decode cX11_isWhole 6 = .ok (.iload_n 2, 1) := by decide +kernel
theorem dX11_isWhole_7 : decode cX11_isWhole 7 = .ok (.if_icmp .ne 27, 3) := by decide +kernel
theorem dX11_isWhole_10 : decode cX11_isWhole 10 = .ok (.aload_n 0, 1) := by decide +kernel
theorem dX11_isWhole_11 : decode cX11_isWhole 11 = .ok (.getfield 34, 3) := by decide +kernel
theorem dX11_isWhole_14 : decode cX11_isWhole 14 = .ok (.iload_n 1, 1) := by decide +kernel
theorem dX11_isWhole_15 : decode cX11_isWhole 15 = .ok (.iaload, 1) := by decide +kernel
theorem dX11_isWhole_16 : decode cX11_isWhole 16 = .ok (.iconst 1, 1) := by decide +kernel
theorem dX11_isWhole_17 : decode cX11_isWhole 17 = .ok (.if_icmp .eq 13, 3) := by decide +kernel
theorem dX11_isWhole_20 : decode cX11_isWhole 20 = .ok (.aload_n 0, 1) := by decide +kernel
theorem dX11_isWhole_21 : decode cX11_isWhole 21 = .ok (.getfield 34, 3) := by decide +kernel
theorem dX11_isWhole_24 : decode cX11_isWhole 24 = .ok (.iload_n 1, 1) := by decide +kernel
theorem dX11_isWhole_25 : decode cX11_isWhole 25 = .ok (.iaload, 1) := by decide +kernel
theorem dX11_isWhole_26 : decode cX11_isWhole 26 = .ok (.iconst 2, 1) := by decide +kernel
theorem dX11_isWhole_27 : decode cX11_isWhole 27 = .ok (.if_icmp .ne 7, 3) := by decide +kernel
theorem dX11_isWhole_30 : decode cX11_isWhole 30 = .ok (.iconst 1, 1) := by decide +kernel
theorem dX11_isWhole_31 : decode cX11_isWhole 31 = .ok (.goto 4, 3) := by decide +kernel
theorem dX11_isWhole_34 : decode cX11_isWhole 34 = .ok (.iconst 0, 1) := by decide +kernel
theorem dX11_isWhole_35 : decode cX11_isWhole 35 = .ok (.ireturn, 1) := by decide +kernel
theorem dX11_matches_0 : decode cX11_matches 0 = .ok (.bipush (-9), 2) := by decide +kernel
theorem dX11_matches_2 : decode cX11_matches 2 = .ok (.istore 4, 2) := by decide +kernel
theorem dX11_matches_4 : decode cX11_matches 4 = .ok (.iconst 0, 1) := by decide +kernel
theorem dX11_matches_5 : decode cX11_matches 5 = .ok (.istore 5, 2) := by decide +kernel
theorem dX11_matches_7 : decode cX11_matches 7 = .ok (.iload 5, 2) := by decide +kernel
theorem dX11_matches_9 : decode cX11_matches 9 = .ok (.bipush 100, 2) := by decide +kernel
theorem dX11_matches_11 : decode cX11_matches 11 = .ok (.if_icmp .gt 220, 3) := by decide +kernel
theorem dX11_matches_14 : decode cX11_matches 14 = .ok (.iconst 0, 1) := by decide +kernel
theorem dX11_matches_15 : decode cX11_matches 15 = .ok (.istore 6, 2) := by decide +kernel
theorem dX11_matches_17 : decode cX11_matches 17 = .ok (.iconst 0, 1) := by decide +kernel
theorem dX11_matches_18 : decode cX11_matches 18 = .ok (.istore 7, 2) := by decide +kernel
theorem dX11_matches_20 : decode cX11_matches 20 = .ok (.iconst 0, 1) := by decide +kernel
theorem dX11_matches_21 : decode cX11_matches 21 = .ok (.istore 8, 2) := by decide +kernel
theorem dX11_matches_23 : decode cX11_matches 23 = .ok (.iconst 0, 1) := by decide +kernel
theorem dX11_matches_24 : decode cX11_matches 24 = .ok (.istore 9, 2) := by decide +kernel
theorem dX11_matches_26 : decode cX11_matches 26 = .ok (.iload 9, 2) := by decide +kernel
theorem dX11_matches_28 : decode cX11_matches 28 = .ok (.aload_n 0, 1) := by decide +kernel
theorem dX11_matches_29 : decode cX11_matches 29 = .ok (.getfield 174, 3) := by decide +kernel
theorem dX11_matches_32 : decode cX11_matches 32 = .ok (.if_icmp .ge 17, 3) := by decide +kernel
theorem dX11_matches_35 : decode cX11_matches 35 = .ok (.aload_n 0, 1) := by decide +kernel
theorem dX11_matches_36 : decode cX11_matches 36 = .ok (.getfield 105, 3) := by decide +kernel
theorem dX11_matches_39 : decode cX11_matches 39 = .ok (.iload 9, 2) := by decide +kernel
theorem dX11_matches_41 : decode cX11_matches 41 = .ok (.iconst 0, 1) := by decide +kernel
theorem dX11_matches_42 : decode cX11_matches 42 = .ok (.bastore, 1) := by decide +kernel
theorem dX11_matches_43 : decode cX11_matches 43 = .ok (.iinc 9 1, 3) := by decide +kernel
theorem dX11_matches_46 : decode cX11_matches 46 = .ok (.goto (-20), 3) := by decide +kernel
theorem dX11_matches_49 : decode cX11_matches 49 = .ok (.iload 5, 2) := by decide +kernel
theorem dX11_matches_51 : decode cX11_matches 51 = .ok (.istore 9, 2) := by decide +kernel
theorem dX11_matches_53 : decode cX11_matches 53 = .ok (.iload 9, 2) := by decide +kernel
theorem dX11_matches_55 : decode cX11_matches 55 = .ok (.iload 5, 2) := by decide +kernel
theorem dX11_matches_57 : decode cX11_matches 57 = .ok (.iload_n 3, 1) := by decide +kernel
theorem dX11_matches_58 : decode cX11_matches 58 = .ok (.isub, 1) := by decide +kernel
theorem dX11_matches_59 : decode cX11_matches 59 = .ok (.if_icmp .lt 104, 3) := by decide +kernel
theorem dX11_matches_62 : decode cX11_matches 62 = .ok (.iload 7, 2) := by decide +kernel
theorem dX11_matches_64 : decode cX11_matches 64 = .ok (.iload_n 2, 1) := by decide +kernel
theorem dX11_matches_65 : decode cX11_matches 65 = .ok (.if_icmp .ge 98, 3) := by decide +kernel
theorem dX11_matches_68 : decode cX11_matches 68 = .ok (.iconst 0, 1) := by decide +kernel
theorem dX11_matches_69 : decode cX11_matches 69 = .ok (.istore 10, 2) := by decide +kernel
theorem dX11_matches_71 : decode cX11_matches 71 = .ok (.iload 10, 2) := by decide +kernel
theorem dX11_matches_73 : decode cX11_matches 73 = .ok (.aload_n 0, 1) := by decide +kernel
theorem dX11_matches_74 : decode cX11_matches 74 = .ok (.getfield 174, 3) := by decide +kernel
theorem dX11_matches_77 : decode cX11_matches 77 = .ok (.if_icmp .ge 80, 3) := by decide +kernel
theorem dX11_matches_80 : decode cX11_matches 80 = .ok (.iload 7, 2) := by decide +kernel
theorem dX11_matches_82 : decode cX11_matches 82 = .ok (.iload_n 2, 1) := by decide +kernel
theorem dX11_matches_83 : decode cX11_matches 83 = .ok (.if_icmp .ge 74, 3) := by decide +kernel
theorem dX11_matches_86 : decode cX11_matches 86 = .ok (.aload_n 0, 1) := by decide +kernel
theorem dX11_matches_87 : decode cX11_matches 87 = .ok (.iload 10, 2) := by decide +kernel
theorem dX11_matches_89 : decode cX11_matches 89 = .ok (.iload_n 1, 1) := by decide +kernel
theorem dX11_matches_90 : decode cX11_matches 90 = .ok (.invokevirtual 232, 3) := by decide +kernel
theorem dX11_matches_93 : decode cX11_matches 93 = .ok (.ifCond .eq 58, 3) := by decide +kernel
theorem dX11_matches_96 : decode cX11_matches 96 = .ok (.aload_n 0, 1) := by decide +kernel
theorem dX11_matches_97 : decode cX11_matches 97 = .ok (.getfield 43, 3) := by decide +kernel
theorem dX11_matches_100 : decode cX11_matches 100 = .ok (.iload 10, 2) := by decide +kernel
theorem dX11_matches_102 : decode cX11_matches 102 = .ok (.iaload, 1) := by decide +kernel
theorem dX11_matches_103 : decode cX11_matches 103 = .ok (.iload 9, 2) := by decide +kernel
theorem dX11_matches_105 : decode cX11_matches 105 = .ok (.if_icmp .eq 6, 3) := by decide +kernel
theorem dX11_matches_108 : decode cX11_matches 108 = .ok (.goto 43, 3) := by decide +kernel
theorem dX11_matches_111 : decode cX11_matches 111 = .ok (.aload_n 0, 1) := by decide +kernel
theorem dX11_matches_112 : decode cX11_matches 112 = .ok (.getfield 105, 3) := by decide +kernel
theorem dX11_matches_115 : decode cX11_matches 115 = .ok (.iload 10, 2) := by decide +kernel
theorem dX11_matches_117 : decode cX11_matches 117 = .ok (.iconst 1, 1) := by decide +kernel
theorem dX11_matches_118 : decode cX11_matches 118 = .ok (.bastore, 1) := by decide +kernel
theorem dX11_matches_119 : decode cX11_matches 119 = .ok (.iload 6, 2) := by decide +kernel
theorem dX11_matches_121 : decode cX11_matches 121 = .ok (.bipush 100, 2) := by decide +kernel
theorem dX11_matches_123 : decode cX11_matches 123 = .ok (.iload 9, 2) := by decide +kernel
theorem dX11_matches_125 : decode cX11_matches 125 = .ok (.isub, 1) := by decide +kernel
theorem dX11_matches_126 : decode cX11_matches 126 = .ok (.iadd, 1) := by decide +kernel
theorem dX11_matches_127 : decode cX11_matches 127 = .ok (.istore 6, 2) := by decide +kernel
theorem dX11_matches_129 : decode cX11_matches 129 = .ok (.iinc 7 1, 3) := by decide +kernel
theorem dX11_matches_132 : decode cX11_matches 132 = .ok (.iload 8, 2) := by decide +kernel
theorem dX11_matches_134 : decode cX11_matches 134 = .ok (.ifCond .ne 10, 3) := by decide +kernel
theorem dX11_matches_137 : decode cX11_matches 137 = .ok (.iload 9, 2) := by decide +kernel
theorem dX11_matches_139 : decode cX11_matches 139 = .ok (.iload 5, 2) := by decide +kernel
theorem dX11_matches_141 : decode cX11_matches 141 = .ok (.if_icmp .ne 7, 3) := by decide +kernel
theorem dX11_matches_144 : decode cX11_matches 144 = .ok (.iconst 1, 1) := by decide +kernel
theorem dX11_matches_145 : decode cX11_matches 145 = .ok (.goto 4, 3) := by decide +kernel
theorem dX11_matches_148 : decode cX11_matches 148 = .ok (.iconst 0, 1) := by decide +kernel
theorem dX11_matches_149 : decode cX11_matches 149 = .ok (.istore 8, 2) := by decide +kernel
theorem dX11_matches_151 : decode cX11_matches 151 = .ok (.iinc 10 1, 3) := by decide +kernel
theorem dX11_matches_154 : decode cX11_matches 154 = .ok (.goto (-83), 3) := by decide +kernel
theorem dX11_matches_157 : decode cX11_matches 157 = .ok (.iinc 9 (-1), 3) := by decide +kernel
theorem dX11_matches_160 : decode cX11_matches 160 = .ok (.goto (-107), 3) := by decide +kernel
theorem dX11_matches_163 : decode cX11_matches 163 = .ok (.iload 7, 2) := by decide +kernel
theorem dX11_matches_165 : decode cX11_matches 165 = .ok (.iload_n 2, 1) := by decide +kernel
theorem dX11_matches_166 : decode cX11_matches 166 = .ok (.if_icmp .lt 59, 3) := by decide +kernel
theorem dX11_matches_169 : decode cX11_matches 169 = .ok (.iload 8, 2) := by decide +kernel
theorem dX11_matches_171 : decode cX11_matches 171 = .ok (.ifCond .eq 54, 3) := by decide +kernel
theorem dX11_matches_174 : decode cX11_matches 174 = .ok (.iload 4, 2) := by decide +kernel
theorem dX11_matches_176 : decode cX11_matches 176 = .ok (.ifCond .lt 13, 3) := by decide +kernel
theorem dX11_matches_179 : decode cX11_matches 179 = .ok (.iload 6, 2) := by decide +kernel
theorem dX11_matches_181 : decode cX11_matches 181 = .ok (.iload 4, 2) := by decide +kernel
theorem dX11_matches_183 : decode cX11_matches 183 = .ok (.if_icmp .lt 6, 3) := by decide +kernel
theorem dX11_matches_186 : decode cX11_matches 186 = .ok (.goto 39, 3) := by decide +kernel
theorem dX11_matches_189 : decode cX11_matches 189 = .ok (.iload 6, 2) := by decide +kernel
theorem dX11_matches_191 : decode cX11_matches 191 = .ok (.istore 4, 2) := by decide +kernel
theorem dX11_matches_193 : decode cX11_matches 193 = .ok (.iconst 0, 1) := by decide +kernel
theorem dX11_matches_194 : decode cX11_matches 194 = .ok (.istore 9, 2) := by decide +kernel
theorem dX11_matches_196 : decode cX11_matches 196 = .ok (.iload 9, 2) := by decide +kernel
theorem dX11_matches_198 : decode cX11_matches 198 = .ok (.aload_n 0, 1) := by decide +kernel
theorem dX11_matches_199 : decode cX11_matches 199 = .ok (.getfield 174, 3) := by decide +kernel
theorem dX11_matches_202 : decode cX11_matches 202 = .ok (.if_icmp .ge 23, 3) := by decide +kernel
theorem dX11_matches_205 : decode cX11_matches 205 = .ok (.aload_n 0, 1) := by decide +kernel
theorem dX11_matches_206 : decode cX11_matches 206 = .ok (.getfield 101, 3) := by decide +kernel
theorem dX11_matches_209 : decode cX11_matches 209 = .ok (.iload 9, 2) := by decide +kernel
theorem dX11_matches_211 : decode cX11_matches 211 = .ok (.aload_n 0, 1) := by decide +kernel
theorem dX11_matches_212 : decode cX11_matches 212 = .ok (.getfield 105, 3) := by decide +kernel
theorem dX11_matches_215 : decode cX11_matches 215 = .ok (.iload 9, 2) := by decide +kernel
theorem dX11_matches_217 : decode cX11_matches 217 = .ok (.baload, 1) := by decide +kernel
theorem dX11_matches_218 : decode cX11_matches 218 = .ok (.bastore, 1) := by decide +kernel
theorem dX11_matches_219 : decode cX11_matches 219 = .ok (.iinc 9 1, 3) := by decide +kernel
theorem dX11_matches_222 : decode cX11_matches 222 = .ok (.goto (-26), 3) := by decide +kernel
theorem dX11_matches_225 : decode cX11_matches 225 = .ok (.iinc 5 1, 3) := by decide +kernel
theorem dX11_matches_228 : decode cX11_matches 228 = .ok (.goto (-221), 3) := by decide +kernel
theorem dX11_matches_231 : decode cX11_matches 231 = .ok (.iload 4, 2) := by decide +kernel
theorem dX11_matches_233 : decode cX11_matches 233 = .ok (.ireturn, 1) := by decide +kernel
theorem dX11_service_0 : decode cX11_service 0 = .ok (.aload_n 0, 1) := by decide +kernel
theorem dX11_service_1 : decode cX11_service 1 = .ok (.iload_n 1, 1) := by decide +kernel
theorem dX11_service_2 : decode cX11_service 2 = .ok (.iload_n 2, 1) := by decide +kernel
theorem dX11_service_3 : decode cX11_service 3 = .ok (.iload_n 3, 1) := by decide +kernel
theorem dX11_service_4 : decode cX11_service 4 = .ok (.invokevirtual 235, 3) := by decide +kernel
theorem dX11_service_7 : decode cX11_service 7 = .ok (.istore 4, 2) := by decide +kernel
theorem dX11_service_9 : decode cX11_service 9 = .ok (.iload 4, 2) := by decide +kernel
theorem dX11_service_11 : decode cX11_service 11 = .ok (.ifCond .eq 12, 3) := by decide +kernel
theorem dX11_service_14 : decode cX11_service 14 = .ok (.aload_n 0, 1) := by decide +kernel
theorem dX11_service_15 : decode cX11_service 15 = .ok (.iload 4, 2) := by decide +kernel
theorem dX11_service_17 : decode cX11_service 17 = .ok (.invokevirtual 152, 3) := by decide +kernel
theorem dX11_service_20 : decode cX11_service 20 = .ok (.goto 10, 3) := by decide +kernel
theorem dX11_service_23 : decode cX11_service 23 = .ok (.aload_n 0, 1) := by decide +kernel
theorem dX11_service_24 : decode cX11_service 24 = .ok (.iload_n 1, 1) := by decide +kernel
theorem dX11_service_25 : decode cX11_service 25 = .ok (.iload_n 2, 1) := by decide +kernel
theorem dX11_service_26 : decode cX11_service 26 = .ok (.iload_n 3, 1) := by decide +kernel
theorem dX11_service_27 : decode cX11_service 27 = .ok (.invokevirtual 238, 3) := by decide +kernel
theorem dX11_service_30 : decode cX11_service 30 = .ok (.ireturn, 1) := by decide +kernel
theorem dX11_matched_0 : decode cX11_matched 0 = .ok (.aload_n 0, 1) := by decide +kernel
theorem dX11_matched_1 : decode cX11_matched 1 = .ok (.iload_n 1, 1) := by decide +kernel
theorem dX11_matched_2 : decode cX11_matched 2 = .ok (.iload_n 2, 1) := by decide +kernel
theorem dX11_matched_3 : decode cX11_matched 3 = .ok (.iload_n 3, 1) := by decide +kernel
theorem dX11_matched_4 : decode cX11_matched 4 = .ok (.invokevirtual 235, 3) := by decide +kernel
theorem dX11_matched_7 : decode cX11_matched 7 = .ok (.istore 5, 2) := by decide +kernel
theorem dX11_matched_9 : decode cX11_matched 9 = .ok (.iload 5, 2) := by decide +kernel
theorem dX11_matched_11 : decode cX11_matched 11 = .ok (.ifCond .eq 10, 3) := by decide +kernel
theorem dX11_matched_14 : decode cX11_matched 14 = .ok (.aload_n 0, 1) := by decide +kernel
theorem dX11_matched_15 : decode cX11_matched 15 = .ok (.iload 5, 2) := by decide +kernel
theorem dX11_matched_17 : decode cX11_matched 17 = .ok (.invokevirtual 152, 3) := by decide +kernel
theorem dX11_matched_20 : decode cX11_matched 20 = .ok (.ireturn, 1) := by decide +kernel
theorem dX11_matched_21 : decode cX11_matched 21 = .ok (.aload_n 0, 1) := by decide +kernel
theorem dX11_matched_22 : decode cX11_matched 22 = .ok (.iload_n 1, 1) := by decide +kernel
theorem dX11_matched_23 : decode cX11_matched 23 = .ok (.iload_n 2, 1) := by decide +kernel
theorem dX11_matched_24 : decode cX11_matched 24 = .ok (.iload_n 3, 1) := by decide +kernel
theorem dX11_matched_25 : decode cX11_matched 25 = .ok (.invokevirtual 238, 3) := by decide +kernel
theorem dX11_matched_28 : decode cX11_matched 28 = .ok (.ifCond .lt 8, 3) := by decide +kernel
theorem dX11_matched_31 : decode cX11_matched 31 = .ok (.iload 4, 2) := by decide +kernel
theorem dX11_matched_33 : decode cX11_matched 33 = .ok (.ifCond .ge 6, 3) := by decide +kernel
theorem dX11_matched_36 : decode cX11_matched 36 = .ok (.bipush (-9), 2) := by decide +kernel
theorem dX11_matched_38 : decode cX11_matched 38 = .ok (.ireturn, 1) := by decide +kernel
theorem dX11_matched_39 : decode cX11_matched 39 = .ok (.iconst 0, 1) := by decide +kernel
theorem dX11_matched_40 : decode cX11_matched 40 = .ok (.istore 6, 2) := by decide +kernel
theorem dX11_matched_42 : decode cX11_matched 42 = .ok (.iconst 0, 1) := by decide +kernel
theorem dX11_matched_43 : decode cX11_matched 43 = .ok (.istore 7, 2) := by decide +kernel
theorem dX11_matched_45 : decode cX11_matched 45 = .ok (.iload 7, 2) := by decide +kernel
theorem dX11_matched_47 : decode cX11_matched 47 = .ok (.aload_n 0, 1) := by decide +kernel
theorem dX11_matched_48 : decode cX11_matched 48 = .ok (.getfield 174, 3) := by decide +kernel
theorem dX11_matched_51 : decode cX11_matched 51 = .ok (.if_icmp .ge 35, 3) := by decide +kernel
theorem dX11_matched_54 : decode cX11_matched 54 = .ok (.aload_n 0, 1) := by decide +kernel
theorem dX11_matched_55 : decode cX11_matched 55 = .ok (.getfield 101, 3) := by decide +kernel
theorem dX11_matched_58 : decode cX11_matched 58 = .ok (.iload 7, 2) := by decide +kernel
theorem dX11_matched_60 : decode cX11_matched 60 = .ok (.baload, 1) := by decide +kernel
theorem dX11_matched_61 : decode cX11_matched 61 = .ok (.ifCond .ne 6, 3) := by decide +kernel
theorem dX11_matched_64 : decode cX11_matched 64 = .ok (.goto 16, 3) := by decide +kernel
theorem dX11_matched_67 : decode cX11_matched 67 = .ok (.iload 6, 2) := by decide +kernel
theorem dX11_matched_69 : decode cX11_matched 69 = .ok (.iload 4, 2) := by decide +kernel
theorem dX11_matched_71 : decode cX11_matched 71 = .ok (.if_icmp .ne 6, 3) := by decide +kernel
theorem dX11_matched_74 : decode cX11_matched 74 = .ok (.iload 7, 2) := by decide +kernel
theorem dX11_matched_76 : decode cX11_matched 76 = .ok (.ireturn, 1) := by decide +kernel
theorem dX11_matched_77 : decode cX11_matched 77 = .ok (.iinc 6 1, 3) := by decide +kernel
theorem dX11_matched_80 : decode cX11_matched 80 = .ok (.iinc 7 1, 3) := by decide +kernel
theorem dX11_matched_83 : decode cX11_matched 83 = .ok (.goto (-38), 3) := by decide +kernel
theorem dX11_matched_86 : decode cX11_matched 86 = .ok (.bipush (-9), 2) := by decide +kernel
theorem dX11_matched_88 : decode cX11_matched 88 = .ok (.ireturn, 1) := by decide +kernel
theorem dX11_sell_0 : decode cX11_sell 0 = .ok (.aload_n 0, 1) := by decide +kernel
theorem dX11_sell_1 : decode cX11_sell 1 = .ok (.iload_n 1, 1) := by decide +kernel
theorem dX11_sell_2 : decode cX11_sell 2 = .ok (.iload_n 2, 1) := by decide +kernel
theorem dX11_sell_3 : decode cX11_sell 3 = .ok (.iload_n 3, 1) := by decide +kernel
theorem dX11_sell_4 : decode cX11_sell 4 = .ok (.invokevirtual 235, 3) := by decide +kernel
theorem dX11_sell_7 : decode cX11_sell 7 = .ok (.istore 4, 2) := by decide +kernel
theorem dX11_sell_9 : decode cX11_sell 9 = .ok (.iload 4, 2) := by decide +kernel
theorem dX11_sell_11 : decode cX11_sell 11 = .ok (.ifCond .ne 17, 3) := by decide +kernel
theorem dX11_sell_14 : decode cX11_sell 14 = .ok (.aload_n 0, 1) := by decide +kernel
theorem dX11_sell_15 : decode cX11_sell 15 = .ok (.iload_n 1, 1) := by decide +kernel
theorem dX11_sell_16 : decode cX11_sell 16 = .ok (.iload_n 2, 1) := by decide +kernel
theorem dX11_sell_17 : decode cX11_sell 17 = .ok (.iload_n 3, 1) := by decide +kernel
theorem dX11_sell_18 : decode cX11_sell 18 = .ok (.invokevirtual 238, 3) := by decide +kernel
theorem dX11_sell_21 : decode cX11_sell 21 = .ok (.ifCond .ge 7, 3) := by decide +kernel
theorem dX11_sell_24 : decode cX11_sell 24 = .ok (.bipush (-3), 2) := by decide +kernel
theorem dX11_sell_26 : decode cX11_sell 26 = .ok (.istore 4, 2) := by decide +kernel
theorem dX11_sell_28 : decode cX11_sell 28 = .ok (.iload 4, 2) := by decide +kernel
theorem dX11_sell_30 : decode cX11_sell 30 = .ok (.ifCond .eq 10, 3) := by decide +kernel
theorem dX11_sell_33 : decode cX11_sell 33 = .ok (.aload_n 0, 1) := by decide +kernel
theorem dX11_sell_34 : decode cX11_sell 34 = .ok (.iload 4, 2) := by decide +kernel
theorem dX11_sell_36 : decode cX11_sell 36 = .ok (.invokevirtual 152, 3) := by decide +kernel
theorem dX11_sell_39 : decode cX11_sell 39 = .ok (.ireturn, 1) := by decide +kernel
theorem dX11_sell_40 : decode cX11_sell 40 = .ok (.iconst 0, 1) := by decide +kernel
theorem dX11_sell_41 : decode cX11_sell 41 = .ok (.istore 5, 2) := by decide +kernel
theorem dX11_sell_43 : decode cX11_sell 43 = .ok (.iload 5, 2) := by decide +kernel
theorem dX11_sell_45 : decode cX11_sell 45 = .ok (.aload_n 0, 1) := by decide +kernel
theorem dX11_sell_46 : decode cX11_sell 46 = .ok (.getfield 174, 3) := by decide +kernel
theorem dX11_sell_49 : decode cX11_sell 49 = .ok (.if_icmp .ge 27, 3) := by decide +kernel
theorem dX11_sell_52 : decode cX11_sell 52 = .ok (.aload_n 0, 1) := by decide +kernel
theorem dX11_sell_53 : decode cX11_sell 53 = .ok (.getfield 101, 3) := by decide +kernel
theorem dX11_sell_56 : decode cX11_sell 56 = .ok (.iload 5, 2) := by decide +kernel
theorem dX11_sell_58 : decode cX11_sell 58 = .ok (.baload, 1) := by decide +kernel
theorem dX11_sell_59 : decode cX11_sell 59 = .ok (.ifCond .eq 11, 3) := by decide +kernel
theorem dX11_sell_62 : decode cX11_sell 62 = .ok (.aload_n 0, 1) := by decide +kernel
theorem dX11_sell_63 : decode cX11_sell 63 = .ok (.getfield 34, 3) := by decide +kernel
theorem dX11_sell_66 : decode cX11_sell 66 = .ok (.iload 5, 2) := by decide +kernel
theorem dX11_sell_68 : decode cX11_sell 68 = .ok (.iconst 4, 1) := by decide +kernel
theorem dX11_sell_69 : decode cX11_sell 69 = .ok (.iastore, 1) := by decide +kernel
theorem dX11_sell_70 : decode cX11_sell 70 = .ok (.iinc 5 1, 3) := by decide +kernel
theorem dX11_sell_73 : decode cX11_sell 73 = .ok (.goto (-30), 3) := by decide +kernel
theorem dX11_sell_76 : decode cX11_sell 76 = .ok (.iload_n 2, 1) := by decide +kernel
theorem dX11_sell_77 : decode cX11_sell 77 = .ok (.ireturn, 1) := by decide +kernel
theorem dX11_begins_0 : decode cX11_begins 0 = .ok (.iconst 0, 1) := by decide +kernel
theorem dX11_begins_1 : decode cX11_begins 1 = .ok (.istore_n 1, 1) := by decide +kernel
theorem dX11_begins_2 : decode cX11_begins 2 = .ok (.iload_n 1, 1) := by decide +kernel
theorem dX11_begins_3 : decode cX11_begins 3 = .ok (.sipush 202, 3) := by decide +kernel
theorem dX11_begins_6 : decode cX11_begins 6 = .ok (.if_icmp .ge 16, 3) := by decide +kernel
theorem dX11_begins_9 : decode cX11_begins 9 = .ok (.aload_n 0, 1) := by decide +kernel
theorem dX11_begins_10 : decode cX11_begins 10 = .ok (.getfield 108, 3) := by decide +kernel
theorem dX11_begins_13 : decode cX11_begins 13 = .ok (.iload_n 1, 1) := by decide +kernel
theorem dX11_begins_14 : decode cX11_begins 14 = .ok (.iconst 0, 1) := by decide +kernel
theorem dX11_begins_15 : decode cX11_begins 15 = .ok (.iastore, 1) := by decide +kernel
theorem dX11_begins_16 : decode cX11_begins 16 = .ok (.iinc 1 1, 3) := by decide +kernel
theorem dX11_begins_19 : decode cX11_begins 19 = .ok (.goto (-17), 3) := by decide +kernel
theorem dX11_begins_22 : decode cX11_begins 22 = .ok (.aload_n 0, 1) := by decide +kernel
theorem dX11_begins_23 : decode cX11_begins 23 = .ok (.getfield 108, 3) := by decide +kernel
theorem dX11_begins_26 : decode cX11_begins 26 = .ok (.iconst 0, 1) := by decide +kernel
theorem dX11_begins_27 : decode cX11_begins 27 = .ok (.ldc 241, 2) := by decide +kernel
theorem dX11_begins_29 : decode cX11_begins 29 = .ok (.iastore, 1) := by decide +kernel
theorem dX11_begins_30 : decode cX11_begins 30 = .ok (.return_, 1) := by decide +kernel
theorem dX11_oneMore_0 : decode cX11_oneMore 0 = .ok (.sipush 201, 3) := by decide +kernel
theorem dX11_oneMore_3 : decode cX11_oneMore 3 = .ok (.istore_n 2, 1) := by decide +kernel
theorem dX11_oneMore_4 : decode cX11_oneMore 4 = .ok (.iload_n 2, 1) := by decide +kernel
theorem dX11_oneMore_5 : decode cX11_oneMore 5 = .ok (.ifCond .lt 57, 3) := by decide +kernel
theorem dX11_oneMore_8 : decode cX11_oneMore 8 = .ok (.aload_n 0, 1) := by decide +kernel
theorem dX11_oneMore_9 : decode cX11_oneMore 9 = .ok (.getfield 108, 3) := by decide +kernel
theorem dX11_oneMore_12 : decode cX11_oneMore 12 = .ok (.iload_n 2, 1) := by decide +kernel
theorem dX11_oneMore_13 : decode cX11_oneMore 13 = .ok (.iaload, 1) := by decide +kernel
theorem dX11_oneMore_14 : decode cX11_oneMore 14 = .ok (.i2l, 1) := by decide +kernel
theorem dX11_oneMore_15 : decode cX11_oneMore 15 = .ok (.sipush 1024, 3) := by decide +kernel
theorem dX11_oneMore_18 : decode cX11_oneMore 18 = .ok (.iload_n 1, 1) := by decide +kernel
theorem dX11_oneMore_19 : decode cX11_oneMore 19 = .ok (.isub, 1) := by decide +kernel
theorem dX11_oneMore_20 : decode cX11_oneMore 20 = .ok (.i2l, 1) := by decide +kernel
theorem dX11_oneMore_21 : decode cX11_oneMore 21 = .ok (.lmul, 1) := by decide +kernel
theorem dX11_oneMore_22 : decode cX11_oneMore 22 = .ok (.iload_n 2, 1) := by decide +kernel
theorem dX11_oneMore_23 : decode cX11_oneMore 23 = .ok (.ifCond .le 18, 3) := by decide +kernel
theorem dX11_oneMore_26 : decode cX11_oneMore 26 = .ok (.aload_n 0, 1) := by decide +kernel
theorem dX11_oneMore_27 : decode cX11_oneMore 27 = .ok (.getfield 108, 3) := by decide +kernel
theorem dX11_oneMore_30 : decode cX11_oneMore 30 = .ok (.iload_n 2, 1) := by decide +kernel
theorem dX11_oneMore_31 : decode cX11_oneMore 31 = .ok (.iconst 1, 1) := by decide +kernel
theorem dX11_oneMore_32 : decode cX11_oneMore 32 = .ok (.isub, 1) := by decide +kernel
theorem dX11_oneMore_33 : decode cX11_oneMore 33 = .ok (.iaload, 1) := by decide +kernel
theorem dX11_oneMore_34 : decode cX11_oneMore 34 = .ok (.i2l, 1) := by decide +kernel
theorem dX11_oneMore_35 : decode cX11_oneMore 35 = .ok (.iload_n 1, 1) := by decide +kernel
theorem dX11_oneMore_36 : decode cX11_oneMore 36 = .ok (.i2l, 1) := by decide +kernel
theorem dX11_oneMore_37 : decode cX11_oneMore 37 = .ok (.lmul, 1) := by decide +kernel
theorem dX11_oneMore_38 : decode cX11_oneMore 38 = .ok (.goto 4, 3) := by decide +kernel
theorem dX11_oneMore_41 : decode cX11_oneMore 41 = .ok (.lconst 0, 1) := by decide +kernel
theorem dX11_oneMore_42 : decode cX11_oneMore 42 = .ok (.ladd, 1) := by decide +kernel
theorem dX11_oneMore_43 : decode cX11_oneMore 43 = .ok (.lstore_n 3, 1) := by decide +kernel
theorem dX11_oneMore_44 : decode cX11_oneMore 44 = .ok (.aload_n 0, 1) := by decide +kernel
theorem dX11_oneMore_45 : decode cX11_oneMore 45 = .ok (.getfield 108, 3) := by decide +kernel
theorem dX11_oneMore_48 : decode cX11_oneMore 48 = .ok (.iload_n 2, 1) := by decide +kernel
theorem dX11_oneMore_49 : decode cX11_oneMore 49 = .ok (.lload_n 3, 1) := by decide +kernel
theorem dX11_oneMore_50 : decode cX11_oneMore 50 = .ok (.ldc2_w 242, 3) := by decide +kernel
theorem dX11_oneMore_53 : decode cX11_oneMore 53 = .ok (.ldiv, 1) := by decide +kernel
theorem dX11_oneMore_54 : decode cX11_oneMore 54 = .ok (.l2i, 1) := by decide +kernel
theorem dX11_oneMore_55 : decode cX11_oneMore 55 = .ok (.iastore, 1) := by decide +kernel
theorem dX11_oneMore_56 : decode cX11_oneMore 56 = .ok (.iinc 2 (-1), 3) := by decide +kernel
theorem dX11_oneMore_59 : decode cX11_oneMore 59 = .ok (.goto (-55), 3) := by decide +kernel
theorem dX11_oneMore_62 : decode cX11_oneMore 62 = .ok (.return_, 1) := by decide +kernel
theorem dX11_orMore_0 : decode cX11_orMore 0 = .ok (.iconst 0, 1) := by decide +kernel
theorem dX11_orMore_1 : decode cX11_orMore 1 = .ok (.istore_n 2, 1) := by decide +kernel
theorem dX11_orMore_2 : decode cX11_orMore 2 = .ok (.iload_n 1, 1) := by decide +kernel
theorem dX11_orMore_3 : decode cX11_orMore 3 = .ok (.istore_n 3, 1) := by decide +kernel
theorem dX11_orMore_4 : decode cX11_orMore 4 = .ok (.iload_n 3, 1) := by decide +kernel
theorem dX11_orMore_5 : decode cX11_orMore 5 = .ok (.sipush 202, 3) := by decide +kernel
theorem dX11_orMore_8 : decode cX11_orMore 8 = .ok (.if_icmp .ge 18, 3) := by decide +kernel
theorem dX11_orMore_11 : decode cX11_orMore 11 = .ok (.iload_n 2, 1) := by decide +kernel
theorem dX11_orMore_12 : decode cX11_orMore 12 = .ok (.aload_n 0, 1) := by decide +kernel
theorem dX11_orMore_13 : decode cX11_orMore 13 = .ok (.getfield 108, 3) := by decide +kernel
theorem dX11_orMore_16 : decode cX11_orMore 16 = .ok (.iload_n 3, 1) := by decide +kernel
theorem dX11_orMore_17 : decode cX11_orMore 17 = .ok (.iaload, 1) := by decide +kernel
theorem dX11_orMore_18 : decode cX11_orMore 18 = .ok (.iadd, 1) := by decide +kernel
theorem dX11_orMore_19 : decode cX11_orMore 19 = .ok (.istore_n 2, 1) := by decide +kernel
theorem dX11_orMore_20 : decode cX11_orMore 20 = .ok (.iinc 3 1, 3) := by decide +kernel
theorem dX11_orMore_23 : decode cX11_orMore 23 = .ok (.goto (-19), 3) := by decide +kernel
theorem dX11_orMore_26 : decode cX11_orMore 26 = .ok (.iload_n 2, 1) := by decide +kernel
theorem dX11_orMore_27 : decode cX11_orMore 27 = .ok (.ireturn, 1) := by decide +kernel
theorem dX11_chance_0 : decode cX11_chance 0 = .ok (.iload_n 1, 1) := by decide +kernel
theorem dX11_chance_1 : decode cX11_chance 1 = .ok (.ifCond .lt 11, 3) := by decide +kernel
theorem dX11_chance_4 : decode cX11_chance 4 = .ok (.iload_n 2, 1) := by decide +kernel
theorem dX11_chance_5 : decode cX11_chance 5 = .ok (.ifCond .lt 7, 3) := by decide +kernel
theorem dX11_chance_8 : decode cX11_chance 8 = .ok (.iload_n 3, 1) := by decide +kernel
theorem dX11_chance_9 : decode cX11_chance 9 = .ok (.ifCond .ge 10, 3) := by decide +kernel
theorem dX11_chance_12 : decode cX11_chance 12 = .ok (.aload_n 0, 1) := by decide +kernel
theorem dX11_chance_13 : decode cX11_chance 13 = .ok (.bipush (-4), 2) := by decide +kernel
theorem dX11_chance_15 : decode cX11_chance 15 = .ok (.invokevirtual 152, 3) := by decide +kernel
theorem dX11_chance_18 : decode cX11_chance 18 = .ok (.ireturn, 1) := by decide +kernel
theorem dX11_chance_19 : decode cX11_chance 19 = .ok (.iload_n 1, 1) := by decide +kernel
theorem dX11_chance_20 : decode cX11_chance 20 = .ok (.sipush 200, 3) := by decide +kernel
theorem dX11_chance_23 : decode cX11_chance 23 = .ok (.if_icmp .gt 17, 3) := by decide +kernel
theorem dX11_chance_26 : decode cX11_chance 26 = .ok (.iload_n 2, 1) := by decide +kernel
theorem dX11_chance_27 : decode cX11_chance 27 = .ok (.sipush 200, 3) := by decide +kernel
theorem dX11_chance_30 : decode cX11_chance 30 = .ok (.if_icmp .gt 10, 3) := by decide +kernel
theorem dX11_chance_33 : decode cX11_chance 33 = .ok (.iload_n 3, 1) := by decide +kernel
theorem dX11_chance_34 : decode cX11_chance 34 = .ok (.sipush 1024, 3) := by decide +kernel
theorem dX11_chance_37 : decode cX11_chance 37 = .ok (.if_icmp .le 10, 3) := by decide +kernel
theorem dX11_chance_40 : decode cX11_chance 40 = .ok (.aload_n 0, 1) := by decide +kernel
theorem dX11_chance_41 : decode cX11_chance 41 = .ok (.bipush (-6), 2) := by decide +kernel
theorem dX11_chance_43 : decode cX11_chance 43 = .ok (.invokevirtual 152, 3) := by decide +kernel
theorem dX11_chance_46 : decode cX11_chance 46 = .ok (.ireturn, 1) := by decide +kernel
theorem dX11_chance_47 : decode cX11_chance 47 = .ok (.aload_n 0, 1) := by decide +kernel
theorem dX11_chance_48 : decode cX11_chance 48 = .ok (.invokevirtual 244, 3) := by decide +kernel
theorem dX11_chance_51 : decode cX11_chance 51 = .ok (.iconst 0, 1) := by decide +kernel
theorem dX11_chance_52 : decode cX11_chance 52 = .ok (.istore 4, 2) := by decide +kernel
theorem dX11_chance_54 : decode cX11_chance 54 = .ok (.iload 4, 2) := by decide +kernel
theorem dX11_chance_56 : decode cX11_chance 56 = .ok (.iload_n 1, 1) := by decide +kernel
theorem dX11_chance_57 : decode cX11_chance 57 = .ok (.if_icmp .ge 14, 3) := by decide +kernel
theorem dX11_chance_60 : decode cX11_chance 60 = .ok (.aload_n 0, 1) := by decide +kernel
theorem dX11_chance_61 : decode cX11_chance 61 = .ok (.iload_n 3, 1) := by decide +kernel
theorem dX11_chance_62 : decode cX11_chance 62 = .ok (.invokevirtual 247, 3) := by decide +kernel
theorem dX11_chance_65 : decode cX11_chance 65 = .ok (.iinc 4 1, 3) := by decide +kernel
theorem dX11_chance_68 : decode cX11_chance 68 = .ok (.goto (-14), 3) := by decide +kernel
theorem dX11_chance_71 : decode cX11_chance 71 = .ok (.aload_n 0, 1) := by decide +kernel
theorem dX11_chance_72 : decode cX11_chance 72 = .ok (.iload_n 2, 1) := by decide +kernel
theorem dX11_chance_73 : decode cX11_chance 73 = .ok (.invokevirtual 250, 3) := by decide +kernel
theorem dX11_chance_76 : decode cX11_chance 76 = .ok (.ireturn, 1) := by decide +kernel
theorem dX11_make_0 : decode cX11_make 0 = .ok (.iload_n 1, 1) := by decide +kernel
theorem dX11_make_1 : decode cX11_make 1 = .ok (.ifCond .lt 11, 3) := by decide +kernel
theorem dX11_make_4 : decode cX11_make 4 = .ok (.iload_n 2, 1) := by decide +kernel
theorem dX11_make_5 : decode cX11_make 5 = .ok (.ifCond .lt 7, 3) := by decide +kernel
theorem dX11_make_8 : decode cX11_make 8 = .ok (.iload_n 3, 1) := by decide +kernel
theorem dX11_make_9 : decode cX11_make 9 = .ok (.ifCond .ge 10, 3) := by decide +kernel
theorem dX11_make_12 : decode cX11_make 12 = .ok (.aload_n 0, 1) := by decide +kernel
theorem dX11_make_13 : decode cX11_make 13 = .ok (.bipush (-4), 2) := by decide +kernel
theorem dX11_make_15 : decode cX11_make 15 = .ok (.invokevirtual 152, 3) := by decide +kernel
theorem dX11_make_18 : decode cX11_make 18 = .ok (.ireturn, 1) := by decide +kernel
theorem dX11_make_19 : decode cX11_make 19 = .ok (.iload_n 1, 1) := by decide +kernel
theorem dX11_make_20 : decode cX11_make 20 = .ok (.sipush 200, 3) := by decide +kernel
theorem dX11_make_23 : decode cX11_make 23 = .ok (.if_icmp .gt 16, 3) := by decide +kernel
theorem dX11_make_26 : decode cX11_make 26 = .ok (.iload_n 2, 1) := by decide +kernel
theorem dX11_make_27 : decode cX11_make 27 = .ok (.sipush 1024, 3) := by decide +kernel
theorem dX11_make_30 : decode cX11_make 30 = .ok (.if_icmp .gt 9, 3) := by decide +kernel
theorem dX11_make_33 : decode cX11_make 33 = .ok (.iload_n 3, 1) := by decide +kernel
theorem dX11_make_34 : decode cX11_make 34 = .ok (.ldc 241, 2) := by decide +kernel
theorem dX11_make_36 : decode cX11_make 36 = .ok (.if_icmp .le 10, 3) := by decide +kernel
theorem dX11_make_39 : decode cX11_make 39 = .ok (.aload_n 0, 1) := by decide +kernel
theorem dX11_make_40 : decode cX11_make 40 = .ok (.bipush (-6), 2) := by decide +kernel
theorem dX11_make_42 : decode cX11_make 42 = .ok (.invokevirtual 152, 3) := by decide +kernel
theorem dX11_make_45 : decode cX11_make 45 = .ok (.ireturn, 1) := by decide +kernel
theorem dX11_make_46 : decode cX11_make 46 = .ok (.aload_n 0, 1) := by decide +kernel
theorem dX11_make_47 : decode cX11_make 47 = .ok (.invokevirtual 244, 3) := by decide +kernel
theorem dX11_make_50 : decode cX11_make 50 = .ok (.iconst 0, 1) := by decide +kernel
theorem dX11_make_51 : decode cX11_make 51 = .ok (.istore 4, 2) := by decide +kernel
theorem dX11_make_53 : decode cX11_make 53 = .ok (.iload 4, 2) := by decide +kernel
theorem dX11_make_55 : decode cX11_make 55 = .ok (.sipush 200, 3) := by decide +kernel
theorem dX11_make_58 : decode cX11_make 58 = .ok (.if_icmp .gt 26, 3) := by decide +kernel
theorem dX11_make_61 : decode cX11_make 61 = .ok (.aload_n 0, 1) := by decide +kernel
theorem dX11_make_62 : decode cX11_make 62 = .ok (.iload_n 1, 1) := by decide +kernel
theorem dX11_make_63 : decode cX11_make 63 = .ok (.invokevirtual 250, 3) := by decide +kernel
theorem dX11_make_66 : decode cX11_make 66 = .ok (.iload_n 3, 1) := by decide +kernel
theorem dX11_make_67 : decode cX11_make 67 = .ok (.if_icmp .lt 6, 3) := by decide +kernel
theorem dX11_make_70 : decode cX11_make 70 = .ok (.iload 4, 2) := by decide +kernel
theorem dX11_make_72 : decode cX11_make 72 = .ok (.ireturn, 1) := by decide +kernel
theorem dX11_make_73 : decode cX11_make 73 = .ok (.aload_n 0, 1) := by decide +kernel
theorem dX11_make_74 : decode cX11_make 74 = .ok (.iload_n 2, 1) := by decide +kernel
theorem dX11_make_75 : decode cX11_make 75 = .ok (.invokevirtual 247, 3) := by decide +kernel
theorem dX11_make_78 : decode cX11_make 78 = .ok (.iinc 4 1, 3) := by decide +kernel
theorem dX11_make_81 : decode cX11_make 81 = .ok (.goto (-28), 3) := by decide +kernel
theorem dX11_make_84 : decode cX11_make 84 = .ok (.bipush (-9), 2) := by decide +kernel
theorem dX11_make_86 : decode cX11_make 86 = .ok (.ireturn, 1) := by decide +kernel
theorem dX11_see_0 : decode cX11_see 0 = .ok (.iload_n 1, 1) := by decide +kernel
theorem dX11_see_1 : decode cX11_see 1 = .ok (.bipush 16, 2) := by decide +kernel
theorem dX11_see_3 : decode cX11_see 3 = .ok (.invokestatic 144, 3) := by decide +kernel
theorem dX11_see_6 : decode cX11_see 6 = .ok (.ifCond .eq 11, 3) := by decide +kernel
theorem dX11_see_9 : decode cX11_see 9 = .ok (.iload_n 2, 1) := by decide +kernel
theorem dX11_see_10 : decode cX11_see 10 = .ok (.iconst 2, 1) := by decide +kernel
theorem dX11_see_11 : decode cX11_see 11 = .ok (.invokestatic 144, 3) := by decide +kernel
theorem dX11_see_14 : decode cX11_see 14 = .ok (.ifCond .ne 9, 3) := by decide +kernel
theorem dX11_see_17 : decode cX11_see 17 = .ok (.aload_n 0, 1) := by decide +kernel
theorem dX11_see_18 : decode cX11_see 18 = .ok (.iconst (-1), 1) := by decide +kernel
theorem dX11_see_19 : decode cX11_see 19 = .ok (.invokevirtual 152, 3) := by decide +kernel
theorem dX11_see_22 : decode cX11_see 22 = .ok (.ireturn, 1) := by decide +kernel
theorem dX11_see_23 : decode cX11_see 23 = .ok (.iconst 0, 1) := by decide +kernel
theorem dX11_see_24 : decode cX11_see 24 = .ok (.istore_n 3, 1) := by decide +kernel
theorem dX11_see_25 : decode cX11_see 25 = .ok (.iload_n 3, 1) := by decide +kernel
theorem dX11_see_26 : decode cX11_see 26 = .ok (.aload_n 0, 1) := by decide +kernel
theorem dX11_see_27 : decode cX11_see 27 = .ok (.getfield 253, 3) := by decide +kernel
theorem dX11_see_30 : decode cX11_see 30 = .ok (.if_icmp .ge 31, 3) := by decide +kernel
theorem dX11_see_33 : decode cX11_see 33 = .ok (.aload_n 0, 1) := by decide +kernel
theorem dX11_see_34 : decode cX11_see 34 = .ok (.getfield 111, 3) := by decide +kernel
theorem dX11_see_37 : decode cX11_see 37 = .ok (.iload_n 3, 1) := by decide +kernel
theorem dX11_see_38 : decode cX11_see 38 = .ok (.iaload, 1) := by decide +kernel
theorem dX11_see_39 : decode cX11_see 39 = .ok (.iload_n 1, 1) := by decide +kernel
theorem dX11_see_40 : decode cX11_see 40 = .ok (.if_icmp .ne 15, 3) := by decide +kernel
theorem dX11_see_43 : decode cX11_see 43 = .ok (.aload_n 0, 1) := by decide +kernel
theorem dX11_see_44 : decode cX11_see 44 = .ok (.getfield 114, 3) := by decide +kernel
theorem dX11_see_47 : decode cX11_see 47 = .ok (.iload_n 3, 1) := by decide +kernel
theorem dX11_see_48 : decode cX11_see 48 = .ok (.iaload, 1) := by decide +kernel
theorem dX11_see_49 : decode cX11_see 49 = .ok (.iload_n 2, 1) := by decide +kernel
theorem dX11_see_50 : decode cX11_see 50 = .ok (.if_icmp .ne 5, 3) := by decide +kernel
theorem dX11_see_53 : decode cX11_see 53 = .ok (.iconst 0, 1) := by decide +kernel
theorem dX11_see_54 : decode cX11_see 54 = .ok (.ireturn, 1) := by decide +kernel
theorem dX11_see_55 : decode cX11_see 55 = .ok (.iinc 3 1, 3) := by decide +kernel
theorem dX11_see_58 : decode cX11_see 58 = .ok (.goto (-33), 3) := by decide +kernel
theorem dX11_see_61 : decode cX11_see 61 = .ok (.aload_n 0, 1) := by decide +kernel
theorem dX11_see_62 : decode cX11_see 62 = .ok (.getfield 111, 3) := by decide +kernel
theorem dX11_see_65 : decode cX11_see 65 = .ok (.aload_n 0, 1) := by decide +kernel
theorem dX11_see_66 : decode cX11_see 66 = .ok (.getfield 253, 3) := by decide +kernel
theorem dX11_see_69 : decode cX11_see 69 = .ok (.iload_n 1, 1) := by decide +kernel
theorem dX11_see_70 : decode cX11_see 70 = .ok (.iastore, 1) := by decide +kernel
theorem dX11_see_71 : decode cX11_see 71 = .ok (.aload_n 0, 1) := by decide +kernel
theorem dX11_see_72 : decode cX11_see 72 = .ok (.getfield 114, 3) := by decide +kernel
theorem dX11_see_75 : decode cX11_see 75 = .ok (.aload_n 0, 1) := by decide +kernel
theorem dX11_see_76 : decode cX11_see 76 = .ok (.getfield 253, 3) := by decide +kernel
theorem dX11_see_79 : decode cX11_see 79 = .ok (.iload_n 2, 1) := by decide +kernel
theorem dX11_see_80 : decode cX11_see 80 = .ok (.iastore, 1) := by decide +kernel
theorem dX11_see_81 : decode cX11_see 81 = .ok (.aload_n 0, 1) := by decide +kernel
theorem dX11_see_82 : decode cX11_see 82 = .ok (.getfield 117, 3) := by decide +kernel
theorem dX11_see_85 : decode cX11_see 85 = .ok (.aload_n 0, 1) := by decide +kernel
theorem dX11_see_86 : decode cX11_see 86 = .ok (.getfield 253, 3) := by decide +kernel
theorem dX11_see_89 : decode cX11_see 89 = .ok (.aload_n 0, 1) := by decide +kernel
theorem dX11_see_90 : decode cX11_see 90 = .ok (.getfield 160, 3) := by decide +kernel
theorem dX11_see_93 : decode cX11_see 93 = .ok (.iastore, 1) := by decide +kernel
theorem dX11_see_94 : decode cX11_see 94 = .ok (.aload_n 0, 1) := by decide +kernel
theorem dX11_see_95 : decode cX11_see 95 = .ok (.dup, 1) := by decide +kernel
theorem dX11_see_96 : decode cX11_see 96 = .ok (.getfield 253, 3) := by decide +kernel
theorem dX11_see_99 : decode cX11_see 99 = .ok (.iconst 1, 1) := by decide +kernel
theorem dX11_see_100 : decode cX11_see 100 = .ok (.iadd, 1) := by decide +kernel
theorem dX11_see_101 : decode cX11_see 101 = .ok (.putfield 253, 3) := by decide +kernel
theorem dX11_see_104 : decode cX11_see 104 = .ok (.iconst 1, 1) := by decide +kernel
theorem dX11_see_105 : decode cX11_see 105 = .ok (.ireturn, 1) := by decide +kernel
theorem dX11_talk_0 : decode cX11_talk 0 = .ok (.iload_n 1, 1) := by decide +kernel
theorem dX11_talk_1 : decode cX11_talk 1 = .ok (.bipush 16, 2) := by decide +kernel
theorem dX11_talk_3 : decode cX11_talk 3 = .ok (.invokestatic 144, 3) := by decide +kernel
theorem dX11_talk_6 : decode cX11_talk 6 = .ok (.ifCond .eq 17, 3) := by decide +kernel
theorem dX11_talk_9 : decode cX11_talk 9 = .ok (.iload_n 2, 1) := by decide +kernel
theorem dX11_talk_10 : decode cX11_talk 10 = .ok (.bipush 16, 2) := by decide +kernel
theorem dX11_talk_12 : decode cX11_talk 12 = .ok (.invokestatic 144, 3) := by decide +kernel
theorem dX11_talk_15 : decode cX11_talk 15 = .ok (.ifCond .eq 8, 3) := by decide +kernel
theorem dX11_talk_18 : decode cX11_talk 18 = .ok (.iload_n 1, 1) := by decide +kernel
theorem dX11_talk_19 : decode cX11_talk 19 = .ok (.iload_n 2, 1) := by decide +kernel
theorem dX11_talk_20 : decode cX11_talk 20 = .ok (.if_icmp .ne 9, 3) := by decide +kernel
theorem dX11_talk_23 : decode cX11_talk 23 = .ok (.aload_n 0, 1) := by decide +kernel
theorem dX11_talk_24 : decode cX11_talk 24 = .ok (.iconst (-1), 1) := by decide +kernel
theorem dX11_talk_25 : decode cX11_talk 25 = .ok (.invokevirtual 152, 3) := by decide +kernel
theorem dX11_talk_28 : decode cX11_talk 28 = .ok (.ireturn, 1) := by decide +kernel
theorem dX11_talk_29 : decode cX11_talk 29 = .ok (.iconst 0, 1) := by decide +kernel
theorem dX11_talk_30 : decode cX11_talk 30 = .ok (.istore_n 3, 1) := by decide +kernel
theorem dX11_talk_31 : decode cX11_talk 31 = .ok (.iload_n 3, 1) := by decide +kernel
theorem dX11_talk_32 : decode cX11_talk 32 = .ok (.aload_n 0, 1) := by decide +kernel
theorem dX11_talk_33 : decode cX11_talk 33 = .ok (.getfield 256, 3) := by decide +kernel
theorem dX11_talk_36 : decode cX11_talk 36 = .ok (.if_icmp .ge 64, 3) := by decide +kernel
theorem dX11_talk_39 : decode cX11_talk 39 = .ok (.aload_n 0, 1) := by decide +kernel
theorem dX11_talk_40 : decode cX11_talk 40 = .ok (.getfield 126, 3) := by decide +kernel
theorem dX11_talk_43 : decode cX11_talk 43 = .ok (.iload_n 3, 1) := by decide +kernel
theorem dX11_talk_44 : decode cX11_talk 44 = .ok (.iaload, 1) := by decide +kernel
theorem dX11_talk_45 : decode cX11_talk 45 = .ok (.aload_n 0, 1) := by decide +kernel
theorem dX11_talk_46 : decode cX11_talk 46 = .ok (.getfield 160, 3) := by decide +kernel
theorem dX11_talk_49 : decode cX11_talk 49 = .ok (.if_icmp .ne 45, 3) := by decide +kernel
theorem dX11_talk_52 : decode cX11_talk 52 = .ok (.aload_n 0, 1) := by decide +kernel
theorem dX11_talk_53 : decode cX11_talk 53 = .ok (.getfield 120, 3) := by decide +kernel
theorem dX11_talk_56 : decode cX11_talk 56 = .ok (.iload_n 3, 1) := by decide +kernel
theorem dX11_talk_57 : decode cX11_talk 57 = .ok (.iaload, 1) := by decide +kernel
theorem dX11_talk_58 : decode cX11_talk 58 = .ok (.iload_n 1, 1) := by decide +kernel
theorem dX11_talk_59 : decode cX11_talk 59 = .ok (.if_icmp .ne 13, 3) := by decide +kernel
theorem dX11_talk_62 : decode cX11_talk 62 = .ok (.aload_n 0, 1) := by decide +kernel
theorem dX11_talk_63 : decode cX11_talk 63 = .ok (.getfield 123, 3) := by decide +kernel
theorem dX11_talk_66 : decode cX11_talk 66 = .ok (.iload_n 3, 1) := by decide +kernel
theorem dX11_talk_67 : decode cX11_talk 67 = .ok (.iaload, 1) := by decide +kernel
theorem dX11_talk_68 : decode cX11_talk 68 = .ok (.iload_n 2, 1) := by decide +kernel
theorem dX11_talk_69 : decode cX11_talk 69 = .ok (.if_icmp .eq 23, 3) := by decide +kernel
theorem dX11_talk_72 : decode cX11_talk 72 = .ok (.aload_n 0, 1) := by decide +kernel
theorem dX11_talk_73 : decode cX11_talk 73 = .ok (.getfield 120, 3) := by decide +kernel
theorem dX11_talk_76 : decode cX11_talk 76 = .ok (.iload_n 3, 1) := by decide +kernel
theorem dX11_talk_77 : decode cX11_talk 77 = .ok (.iaload, 1) := by decide +kernel
theorem dX11_talk_78 : decode cX11_talk 78 = .ok (.iload_n 2, 1) := by decide +kernel
theorem dX11_talk_79 : decode cX11_talk 79 = .ok (.if_icmp .ne 15, 3) := by decide +kernel
theorem dX11_talk_82 : decode cX11_talk 82 = .ok (.aload_n 0, 1) := by decide +kernel
theorem dX11_talk_83 : decode cX11_talk 83 = .ok (.getfield 123, 3) := by decide +kernel
theorem dX11_talk_86 : decode cX11_talk 86 = .ok (.iload_n 3, 1) := by decide +kernel
theorem dX11_talk_87 : decode cX11_talk 87 = .ok (.iaload, 1) := by decide +kernel
theorem dX11_talk_88 : decode cX11_talk 88 = .ok (.iload_n 1, 1) := by decide +kernel
theorem dX11_talk_89 : decode cX11_talk 89 = .ok (.if_icmp .ne 5, 3) := by decide +kernel
theorem dX11_talk_92 : decode cX11_talk 92 = .ok (.iconst 0, 1) := by decide +kernel
theorem dX11_talk_93 : decode cX11_talk 93 = .ok (.ireturn, 1) := by decide +kernel
theorem dX11_talk_94 : decode cX11_talk 94 = .ok (.iinc 3 1, 3) := by decide +kernel
theorem dX11_talk_97 : decode cX11_talk 97 = .ok (.goto (-66), 3) := by decide +kernel
theorem dX11_talk_100 : decode cX11_talk 100 = .ok (.aload_n 0, 1) := by decide +kernel
theorem dX11_talk_101 : decode cX11_talk 101 = .ok (.getfield 256, 3) := by decide +kernel
theorem dX11_talk_104 : decode cX11_talk 104 = .ok (.bipush 60, 2) := by decide +kernel
theorem dX11_talk_106 : decode cX11_talk 106 = .ok (.if_icmp .ne 10, 3) := by decide +kernel
theorem dX11_talk_109 : decode cX11_talk 109 = .ok (.aload_n 0, 1) := by decide +kernel
theorem dX11_talk_110 : decode cX11_talk 110 = .ok (.bipush (-6), 2) := by decide +kernel
theorem dX11_talk_112 : decode cX11_talk 112 = .ok (.invokevirtual 152, 3) := by decide +kernel
theorem dX11_talk_115 : decode cX11_talk 115 = .ok (.ireturn, 1) := by decide +kernel
theorem dX11_talk_116 : decode cX11_talk 116 = .ok (.aload_n 0, 1) := by decide +kernel
theorem dX11_talk_117 : decode cX11_talk 117 = .ok (.getfield 120, 3) := by decide +kernel
theorem dX11_talk_120 : decode cX11_talk 120 = .ok (.aload_n 0, 1) := by decide +kernel
theorem dX11_talk_121 : decode cX11_talk 121 = .ok (.getfield 256, 3) := by decide +kernel
theorem dX11_talk_124 : decode cX11_talk 124 = .ok (.iload_n 1, 1) := by decide +kernel
theorem dX11_talk_125 : decode cX11_talk 125 = .ok (.iastore, 1) := by decide +kernel
theorem dX11_talk_126 : decode cX11_talk 126 = .ok (.aload_n 0, 1) := by decide +kernel
theorem dX11_talk_127 : decode cX11_talk 127 = .ok (.getfield 123, 3) := by decide +kernel
theorem dX11_talk_130 : decode cX11_talk 130 = .ok (.aload_n 0, 1) := by decide +kernel
theorem dX11_talk_131 : decode cX11_talk 131 = .ok (.getfield 256, 3) := by decide +kernel
theorem dX11_talk_134 : decode cX11_talk 134 = .ok (.iload_n 2, 1) := by decide +kernel
theorem dX11_talk_135 : decode cX11_talk 135 = .ok (.iastore, 1) := by decide +kernel
theorem dX11_talk_136 : decode cX11_talk 136 = .ok (.aload_n 0, 1) := by decide +kernel
theorem dX11_talk_137 : decode cX11_talk 137 = .ok (.getfield 126, 3) := by decide +kernel
theorem dX11_talk_140 : decode cX11_talk 140 = .ok (.aload_n 0, 1) := by decide +kernel
theorem dX11_talk_141 : decode cX11_talk 141 = .ok (.getfield 256, 3) := by decide +kernel
theorem dX11_talk_144 : decode cX11_talk 144 = .ok (.aload_n 0, 1) := by decide +kernel
theorem dX11_talk_145 : decode cX11_talk 145 = .ok (.getfield 160, 3) := by decide +kernel
theorem dX11_talk_148 : decode cX11_talk 148 = .ok (.iastore, 1) := by decide +kernel
theorem dX11_talk_149 : decode cX11_talk 149 = .ok (.aload_n 0, 1) := by decide +kernel
theorem dX11_talk_150 : decode cX11_talk 150 = .ok (.dup, 1) := by decide +kernel
theorem dX11_talk_151 : decode cX11_talk 151 = .ok (.getfield 256, 3) := by decide +kernel
theorem dX11_talk_154 : decode cX11_talk 154 = .ok (.iconst 1, 1) := by decide +kernel
theorem dX11_talk_155 : decode cX11_talk 155 = .ok (.iadd, 1) := by decide +kernel
theorem dX11_talk_156 : decode cX11_talk 156 = .ok (.putfield 256, 3) := by decide +kernel
theorem dX11_talk_159 : decode cX11_talk 159 = .ok (.iconst 1, 1) := by decide +kernel
theorem dX11_talk_160 : decode cX11_talk 160 = .ok (.ireturn, 1) := by decide +kernel
theorem dX11_tells_0 : decode cX11_tells 0 = .ok (.bipush (-9), 2) := by decide +kernel
theorem dX11_tells_2 : decode cX11_tells 2 = .ok (.istore_n 2, 1) := by decide +kernel
theorem dX11_tells_3 : decode cX11_tells 3 = .ok (.iconst 0, 1) := by decide +kernel
theorem dX11_tells_4 : decode cX11_tells 4 = .ok (.istore_n 3, 1) := by decide +kernel
theorem dX11_tells_5 : decode cX11_tells 5 = .ok (.iload_n 3, 1) := by decide +kernel
theorem dX11_tells_6 : decode cX11_tells 6 = .ok (.bipush 16, 2) := by decide +kernel
theorem dX11_tells_8 : decode cX11_tells 8 = .ok (.if_icmp .ge 16, 3) := by decide +kernel
theorem dX11_tells_11 : decode cX11_tells 11 = .ok (.aload_n 0, 1) := by decide +kernel
theorem dX11_tells_12 : decode cX11_tells 12 = .ok (.getfield 129, 3) := by decide +kernel
theorem dX11_tells_15 : decode cX11_tells 15 = .ok (.iload_n 3, 1) := by decide +kernel
theorem dX11_tells_16 : decode cX11_tells 16 = .ok (.iconst 0, 1) := by decide +kernel
theorem dX11_tells_17 : decode cX11_tells 17 = .ok (.iastore, 1) := by decide +kernel
theorem dX11_tells_18 : decode cX11_tells 18 = .ok (.iinc 3 1, 3) := by decide +kernel
theorem dX11_tells_21 : decode cX11_tells 21 = .ok (.goto (-16), 3) := by decide +kernel
theorem dX11_tells_24 : decode cX11_tells 24 = .ok (.iconst (-1), 1) := by decide +kernel
theorem dX11_tells_25 : decode cX11_tells 25 = .ok (.istore_n 3, 1) := by decide +kernel
theorem dX11_tells_26 : decode cX11_tells 26 = .ok (.aload_n 0, 1) := by decide +kernel
theorem dX11_tells_27 : decode cX11_tells 27 = .ok (.iload_n 3, 1) := by decide +kernel
theorem dX11_tells_28 : decode cX11_tells 28 = .ok (.invokevirtual 259, 3) := by decide +kernel
theorem dX11_tells_31 : decode cX11_tells 31 = .ok (.istore 4, 2) := by decide +kernel
theorem dX11_tells_33 : decode cX11_tells 33 = .ok (.iload 4, 2) := by decide +kernel
theorem dX11_tells_35 : decode cX11_tells 35 = .ok (.ifCond .lt 224, 3) := by decide +kernel
theorem dX11_tells_38 : decode cX11_tells 38 = .ok (.iload 4, 2) := by decide +kernel
theorem dX11_tells_40 : decode cX11_tells 40 = .ok (.istore_n 3, 1) := by decide +kernel
theorem dX11_tells_41 : decode cX11_tells 41 = .ok (.iconst 0, 1) := by decide +kernel
theorem dX11_tells_42 : decode cX11_tells 42 = .ok (.istore 5, 2) := by decide +kernel
theorem dX11_tells_44 : decode cX11_tells 44 = .ok (.iload 5, 2) := by decide +kernel
theorem dX11_tells_46 : decode cX11_tells 46 = .ok (.aload_n 0, 1) := by decide +kernel
theorem dX11_tells_47 : decode cX11_tells 47 = .ok (.getfield 253, 3) := by decide +kernel
theorem dX11_tells_50 : decode cX11_tells 50 = .ok (.if_icmp .ge 44, 3) := by decide +kernel
theorem dX11_tells_53 : decode cX11_tells 53 = .ok (.aload_n 0, 1) := by decide +kernel
theorem dX11_tells_54 : decode cX11_tells 54 = .ok (.getfield 117, 3) := by decide +kernel
theorem dX11_tells_57 : decode cX11_tells 57 = .ok (.iload 5, 2) := by decide +kernel
theorem dX11_tells_59 : decode cX11_tells 59 = .ok (.iaload, 1) := by decide +kernel
theorem dX11_tells_60 : decode cX11_tells 60 = .ok (.iload_n 3, 1) := by decide +kernel
theorem dX11_tells_61 : decode cX11_tells 61 = .ok (.if_icmp .ne 27, 3) := by decide +kernel
theorem dX11_tells_64 : decode cX11_tells 64 = .ok (.aload_n 0, 1) := by decide +kernel
theorem dX11_tells_65 : decode cX11_tells 65 = .ok (.getfield 129, 3) := by decide +kernel
theorem dX11_tells_68 : decode cX11_tells 68 = .ok (.aload_n 0, 1) := by decide +kernel
theorem dX11_tells_69 : decode cX11_tells 69 = .ok (.getfield 111, 3) := by decide +kernel
theorem dX11_tells_72 : decode cX11_tells 72 = .ok (.iload 5, 2) := by decide +kernel
theorem dX11_tells_74 : decode cX11_tells 74 = .ok (.iaload, 1) := by decide +kernel
theorem dX11_tells_75 : decode cX11_tells 75 = .ok (.dup2, 1) := by decide +kernel
theorem dX11_tells_76 : decode cX11_tells 76 = .ok (.iaload, 1) := by decide +kernel
theorem dX11_tells_77 : decode cX11_tells 77 = .ok (.iconst 1, 1) := by decide +kernel
theorem dX11_tells_78 : decode cX11_tells 78 = .ok (.aload_n 0, 1) := by decide +kernel
theorem dX11_tells_79 : decode cX11_tells 79 = .ok (.getfield 114, 3) := by decide +kernel
theorem dX11_tells_82 : decode cX11_tells 82 = .ok (.iload 5, 2) := by decide +kernel
theorem dX11_tells_84 : decode cX11_tells 84 = .ok (.iaload, 1) := by decide +kernel
theorem dX11_tells_85 : decode cX11_tells 85 = .ok (.ishl, 1) := by decide +kernel
theorem dX11_tells_86 : decode cX11_tells 86 = .ok (.ior, 1) := by decide +kernel
theorem dX11_tells_87 : decode cX11_tells 87 = .ok (.iastore, 1) := by decide +kernel
theorem dX11_tells_88 : decode cX11_tells 88 = .ok (.iinc 5 1, 3) := by decide +kernel
theorem dX11_tells_91 : decode cX11_tells 91 = .ok (.goto (-47), 3) := by decide +kernel
theorem dX11_tells_94 : decode cX11_tells 94 = .ok (.iconst 0, 1) := by decide +kernel
theorem dX11_tells_95 : decode cX11_tells 95 = .ok (.istore 5, 2) := by decide +kernel
theorem dX11_tells_97 : decode cX11_tells 97 = .ok (.iload 5, 2) := by decide +kernel
theorem dX11_tells_99 : decode cX11_tells 99 = .ok (.bipush 16, 2) := by decide +kernel
theorem dX11_tells_101 : decode cX11_tells 101 = .ok (.if_icmp .ge 23, 3) := by decide +kernel
theorem dX11_tells_104 : decode cX11_tells 104 = .ok (.aload_n 0, 1) := by decide +kernel
theorem dX11_tells_105 : decode cX11_tells 105 = .ok (.getfield 132, 3) := by decide +kernel
theorem dX11_tells_108 : decode cX11_tells 108 = .ok (.iload 5, 2) := by decide +kernel
theorem dX11_tells_110 : decode cX11_tells 110 = .ok (.aload_n 0, 1) := by decide +kernel
theorem dX11_tells_111 : decode cX11_tells 111 = .ok (.getfield 129, 3) := by decide +kernel
theorem dX11_tells_114 : decode cX11_tells 114 = .ok (.iload 5, 2) := by decide +kernel
theorem dX11_tells_116 : decode cX11_tells 116 = .ok (.iaload, 1) := by decide +kernel
theorem dX11_tells_117 : decode cX11_tells 117 = .ok (.iastore, 1) := by decide +kernel
theorem dX11_tells_118 : decode cX11_tells 118 = .ok (.iinc 5 1, 3) := by decide +kernel
theorem dX11_tells_121 : decode cX11_tells 121 = .ok (.goto (-24), 3) := by decide +kernel
theorem dX11_tells_124 : decode cX11_tells 124 = .ok (.iconst 0, 1) := by decide +kernel
theorem dX11_tells_125 : decode cX11_tells 125 = .ok (.istore 5, 2) := by decide +kernel
theorem dX11_tells_127 : decode cX11_tells 127 = .ok (.iload 5, 2) := by decide +kernel
theorem dX11_tells_129 : decode cX11_tells 129 = .ok (.aload_n 0, 1) := by decide +kernel
theorem dX11_tells_130 : decode cX11_tells 130 = .ok (.getfield 256, 3) := by decide +kernel
theorem dX11_tells_133 : decode cX11_tells 133 = .ok (.if_icmp .ge 83, 3) := by decide +kernel
theorem dX11_tells_136 : decode cX11_tells 136 = .ok (.aload_n 0, 1) := by decide +kernel
theorem dX11_tells_137 : decode cX11_tells 137 = .ok (.getfield 126, 3) := by decide +kernel
theorem dX11_tells_140 : decode cX11_tells 140 = .ok (.iload 5, 2) := by decide +kernel
theorem dX11_tells_142 : decode cX11_tells 142 = .ok (.iaload, 1) := by decide +kernel
theorem dX11_tells_143 : decode cX11_tells 143 = .ok (.iload_n 3, 1) := by decide +kernel
theorem dX11_tells_144 : decode cX11_tells 144 = .ok (.if_icmp .ne 66, 3) := by decide +kernel
theorem dX11_tells_147 : decode cX11_tells 147 = .ok (.iload 5, 2) := by decide +kernel
theorem dX11_tells_149 : decode cX11_tells 149 = .ok (.iload_n 1, 1) := by decide +kernel
theorem dX11_tells_150 : decode cX11_tells 150 = .ok (.if_icmp .ne 6, 3) := by decide +kernel
theorem dX11_tells_153 : decode cX11_tells 153 = .ok (.goto 57, 3) := by decide +kernel
theorem dX11_tells_156 : decode cX11_tells 156 = .ok (.aload_n 0, 1) := by decide +kernel
theorem dX11_tells_157 : decode cX11_tells 157 = .ok (.getfield 129, 3) := by decide +kernel
theorem dX11_tells_160 : decode cX11_tells 160 = .ok (.aload_n 0, 1) := by decide +kernel
theorem dX11_tells_161 : decode cX11_tells 161 = .ok (.getfield 120, 3) := by decide +kernel
theorem dX11_tells_164 : decode cX11_tells 164 = .ok (.iload 5, 2) := by decide +kernel
theorem dX11_tells_166 : decode cX11_tells 166 = .ok (.iaload, 1) := by decide +kernel
theorem dX11_tells_167 : decode cX11_tells 167 = .ok (.dup2, 1) := by decide +kernel
theorem dX11_tells_168 : decode cX11_tells 168 = .ok (.iaload, 1) := by decide +kernel
theorem dX11_tells_169 : decode cX11_tells 169 = .ok (.aload_n 0, 1) := by decide +kernel
theorem dX11_tells_170 : decode cX11_tells 170 = .ok (.getfield 132, 3) := by decide +kernel
theorem dX11_tells_173 : decode cX11_tells 173 = .ok (.aload_n 0, 1) := by decide +kernel
theorem dX11_tells_174 : decode cX11_tells 174 = .ok (.getfield 123, 3) := by decide +kernel
theorem dX11_tells_177 : decode cX11_tells 177 = .ok (.iload 5, 2) := by decide +kernel
theorem dX11_tells_179 : decode cX11_tells 179 = .ok (.iaload, 1) := by decide +kernel
theorem dX11_tells_180 : decode cX11_tells 180 = .ok (.iaload, 1) := by decide +kernel
theorem dX11_tells_181 : decode cX11_tells 181 = .ok (.ior, 1) := by decide +kernel
theorem dX11_tells_182 : decode cX11_tells 182 = .ok (.iastore, 1) := by decide +kernel
theorem dX11_tells_183 : decode cX11_tells 183 = .ok (.aload_n 0, 1) := by decide +kernel
theorem dX11_tells_184 : decode cX11_tells 184 = .ok (.getfield 129, 3) := by decide +kernel
theorem dX11_tells_187 : decode cX11_tells 187 = .ok (.aload_n 0, 1) := by decide +kernel
theorem dX11_tells_188 : decode cX11_tells 188 = .ok (.getfield 123, 3) := by decide +kernel
theorem dX11_tells_191 : decode cX11_tells 191 = .ok (.iload 5, 2) := by decide +kernel
theorem dX11_tells_193 : decode cX11_tells 193 = .ok (.iaload, 1) := by decide +kernel
theorem dX11_tells_194 : decode cX11_tells 194 = .ok (.dup2, 1) := by decide +kernel
theorem dX11_tells_195 : decode cX11_tells 195 = .ok (.iaload, 1) := by decide +kernel
theorem dX11_tells_196 : decode cX11_tells 196 = .ok (.aload_n 0, 1) := by decide +kernel
theorem dX11_tells_197 : decode cX11_tells 197 = .ok (.getfield 132, 3) := by decide +kernel
theorem dX11_tells_200 : decode cX11_tells 200 = .ok (.aload_n 0, 1) := by decide +kernel
theorem dX11_tells_201 : decode cX11_tells 201 = .ok (.getfield 120, 3) := by decide +kernel
theorem dX11_tells_204 : decode cX11_tells 204 = .ok (.iload 5, 2) := by decide +kernel
theorem dX11_tells_206 : decode cX11_tells 206 = .ok (.iaload, 1) := by decide +kernel
theorem dX11_tells_207 : decode cX11_tells 207 = .ok (.iaload, 1) := by decide +kernel
theorem dX11_tells_208 : decode cX11_tells 208 = .ok (.ior, 1) := by decide +kernel
theorem dX11_tells_209 : decode cX11_tells 209 = .ok (.iastore, 1) := by decide +kernel
theorem dX11_tells_210 : decode cX11_tells 210 = .ok (.iinc 5 1, 3) := by decide +kernel
theorem dX11_tells_213 : decode cX11_tells 213 = .ok (.goto (-86), 3) := by decide +kernel
theorem dX11_tells_216 : decode cX11_tells 216 = .ok (.iconst 0, 1) := by decide +kernel
theorem dX11_tells_217 : decode cX11_tells 217 = .ok (.istore 5, 2) := by decide +kernel
theorem dX11_tells_219 : decode cX11_tells 219 = .ok (.iload 5, 2) := by decide +kernel
theorem dX11_tells_221 : decode cX11_tells 221 = .ok (.bipush 16, 2) := by decide +kernel
theorem dX11_tells_223 : decode cX11_tells 223 = .ok (.if_icmp .ge 26, 3) := by decide +kernel
theorem dX11_tells_226 : decode cX11_tells 226 = .ok (.aload_n 0, 1) := by decide +kernel
theorem dX11_tells_227 : decode cX11_tells 227 = .ok (.getfield 129, 3) := by decide +kernel
theorem dX11_tells_230 : decode cX11_tells 230 = .ok (.iload 5, 2) := by decide +kernel
theorem dX11_tells_232 : decode cX11_tells 232 = .ok (.iaload, 1) := by decide +kernel
theorem dX11_tells_233 : decode cX11_tells 233 = .ok (.iconst 3, 1) := by decide +kernel
theorem dX11_tells_234 : decode cX11_tells 234 = .ok (.if_icmp .ne 9, 3) := by decide +kernel
theorem dX11_tells_237 : decode cX11_tells 237 = .ok (.iload_n 2, 1) := by decide +kernel
theorem dX11_tells_238 : decode cX11_tells 238 = .ok (.ifCond .ge 5, 3) := by decide +kernel
theorem dX11_tells_241 : decode cX11_tells 241 = .ok (.iload_n 3, 1) := by decide +kernel
theorem dX11_tells_242 : decode cX11_tells 242 = .ok (.istore_n 2, 1) := by decide +kernel
theorem dX11_tells_243 : decode cX11_tells 243 = .ok (.iinc 5 1, 3) := by decide +kernel
theorem dX11_tells_246 : decode cX11_tells 246 = .ok (.goto (-27), 3) := by decide +kernel
theorem dX11_tells_249 : decode cX11_tells 249 = .ok (.aload_n 0, 1) := by decide +kernel
theorem dX11_tells_250 : decode cX11_tells 250 = .ok (.iload_n 3, 1) := by decide +kernel
theorem dX11_tells_251 : decode cX11_tells 251 = .ok (.invokevirtual 259, 3) := by decide +kernel
theorem dX11_tells_254 : decode cX11_tells 254 = .ok (.istore 4, 2) := by decide +kernel
theorem dX11_tells_256 : decode cX11_tells 256 = .ok (.goto (-223), 3) := by decide +kernel
theorem dX11_tells_259 : decode cX11_tells 259 = .ok (.iload_n 2, 1) := by decide +kernel
theorem dX11_tells_260 : decode cX11_tells 260 = .ok (.ireturn, 1) := by decide +kernel
theorem dX11_nextDay_0 : decode cX11_nextDay 0 = .ok (.iconst (-1), 1) := by decide +kernel
theorem dX11_nextDay_1 : decode cX11_nextDay 1 = .ok (.istore_n 2, 1) := by decide +kernel
theorem dX11_nextDay_2 : decode cX11_nextDay 2 = .ok (.iconst 0, 1) := by decide +kernel
theorem dX11_nextDay_3 : decode cX11_nextDay 3 = .ok (.istore_n 3, 1) := by decide +kernel
theorem dX11_nextDay_4 : decode cX11_nextDay 4 = .ok (.iload_n 3, 1) := by decide +kernel
theorem dX11_nextDay_5 : decode cX11_nextDay 5 = .ok (.aload_n 0, 1) := by decide +kernel
theorem dX11_nextDay_6 : decode cX11_nextDay 6 = .ok (.getfield 253, 3) := by decide +kernel
theorem dX11_nextDay_9 : decode cX11_nextDay 9 = .ok (.if_icmp .ge 40, 3) := by decide +kernel
theorem dX11_nextDay_12 : decode cX11_nextDay 12 = .ok (.aload_n 0, 1) := by decide +kernel
theorem dX11_nextDay_13 : decode cX11_nextDay 13 = .ok (.getfield 117, 3) := by decide +kernel
theorem dX11_nextDay_16 : decode cX11_nextDay 16 = .ok (.iload_n 3, 1) := by decide +kernel
theorem dX11_nextDay_17 : decode cX11_nextDay 17 = .ok (.iaload, 1) := by decide +kernel
theorem dX11_nextDay_18 : decode cX11_nextDay 18 = .ok (.iload_n 1, 1) := by decide +kernel
theorem dX11_nextDay_19 : decode cX11_nextDay 19 = .ok (.if_icmp .le 24, 3) := by decide +kernel
theorem dX11_nextDay_22 : decode cX11_nextDay 22 = .ok (.iload_n 2, 1) := by decide +kernel
theorem dX11_nextDay_23 : decode cX11_nextDay 23 = .ok (.ifCond .lt 13, 3) := by decide +kernel
theorem dX11_nextDay_26 : decode cX11_nextDay 26 = .ok (.aload_n 0, 1) := by decide +kernel
theorem dX11_nextDay_27 : decode cX11_nextDay 27 = .ok (.getfield 117, 3) := by decide +kernel
theorem dX11_nextDay_30 : decode cX11_nextDay 30 = .ok (.iload_n 3, 1) := by decide +kernel
theorem dX11_nextDay_31 : decode cX11_nextDay 31 = .ok (.iaload, 1) := by decide +kernel
theorem dX11_nextDay_32 : decode cX11_nextDay 32 = .ok (.iload_n 2, 1) := by decide +kernel
theorem dX11_nextDay_33 : decode cX11_nextDay 33 = .ok (.if_icmp .ge 10, 3) := by decide +kernel
theorem dX11_nextDay_36 : decode cX11_nextDay 36 = .ok (.aload_n 0, 1) := by decide +kernel
theorem dX11_nextDay_37 : decode cX11_nextDay 37 = .ok (.getfield 117, 3) := by decide +kernel
theorem dX11_nextDay_40 : decode cX11_nextDay 40 = .ok (.iload_n 3, 1) := by decide +kernel
theorem dX11_nextDay_41 : decode cX11_nextDay 41 = .ok (.iaload, 1) := by decide +kernel
theorem dX11_nextDay_42 : decode cX11_nextDay 42 = .ok (.istore_n 2, 1) := by decide +kernel
theorem dX11_nextDay_43 : decode cX11_nextDay 43 = .ok (.iinc 3 1, 3) := by decide +kernel
theorem dX11_nextDay_46 : decode cX11_nextDay 46 = .ok (.goto (-42), 3) := by decide +kernel
theorem dX11_nextDay_49 : decode cX11_nextDay 49 = .ok (.iconst 0, 1) := by decide +kernel
theorem dX11_nextDay_50 : decode cX11_nextDay 50 = .ok (.istore_n 3, 1) := by decide +kernel
theorem dX11_nextDay_51 : decode cX11_nextDay 51 = .ok (.iload_n 3, 1) := by decide +kernel
theorem dX11_nextDay_52 : decode cX11_nextDay 52 = .ok (.aload_n 0, 1) := by decide +kernel
theorem dX11_nextDay_53 : decode cX11_nextDay 53 = .ok (.getfield 256, 3) := by decide +kernel
theorem dX11_nextDay_56 : decode cX11_nextDay 56 = .ok (.if_icmp .ge 40, 3) := by decide +kernel
theorem dX11_nextDay_59 : decode cX11_nextDay 59 = .ok (.aload_n 0, 1) := by decide +kernel
theorem dX11_nextDay_60 : decode cX11_nextDay 60 = .ok (.getfield 126, 3) := by decide +kernel
theorem dX11_nextDay_63 : decode cX11_nextDay 63 = .ok (.iload_n 3, 1) := by decide +kernel
theorem dX11_nextDay_64 : decode cX11_nextDay 64 = .ok (.iaload, 1) := by decide +kernel
theorem dX11_nextDay_65 : decode cX11_nextDay 65 = .ok (.iload_n 1, 1) := by decide +kernel
theorem dX11_nextDay_66 : decode cX11_nextDay 66 = .ok (.if_icmp .le 24, 3) := by decide +kernel
theorem dX11_nextDay_69 : decode cX11_nextDay 69 = .ok (.iload_n 2, 1) := by decide +kernel
theorem dX11_nextDay_70 : decode cX11_nextDay 70 = .ok (.ifCond .lt 13, 3) := by decide +kernel
theorem dX11_nextDay_73 : decode cX11_nextDay 73 = .ok (.aload_n 0, 1) := by decide +kernel
theorem dX11_nextDay_74 : decode cX11_nextDay 74 = .ok (.getfield 126, 3) := by decide +kernel
theorem dX11_nextDay_77 : decode cX11_nextDay 77 = .ok (.iload_n 3, 1) := by decide +kernel
theorem dX11_nextDay_78 : decode cX11_nextDay 78 = .ok (.iaload, 1) := by decide +kernel
theorem dX11_nextDay_79 : decode cX11_nextDay 79 = .ok (.iload_n 2, 1) := by decide +kernel
theorem dX11_nextDay_80 : decode cX11_nextDay 80 = .ok (.if_icmp .ge 10, 3) := by decide +kernel
theorem dX11_nextDay_83 : decode cX11_nextDay 83 = .ok (.aload_n 0, 1) := by decide +kernel
theorem dX11_nextDay_84 : decode cX11_nextDay 84 = .ok (.getfield 126, 3) := by decide +kernel
theorem dX11_nextDay_87 : decode cX11_nextDay 87 = .ok (.iload_n 3, 1) := by decide +kernel
theorem dX11_nextDay_88 : decode cX11_nextDay 88 = .ok (.iaload, 1) := by decide +kernel
theorem dX11_nextDay_89 : decode cX11_nextDay 89 = .ok (.istore_n 2, 1) := by decide +kernel
theorem dX11_nextDay_90 : decode cX11_nextDay 90 = .ok (.iinc 3 1, 3) := by decide +kernel
theorem dX11_nextDay_93 : decode cX11_nextDay 93 = .ok (.goto (-42), 3) := by decide +kernel
theorem dX11_nextDay_96 : decode cX11_nextDay 96 = .ok (.iload_n 2, 1) := by decide +kernel
theorem dX11_nextDay_97 : decode cX11_nextDay 97 = .ok (.ireturn, 1) := by decide +kernel
theorem dX11_knows_0 : decode cX11_knows 0 = .ok (.iload_n 1, 1) := by decide +kernel
theorem dX11_knows_1 : decode cX11_knows 1 = .ok (.bipush 16, 2) := by decide +kernel
theorem dX11_knows_3 : decode cX11_knows 3 = .ok (.invokestatic 144, 3) := by decide +kernel
theorem dX11_knows_6 : decode cX11_knows 6 = .ok (.ifCond .ne 9, 3) := by decide +kernel
theorem dX11_knows_9 : decode cX11_knows 9 = .ok (.aload_n 0, 1) := by decide +kernel
theorem dX11_knows_10 : decode cX11_knows 10 = .ok (.iconst (-1), 1) := by decide +kernel
theorem dX11_knows_11 : decode cX11_knows 11 = .ok (.invokevirtual 152, 3) := by decide +kernel
theorem dX11_knows_14 : decode cX11_knows 14 = .ok (.ireturn, 1) := by decide +kernel
theorem dX11_knows_15 : decode cX11_knows 15 = .ok (.aload_n 0, 1) := by decide +kernel
theorem dX11_knows_16 : decode cX11_knows 16 = .ok (.iconst (-1), 1) := by decide +kernel
theorem dX11_knows_17 : decode cX11_knows 17 = .ok (.invokevirtual 262, 3) := by decide +kernel
theorem dX11_knows_20 : decode cX11_knows 20 = .ok (.istore_n 2, 1) := by decide +kernel
theorem dX11_knows_21 : decode cX11_knows 21 = .ok (.aload_n 0, 1) := by decide +kernel
theorem dX11_knows_22 : decode cX11_knows 22 = .ok (.getfield 129, 3) := by decide +kernel
theorem dX11_knows_25 : decode cX11_knows 25 = .ok (.iload_n 1, 1) := by decide +kernel
theorem dX11_knows_26 : decode cX11_knows 26 = .ok (.iaload, 1) := by decide +kernel
theorem dX11_knows_27 : decode cX11_knows 27 = .ok (.ireturn, 1) := by decide +kernel
theorem dX11_joined_0 : decode cX11_joined 0 = .ok (.aload_n 0, 1) := by decide +kernel
theorem dX11_joined_1 : decode cX11_joined 1 = .ok (.iconst (-1), 1) := by decide +kernel
theorem dX11_joined_2 : decode cX11_joined 2 = .ok (.invokevirtual 262, 3) := by decide +kernel
theorem dX11_joined_5 : decode cX11_joined 5 = .ok (.ireturn, 1) := by decide +kernel
theorem dX11_leak_0 : decode cX11_leak 0 = .ok (.aload_n 0, 1) := by decide +kernel
theorem dX11_leak_1 : decode cX11_leak 1 = .ok (.iconst (-1), 1) := by decide +kernel
theorem dX11_leak_2 : decode cX11_leak 2 = .ok (.invokevirtual 262, 3) := by decide +kernel
theorem dX11_leak_5 : decode cX11_leak 5 = .ok (.ifCond .ge 6, 3) := by decide +kernel
theorem dX11_leak_8 : decode cX11_leak 8 = .ok (.bipush (-9), 2) := by decide +kernel
theorem dX11_leak_10 : decode cX11_leak 10 = .ok (.ireturn, 1) := by decide +kernel
theorem dX11_leak_11 : decode cX11_leak 11 = .ok (.iconst 0, 1) := by decide +kernel
theorem dX11_leak_12 : decode cX11_leak 12 = .ok (.istore_n 1, 1) := by decide +kernel
theorem dX11_leak_13 : decode cX11_leak 13 = .ok (.iload_n 1, 1) := by decide +kernel
theorem dX11_leak_14 : decode cX11_leak 14 = .ok (.aload_n 0, 1) := by decide +kernel
theorem dX11_leak_15 : decode cX11_leak 15 = .ok (.getfield 256, 3) := by decide +kernel
theorem dX11_leak_18 : decode cX11_leak 18 = .ok (.if_icmp .ge 19, 3) := by decide +kernel
theorem dX11_leak_21 : decode cX11_leak 21 = .ok (.aload_n 0, 1) := by decide +kernel
theorem dX11_leak_22 : decode cX11_leak 22 = .ok (.iload_n 1, 1) := by decide +kernel
theorem dX11_leak_23 : decode cX11_leak 23 = .ok (.invokevirtual 262, 3) := by decide +kernel
theorem dX11_leak_26 : decode cX11_leak 26 = .ok (.ifCond .ge 5, 3) := by decide +kernel
theorem dX11_leak_29 : decode cX11_leak 29 = .ok (.iload_n 1, 1) := by decide +kernel
theorem dX11_leak_30 : decode cX11_leak 30 = .ok (.ireturn, 1) := by decide +kernel
theorem dX11_leak_31 : decode cX11_leak 31 = .ok (.iinc 1 1, 3) := by decide +kernel
theorem dX11_leak_34 : decode cX11_leak 34 = .ok (.goto (-21), 3) := by decide +kernel
theorem dX11_leak_37 : decode cX11_leak 37 = .ok (.bipush (-9), 2) := by decide +kernel
theorem dX11_leak_39 : decode cX11_leak 39 = .ok (.ireturn, 1) := by decide +kernel
theorem dX11_grown_0 : decode cX11_grown 0 = .ok (.ldc2_w 265, 3) := by decide +kernel
theorem dX11_grown_3 : decode cX11_grown 3 = .ok (.iload_n 2, 1) := by decide +kernel
theorem dX11_grown_4 : decode cX11_grown 4 = .ok (.i2l, 1) := by decide +kernel
theorem dX11_grown_5 : decode cX11_grown 5 = .ok (.iload_n 2, 1) := by decide +kernel
theorem dX11_grown_6 : decode cX11_grown 6 = .ok (.i2l, 1) := by decide +kernel
theorem dX11_grown_7 : decode cX11_grown 7 = .ok (.aload_n 0, 1) := by decide +kernel
theorem dX11_grown_8 : decode cX11_grown 8 = .ok (.getfield 138, 3) := by decide +kernel
theorem dX11_grown_11 : decode cX11_grown 11 = .ok (.iload_n 1, 1) := by decide +kernel
theorem dX11_grown_12 : decode cX11_grown 12 = .ok (.iaload, 1) := by decide +kernel
theorem dX11_grown_13 : decode cX11_grown 13 = .ok (.i2l, 1) := by decide +kernel
theorem dX11_grown_14 : decode cX11_grown 14 = .ok (.lmul, 1) := by decide +kernel
theorem dX11_grown_15 : decode cX11_grown 15 = .ok (.ldc2_w 180, 3) := by decide +kernel
theorem dX11_grown_18 : decode cX11_grown 18 = .ok (.ldiv, 1) := by decide +kernel
theorem dX11_grown_19 : decode cX11_grown 19 = .ok (.ladd, 1) := by decide +kernel
theorem dX11_grown_20 : decode cX11_grown 20 = .ok (.invokestatic 267, 3) := by decide +kernel
theorem dX11_grown_23 : decode cX11_grown 23 = .ok (.l2i, 1) := by decide +kernel
theorem dX11_grown_24 : decode cX11_grown 24 = .ok (.ireturn, 1) := by decide +kernel
theorem dX11_debt_0 : decode cX11_debt 0 = .ok (.iload_n 1, 1) := by decide +kernel
theorem dX11_debt_1 : decode cX11_debt 1 = .ok (.ifCond .lt 7, 3) := by decide +kernel
theorem dX11_debt_4 : decode cX11_debt 4 = .ok (.iload_n 2, 1) := by decide +kernel
theorem dX11_debt_5 : decode cX11_debt 5 = .ok (.ifCond .ge 10, 3) := by decide +kernel
theorem dX11_debt_8 : decode cX11_debt 8 = .ok (.aload_n 0, 1) := by decide +kernel
theorem dX11_debt_9 : decode cX11_debt 9 = .ok (.bipush (-4), 2) := by decide +kernel
theorem dX11_debt_11 : decode cX11_debt 11 = .ok (.invokevirtual 152, 3) := by decide +kernel
theorem dX11_debt_14 : decode cX11_debt 14 = .ok (.ireturn, 1) := by decide +kernel
theorem dX11_debt_15 : decode cX11_debt 15 = .ok (.iload_n 1, 1) := by decide +kernel
theorem dX11_debt_16 : decode cX11_debt 16 = .ok (.ldc_w 271, 3) := by decide +kernel
theorem dX11_debt_19 : decode cX11_debt 19 = .ok (.if_icmp .gt 19, 3) := by decide +kernel
theorem dX11_debt_22 : decode cX11_debt 22 = .ok (.iload_n 2, 1) := by decide +kernel
theorem dX11_debt_23 : decode cX11_debt 23 = .ok (.sipush 500, 3) := by decide +kernel
theorem dX11_debt_26 : decode cX11_debt 26 = .ok (.if_icmp .gt 12, 3) := by decide +kernel
theorem dX11_debt_29 : decode cX11_debt 29 = .ok (.aload_n 0, 1) := by decide +kernel
theorem dX11_debt_30 : decode cX11_debt 30 = .ok (.getfield 163, 3) := by decide +kernel
theorem dX11_debt_33 : decode cX11_debt 33 = .ok (.bipush 6, 2) := by decide +kernel
theorem dX11_debt_35 : decode cX11_debt 35 = .ok (.if_icmp .ne 10, 3) := by decide +kernel
theorem dX11_debt_38 : decode cX11_debt 38 = .ok (.aload_n 0, 1) := by decide +kernel
theorem dX11_debt_39 : decode cX11_debt 39 = .ok (.bipush (-6), 2) := by decide +kernel
theorem dX11_debt_41 : decode cX11_debt 41 = .ok (.invokevirtual 152, 3) := by decide +kernel
theorem dX11_debt_44 : decode cX11_debt 44 = .ok (.ireturn, 1) := by decide +kernel
theorem dX11_debt_45 : decode cX11_debt 45 = .ok (.aload_n 0, 1) := by decide +kernel
theorem dX11_debt_46 : decode cX11_debt 46 = .ok (.getfield 135, 3) := by decide +kernel
theorem dX11_debt_49 : decode cX11_debt 49 = .ok (.aload_n 0, 1) := by decide +kernel
theorem dX11_debt_50 : decode cX11_debt 50 = .ok (.getfield 163, 3) := by decide +kernel
theorem dX11_debt_53 : decode cX11_debt 53 = .ok (.iload_n 1, 1) := by decide +kernel
theorem dX11_debt_54 : decode cX11_debt 54 = .ok (.iastore, 1) := by decide +kernel
theorem dX11_debt_55 : decode cX11_debt 55 = .ok (.aload_n 0, 1) := by decide +kernel
theorem dX11_debt_56 : decode cX11_debt 56 = .ok (.getfield 138, 3) := by decide +kernel
theorem dX11_debt_59 : decode cX11_debt 59 = .ok (.aload_n 0, 1) := by decide +kernel
theorem dX11_debt_60 : decode cX11_debt 60 = .ok (.getfield 163, 3) := by decide +kernel
theorem dX11_debt_63 : decode cX11_debt 63 = .ok (.iload_n 2, 1) := by decide +kernel
theorem dX11_debt_64 : decode cX11_debt 64 = .ok (.iastore, 1) := by decide +kernel
theorem dX11_debt_65 : decode cX11_debt 65 = .ok (.aload_n 0, 1) := by decide +kernel
theorem dX11_debt_66 : decode cX11_debt 66 = .ok (.getfield 141, 3) := by decide +kernel
theorem dX11_debt_69 : decode cX11_debt 69 = .ok (.aload_n 0, 1) := by decide +kernel
theorem dX11_debt_70 : decode cX11_debt 70 = .ok (.getfield 163, 3) := by decide +kernel
theorem dX11_debt_73 : decode cX11_debt 73 = .ok (.aload_n 0, 1) := by decide +kernel
theorem dX11_debt_74 : decode cX11_debt 74 = .ok (.getfield 160, 3) := by decide +kernel
theorem dX11_debt_77 : decode cX11_debt 77 = .ok (.iastore, 1) := by decide +kernel
theorem dX11_debt_78 : decode cX11_debt 78 = .ok (.aload_n 0, 1) := by decide +kernel
theorem dX11_debt_79 : decode cX11_debt 79 = .ok (.dup, 1) := by decide +kernel
theorem dX11_debt_80 : decode cX11_debt 80 = .ok (.getfield 163, 3) := by decide +kernel
theorem dX11_debt_83 : decode cX11_debt 83 = .ok (.iconst 1, 1) := by decide +kernel
theorem dX11_debt_84 : decode cX11_debt 84 = .ok (.iadd, 1) := by decide +kernel
theorem dX11_debt_85 : decode cX11_debt 85 = .ok (.putfield 163, 3) := by decide +kernel
theorem dX11_debt_88 : decode cX11_debt 88 = .ok (.aload_n 0, 1) := by decide +kernel
theorem dX11_debt_89 : decode cX11_debt 89 = .ok (.getfield 163, 3) := by decide +kernel
theorem dX11_debt_92 : decode cX11_debt 92 = .ok (.iconst 1, 1) := by decide +kernel
theorem dX11_debt_93 : decode cX11_debt 93 = .ok (.isub, 1) := by decide +kernel
theorem dX11_debt_94 : decode cX11_debt 94 = .ok (.ireturn, 1) := by decide +kernel
theorem dX11_pay_0 : decode cX11_pay 0 = .ok (.iload_n 1, 1) := by decide +kernel
theorem dX11_pay_1 : decode cX11_pay 1 = .ok (.aload_n 0, 1) := by decide +kernel
theorem dX11_pay_2 : decode cX11_pay 2 = .ok (.getfield 163, 3) := by decide +kernel
theorem dX11_pay_5 : decode cX11_pay 5 = .ok (.invokestatic 144, 3) := by decide +kernel
theorem dX11_pay_8 : decode cX11_pay 8 = .ok (.ifCond .eq 23, 3) := by decide +kernel
theorem dX11_pay_11 : decode cX11_pay 11 = .ok (.iload_n 2, 1) := by decide +kernel
theorem dX11_pay_12 : decode cX11_pay 12 = .ok (.iconst 1, 1) := by decide +kernel
theorem dX11_pay_13 : decode cX11_pay 13 = .ok (.ldc_w 271, 3) := by decide +kernel
theorem dX11_pay_16 : decode cX11_pay 16 = .ok (.aload_n 0, 1) := by decide +kernel
theorem dX11_pay_17 : decode cX11_pay 17 = .ok (.getfield 135, 3) := by decide +kernel
theorem dX11_pay_20 : decode cX11_pay 20 = .ok (.iload_n 1, 1) := by decide +kernel
theorem dX11_pay_21 : decode cX11_pay 21 = .ok (.iaload, 1) := by decide +kernel
theorem dX11_pay_22 : decode cX11_pay 22 = .ok (.invokestatic 272, 3) := by decide +kernel
theorem dX11_pay_25 : decode cX11_pay 25 = .ok (.invokestatic 148, 3) := by decide +kernel
theorem dX11_pay_28 : decode cX11_pay 28 = .ok (.goto 4, 3) := by decide +kernel
theorem dX11_pay_31 : decode cX11_pay 31 = .ok (.iconst (-1), 1) := by decide +kernel
theorem dX11_pay_32 : decode cX11_pay 32 = .ok (.istore_n 3, 1) := by decide +kernel
theorem dX11_pay_33 : decode cX11_pay 33 = .ok (.iload_n 3, 1) := by decide +kernel
theorem dX11_pay_34 : decode cX11_pay 34 = .ok (.ifCond .eq 9, 3) := by decide +kernel
theorem dX11_pay_37 : decode cX11_pay 37 = .ok (.aload_n 0, 1) := by decide +kernel
theorem dX11_pay_38 : decode cX11_pay 38 = .ok (.iload_n 3, 1) := by decide +kernel
theorem dX11_pay_39 : decode cX11_pay 39 = .ok (.invokevirtual 152, 3) := by decide +kernel
theorem dX11_pay_42 : decode cX11_pay 42 = .ok (.ireturn, 1) := by decide +kernel
theorem dX11_pay_43 : decode cX11_pay 43 = .ok (.aload_n 0, 1) := by decide +kernel
theorem dX11_pay_44 : decode cX11_pay 44 = .ok (.getfield 135, 3) := by decide +kernel
theorem dX11_pay_47 : decode cX11_pay 47 = .ok (.iload_n 1, 1) := by decide +kernel
theorem dX11_pay_48 : decode cX11_pay 48 = .ok (.dup2, 1) := by decide +kernel
theorem dX11_pay_49 : decode cX11_pay 49 = .ok (.iaload, 1) := by decide +kernel
theorem dX11_pay_50 : decode cX11_pay 50 = .ok (.iload_n 2, 1) := by decide +kernel
theorem dX11_pay_51 : decode cX11_pay 51 = .ok (.isub, 1) := by decide +kernel
theorem dX11_pay_52 : decode cX11_pay 52 = .ok (.iastore, 1) := by decide +kernel
theorem dX11_pay_53 : decode cX11_pay 53 = .ok (.aload_n 0, 1) := by decide +kernel
theorem dX11_pay_54 : decode cX11_pay 54 = .ok (.getfield 135, 3) := by decide +kernel
theorem dX11_pay_57 : decode cX11_pay 57 = .ok (.iload_n 1, 1) := by decide +kernel
theorem dX11_pay_58 : decode cX11_pay 58 = .ok (.iaload, 1) := by decide +kernel
theorem dX11_pay_59 : decode cX11_pay 59 = .ok (.ireturn, 1) := by decide +kernel
theorem dX11_owed_0 : decode cX11_owed 0 = .ok (.iload_n 1, 1) := by decide +kernel
theorem dX11_owed_1 : decode cX11_owed 1 = .ok (.aload_n 0, 1) := by decide +kernel
theorem dX11_owed_2 : decode cX11_owed 2 = .ok (.getfield 163, 3) := by decide +kernel
theorem dX11_owed_5 : decode cX11_owed 5 = .ok (.invokestatic 144, 3) := by decide +kernel
theorem dX11_owed_8 : decode cX11_owed 8 = .ok (.ifCond .eq 14, 3) := by decide +kernel
theorem dX11_owed_11 : decode cX11_owed 11 = .ok (.iload_n 2, 1) := by decide +kernel
theorem dX11_owed_12 : decode cX11_owed 12 = .ok (.iconst 0, 1) := by decide +kernel
theorem dX11_owed_13 : decode cX11_owed 13 = .ok (.sipush 4000, 3) := by decide +kernel
theorem dX11_owed_16 : decode cX11_owed 16 = .ok (.invokestatic 148, 3) := by decide +kernel
theorem dX11_owed_19 : decode cX11_owed 19 = .ok (.goto 4, 3) := by decide +kernel
theorem dX11_owed_22 : decode cX11_owed 22 = .ok (.iconst (-1), 1) := by decide +kernel
theorem dX11_owed_23 : decode cX11_owed 23 = .ok (.istore_n 3, 1) := by decide +kernel
theorem dX11_owed_24 : decode cX11_owed 24 = .ok (.iload_n 3, 1) := by decide +kernel
theorem dX11_owed_25 : decode cX11_owed 25 = .ok (.ifCond .eq 9, 3) := by decide +kernel
theorem dX11_owed_28 : decode cX11_owed 28 = .ok (.aload_n 0, 1) := by decide +kernel
theorem dX11_owed_29 : decode cX11_owed 29 = .ok (.iload_n 3, 1) := by decide +kernel
theorem dX11_owed_30 : decode cX11_owed 30 = .ok (.invokevirtual 152, 3) := by decide +kernel
theorem dX11_owed_33 : decode cX11_owed 33 = .ok (.ireturn, 1) := by decide +kernel
theorem dX11_owed_34 : decode cX11_owed 34 = .ok (.aload_n 0, 1) := by decide +kernel
theorem dX11_owed_35 : decode cX11_owed 35 = .ok (.getfield 135, 3) := by decide +kernel
theorem dX11_owed_38 : decode cX11_owed 38 = .ok (.iload_n 1, 1) := by decide +kernel
theorem dX11_owed_39 : decode cX11_owed 39 = .ok (.iaload, 1) := by decide +kernel
theorem dX11_owed_40 : decode cX11_owed 40 = .ok (.istore 4, 2) := by decide +kernel
theorem dX11_owed_42 : decode cX11_owed 42 = .ok (.aload_n 0, 1) := by decide +kernel
theorem dX11_owed_43 : decode cX11_owed 43 = .ok (.getfield 160, 3) := by decide +kernel
theorem dX11_owed_46 : decode cX11_owed 46 = .ok (.iconst 1, 1) := by decide +kernel
theorem dX11_owed_47 : decode cX11_owed 47 = .ok (.iadd, 1) := by decide +kernel
theorem dX11_owed_48 : decode cX11_owed 48 = .ok (.istore 5, 2) := by decide +kernel
theorem dX11_owed_50 : decode cX11_owed 50 = .ok (.iload 5, 2) := by decide +kernel
theorem dX11_owed_52 : decode cX11_owed 52 = .ok (.aload_n 0, 1) := by decide +kernel
theorem dX11_owed_53 : decode cX11_owed 53 = .ok (.getfield 160, 3) := by decide +kernel
theorem dX11_owed_56 : decode cX11_owed 56 = .ok (.iload_n 2, 1) := by decide +kernel
theorem dX11_owed_57 : decode cX11_owed 57 = .ok (.iadd, 1) := by decide +kernel
theorem dX11_owed_58 : decode cX11_owed 58 = .ok (.if_icmp .gt 33, 3) := by decide +kernel
theorem dX11_owed_61 : decode cX11_owed 61 = .ok (.iload 5, 2) := by decide +kernel
theorem dX11_owed_63 : decode cX11_owed 63 = .ok (.aload_n 0, 1) := by decide +kernel
theorem dX11_owed_64 : decode cX11_owed 64 = .ok (.getfield 141, 3) := by decide +kernel
theorem dX11_owed_67 : decode cX11_owed 67 = .ok (.iload_n 1, 1) := by decide +kernel
theorem dX11_owed_68 : decode cX11_owed 68 = .ok (.iaload, 1) := by decide +kernel
theorem dX11_owed_69 : decode cX11_owed 69 = .ok (.isub, 1) := by decide +kernel
theorem dX11_owed_70 : decode cX11_owed 70 = .ok (.bipush 30, 2) := by decide +kernel
theorem dX11_owed_72 : decode cX11_owed 72 = .ok (.irem, 1) := by decide +kernel
theorem dX11_owed_73 : decode cX11_owed 73 = .ok (.ifCond .ne 12, 3) := by decide +kernel
theorem dX11_owed_76 : decode cX11_owed 76 = .ok (.aload_n 0, 1) := by decide +kernel
theorem dX11_owed_77 : decode cX11_owed 77 = .ok (.iload_n 1, 1) := by decide +kernel
theorem dX11_owed_78 : decode cX11_owed 78 = .ok (.iload 4, 2) := by decide +kernel
theorem dX11_owed_80 : decode cX11_owed 80 = .ok (.invokevirtual 166, 3) := by decide +kernel
theorem dX11_owed_83 : decode cX11_owed 83 = .ok (.istore 4, 2) := by decide +kernel
theorem dX11_owed_85 : decode cX11_owed 85 = .ok (.iinc 5 1, 3) := by decide +kernel
theorem dX11_owed_88 : decode cX11_owed 88 = .ok (.goto (-38), 3) := by decide +kernel
theorem dX11_owed_91 : decode cX11_owed 91 = .ok (.iload 4, 2) := by decide +kernel
theorem dX11_owed_93 : decode cX11_owed 93 = .ok (.ireturn, 1) := by decide +kernel
theorem dX11_pieceOf_0 : decode cX11_pieceOf 0 = .ok (.aload_n 0, 1) := by decide +kernel
theorem dX11_pieceOf_1 : decode cX11_pieceOf 1 = .ok (.iload_n 1, 1) := by decide +kernel
theorem dX11_pieceOf_2 : decode cX11_pieceOf 2 = .ok (.invokevirtual 190, 3) := by decide +kernel
theorem dX11_pieceOf_5 : decode cX11_pieceOf 5 = .ok (.ifCond .ne 9, 3) := by decide +kernel
theorem dX11_pieceOf_8 : decode cX11_pieceOf 8 = .ok (.aload_n 0, 1) := by decide +kernel
theorem dX11_pieceOf_9 : decode cX11_pieceOf 9 = .ok (.iconst (-1), 1) := by decide +kernel
theorem dX11_pieceOf_10 : decode cX11_pieceOf 10 = .ok (.invokevirtual 152, 3) := by decide +kernel
theorem dX11_pieceOf_13 : decode cX11_pieceOf 13 = .ok (.ireturn, 1) := by decide +kernel
theorem dX11_pieceOf_14 : decode cX11_pieceOf 14 = .ok (.iload_n 2, 1) := by decide +kernel
theorem dX11_pieceOf_15 : decode cX11_pieceOf 15 = .ok (.tableswitch 95 0 6 #[41, 48, 55, 62, 74, 81, 88], 41) := by decide +kernel
theorem dX11_pieceOf_56 : decode cX11_pieceOf 56 = .ok (.aload_n 0, 1) := by decide +kernel
theorem dX11_pieceOf_57 : decode cX11_pieceOf 57 = .ok (.getfield 34, 3) := by decide +kernel
theorem dX11_pieceOf_60 : decode cX11_pieceOf 60 = .ok (.iload_n 1, 1) := by decide +kernel
theorem dX11_pieceOf_61 : decode cX11_pieceOf 61 = .ok (.iaload, 1) := by decide +kernel
theorem dX11_pieceOf_62 : decode cX11_pieceOf 62 = .ok (.ireturn, 1) := by decide +kernel
theorem dX11_pieceOf_63 : decode cX11_pieceOf 63 = .ok (.aload_n 0, 1) := by decide +kernel
theorem dX11_pieceOf_64 : decode cX11_pieceOf 64 = .ok (.getfield 28, 3) := by decide +kernel
theorem dX11_pieceOf_67 : decode cX11_pieceOf 67 = .ok (.iload_n 1, 1) := by decide +kernel
theorem dX11_pieceOf_68 : decode cX11_pieceOf 68 = .ok (.iaload, 1) := by decide +kernel
theorem dX11_pieceOf_69 : decode cX11_pieceOf 69 = .ok (.ireturn, 1) := by decide +kernel
theorem dX11_pieceOf_70 : decode cX11_pieceOf 70 = .ok (.aload_n 0, 1) := by decide +kernel
theorem dX11_pieceOf_71 : decode cX11_pieceOf 71 = .ok (.getfield 31, 3) := by decide +kernel
theorem dX11_pieceOf_74 : decode cX11_pieceOf 74 = .ok (.iload_n 1, 1) := by decide +kernel
theorem dX11_pieceOf_75 : decode cX11_pieceOf 75 = .ok (.iaload, 1) := by decide +kernel
theorem dX11_pieceOf_76 : decode cX11_pieceOf 76 = .ok (.ireturn, 1) := by decide +kernel
theorem dX11_pieceOf_77 : decode cX11_pieceOf 77 = .ok (.aload_n 0, 1) := by decide +kernel
theorem dX11_pieceOf_78 : decode cX11_pieceOf 78 = .ok (.getfield 16, 3) := by decide +kernel
theorem dX11_pieceOf_81 : decode cX11_pieceOf 81 = .ok (.aload_n 0, 1) := by decide +kernel
theorem dX11_pieceOf_82 : decode cX11_pieceOf 82 = .ok (.getfield 25, 3) := by decide +kernel
theorem dX11_pieceOf_85 : decode cX11_pieceOf 85 = .ok (.iload_n 1, 1) := by decide +kernel
theorem dX11_pieceOf_86 : decode cX11_pieceOf 86 = .ok (.iaload, 1) := by decide +kernel
theorem dX11_pieceOf_87 : decode cX11_pieceOf 87 = .ok (.iaload, 1) := by decide +kernel
theorem dX11_pieceOf_88 : decode cX11_pieceOf 88 = .ok (.ireturn, 1) := by decide +kernel
theorem dX11_pieceOf_89 : decode cX11_pieceOf 89 = .ok (.aload_n 0, 1) := by decide +kernel
theorem dX11_pieceOf_90 : decode cX11_pieceOf 90 = .ok (.getfield 37, 3) := by decide +kernel
theorem dX11_pieceOf_93 : decode cX11_pieceOf 93 = .ok (.iload_n 1, 1) := by decide +kernel
theorem dX11_pieceOf_94 : decode cX11_pieceOf 94 = .ok (.iaload, 1) := by decide +kernel
theorem dX11_pieceOf_95 : decode cX11_pieceOf 95 = .ok (.ireturn, 1) := by decide +kernel
theorem dX11_pieceOf_96 : decode cX11_pieceOf 96 = .ok (.aload_n 0, 1) := by decide +kernel
theorem dX11_pieceOf_97 : decode cX11_pieceOf 97 = .ok (.getfield 40, 3) := by decide +kernel
theorem dX11_pieceOf_100 : decode cX11_pieceOf 100 = .ok (.iload_n 1, 1) := by decide +kernel
theorem dX11_pieceOf_101 : decode cX11_pieceOf 101 = .ok (.iaload, 1) := by decide +kernel
theorem dX11_pieceOf_102 : decode cX11_pieceOf 102 = .ok (.ireturn, 1) := by decide +kernel
theorem dX11_pieceOf_103 : decode cX11_pieceOf 103 = .ok (.aload_n 0, 1) := by decide +kernel
theorem dX11_pieceOf_104 : decode cX11_pieceOf 104 = .ok (.getfield 43, 3) := by decide +kernel
theorem dX11_pieceOf_107 : decode cX11_pieceOf 107 = .ok (.iload_n 1, 1) := by decide +kernel
theorem dX11_pieceOf_108 : decode cX11_pieceOf 108 = .ok (.iaload, 1) := by decide +kernel
theorem dX11_pieceOf_109 : decode cX11_pieceOf 109 = .ok (.ireturn, 1) := by decide +kernel
theorem dX11_pieceOf_110 : decode cX11_pieceOf 110 = .ok (.aload_n 0, 1) := by decide +kernel
theorem dX11_pieceOf_111 : decode cX11_pieceOf 111 = .ok (.bipush (-2), 2) := by decide +kernel
theorem dX11_pieceOf_113 : decode cX11_pieceOf 113 = .ok (.invokevirtual 152, 3) := by decide +kernel
theorem dX11_pieceOf_116 : decode cX11_pieceOf 116 = .ok (.ireturn, 1) := by decide +kernel
theorem dX11_count_0 : decode cX11_count 0 = .ok (.iload_n 1, 1) := by decide +kernel
theorem dX11_count_1 : decode cX11_count 1 = .ok (.bipush 10, 2) := by decide +kernel
theorem dX11_count_3 : decode cX11_count 3 = .ok (.if_icmp .le 19, 3) := by decide +kernel
theorem dX11_count_6 : decode cX11_count 6 = .ok (.iload_n 1, 1) := by decide +kernel
theorem dX11_count_7 : decode cX11_count 7 = .ok (.bipush 17, 2) := by decide +kernel
theorem dX11_count_9 : decode cX11_count 9 = .ok (.if_icmp .ge 13, 3) := by decide +kernel
theorem dX11_count_12 : decode cX11_count 12 = .ok (.aload_n 0, 1) := by decide +kernel
theorem dX11_count_13 : decode cX11_count 13 = .ok (.getfield 7, 3) := by decide +kernel
theorem dX11_count_16 : decode cX11_count 16 = .ok (.iload_n 1, 1) := by decide +kernel
theorem dX11_count_17 : decode cX11_count 17 = .ok (.bipush 10, 2) := by decide +kernel
theorem dX11_count_19 : decode cX11_count 19 = .ok (.isub, 1) := by decide +kernel
theorem dX11_count_20 : decode cX11_count 20 = .ok (.iaload, 1) := by decide +kernel
theorem dX11_count_21 : decode cX11_count 21 = .ok (.ireturn, 1) := by decide +kernel
theorem dX11_count_22 : decode cX11_count 22 = .ok (.iload_n 1, 1) := by decide +kernel
theorem dX11_count_23 : decode cX11_count 23 = .ok (.bipush 20, 2) := by decide +kernel
theorem dX11_count_25 : decode cX11_count 25 = .ok (.isub, 1) := by decide +kernel
theorem dX11_count_26 : decode cX11_count 26 = .ok (.aload_n 0, 1) := by decide +kernel
theorem dX11_count_27 : decode cX11_count 27 = .ok (.getfield 156, 3) := by decide +kernel
theorem dX11_count_30 : decode cX11_count 30 = .ok (.invokestatic 144, 3) := by decide +kernel
theorem dX11_count_33 : decode cX11_count 33 = .ok (.ifCond .eq 13, 3) := by decide +kernel
theorem dX11_count_36 : decode cX11_count 36 = .ok (.aload_n 0, 1) := by decide +kernel
theorem dX11_count_37 : decode cX11_count 37 = .ok (.getfield 19, 3) := by decide +kernel
theorem dX11_count_40 : decode cX11_count 40 = .ok (.iload_n 1, 1) := by decide +kernel
theorem dX11_count_41 : decode cX11_count 41 = .ok (.bipush 20, 2) := by decide +kernel
theorem dX11_count_43 : decode cX11_count 43 = .ok (.isub, 1) := by decide +kernel
theorem dX11_count_44 : decode cX11_count 44 = .ok (.iaload, 1) := by decide +kernel
theorem dX11_count_45 : decode cX11_count 45 = .ok (.ireturn, 1) := by decide +kernel
theorem dX11_count_46 : decode cX11_count 46 = .ok (.iconst 0, 1) := by decide +kernel
theorem dX11_count_47 : decode cX11_count 47 = .ok (.istore_n 2, 1) := by decide +kernel
theorem dX11_count_48 : decode cX11_count 48 = .ok (.iload_n 1, 1) := by decide +kernel
theorem dX11_count_49 : decode cX11_count 49 = .ok (.tableswitch 127 0 10 #[59, 64, 69, 74, 74, 74, 74, 74, 112, 117, 122], 59) := by decide +kernel
theorem dX11_count_108 : decode cX11_count 108 = .ok (.aload_n 0, 1) := by decide +kernel
theorem dX11_count_109 : decode cX11_count 109 = .ok (.getfield 160, 3) := by decide +kernel
theorem dX11_count_112 : decode cX11_count 112 = .ok (.ireturn, 1) := by decide +kernel
theorem dX11_count_113 : decode cX11_count 113 = .ok (.aload_n 0, 1) := by decide +kernel
theorem dX11_count_114 : decode cX11_count 114 = .ok (.getfield 156, 3) := by decide +kernel
theorem dX11_count_117 : decode cX11_count 117 = .ok (.ireturn, 1) := by decide +kernel
theorem dX11_count_118 : decode cX11_count 118 = .ok (.aload_n 0, 1) := by decide +kernel
theorem dX11_count_119 : decode cX11_count 119 = .ok (.getfield 174, 3) := by decide +kernel
theorem dX11_count_122 : decode cX11_count 122 = .ok (.ireturn, 1) := by decide +kernel
theorem dX11_count_123 : decode cX11_count 123 = .ok (.iconst 0, 1) := by decide +kernel
theorem dX11_count_124 : decode cX11_count 124 = .ok (.istore_n 3, 1) := by decide +kernel
theorem dX11_count_125 : decode cX11_count 125 = .ok (.iload_n 3, 1) := by decide +kernel
theorem dX11_count_126 : decode cX11_count 126 = .ok (.aload_n 0, 1) := by decide +kernel
theorem dX11_count_127 : decode cX11_count 127 = .ok (.getfield 174, 3) := by decide +kernel
theorem dX11_count_130 : decode cX11_count 130 = .ok (.if_icmp .ge 29, 3) := by decide +kernel
theorem dX11_count_133 : decode cX11_count 133 = .ok (.iload_n 2, 1) := by decide +kernel
theorem dX11_count_134 : decode cX11_count 134 = .ok (.aload_n 0, 1) := by decide +kernel
theorem dX11_count_135 : decode cX11_count 135 = .ok (.getfield 34, 3) := by decide +kernel
theorem dX11_count_138 : decode cX11_count 138 = .ok (.iload_n 3, 1) := by decide +kernel
theorem dX11_count_139 : decode cX11_count 139 = .ok (.iaload, 1) := by decide +kernel
theorem dX11_count_140 : decode cX11_count 140 = .ok (.iload_n 1, 1) := by decide +kernel
theorem dX11_count_141 : decode cX11_count 141 = .ok (.iconst 3, 1) := by decide +kernel
theorem dX11_count_142 : decode cX11_count 142 = .ok (.isub, 1) := by decide +kernel
theorem dX11_count_143 : decode cX11_count 143 = .ok (.if_icmp .ne 7, 3) := by decide +kernel
theorem dX11_count_146 : decode cX11_count 146 = .ok (.iconst 1, 1) := by decide +kernel
theorem dX11_count_147 : decode cX11_count 147 = .ok (.goto 4, 3) := by decide +kernel
theorem dX11_count_150 : decode cX11_count 150 = .ok (.iconst 0, 1) := by decide +kernel
theorem dX11_count_151 : decode cX11_count 151 = .ok (.iadd, 1) := by decide +kernel
theorem dX11_count_152 : decode cX11_count 152 = .ok (.istore_n 2, 1) := by decide +kernel
theorem dX11_count_153 : decode cX11_count 153 = .ok (.iinc 3 1, 3) := by decide +kernel
theorem dX11_count_156 : decode cX11_count 156 = .ok (.goto (-31), 3) := by decide +kernel
theorem dX11_count_159 : decode cX11_count 159 = .ok (.iload_n 2, 1) := by decide +kernel
theorem dX11_count_160 : decode cX11_count 160 = .ok (.ireturn, 1) := by decide +kernel
theorem dX11_count_161 : decode cX11_count 161 = .ok (.aload_n 0, 1) := by decide +kernel
theorem dX11_count_162 : decode cX11_count 162 = .ok (.getfield 177, 3) := by decide +kernel
theorem dX11_count_165 : decode cX11_count 165 = .ok (.ireturn, 1) := by decide +kernel
theorem dX11_count_166 : decode cX11_count 166 = .ok (.aload_n 0, 1) := by decide +kernel
theorem dX11_count_167 : decode cX11_count 167 = .ok (.getfield 209, 3) := by decide +kernel
theorem dX11_count_170 : decode cX11_count 170 = .ok (.ireturn, 1) := by decide +kernel
theorem dX11_count_171 : decode cX11_count 171 = .ok (.aload_n 0, 1) := by decide +kernel
theorem dX11_count_172 : decode cX11_count 172 = .ok (.getfield 256, 3) := by decide +kernel
theorem dX11_count_175 : decode cX11_count 175 = .ok (.ireturn, 1) := by decide +kernel
theorem dX11_count_176 : decode cX11_count 176 = .ok (.bipush (-9), 2) := by decide +kernel
theorem dX11_count_178 : decode cX11_count 178 = .ok (.ireturn, 1) := by decide +kernel
