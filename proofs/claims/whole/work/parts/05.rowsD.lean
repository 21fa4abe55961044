theorem dX11_init_0 : decode cX11_init 0 = .ok (.aload_n 0, 1) := by decide +kernel
theorem dX11_init_1 : decode cX11_init 1 = .ok (.invokespecial 1, 3) := by decide +kernel
theorem dX11_init_4 : decode cX11_init 4 = .ok (.aload_n 0, 1) := by decide +kernel
theorem dX11_init_5 : decode cX11_init 5 = .ok (.bipush 6, 2) := by decide +kernel
theorem dX11_init_7 : decode cX11_init 7 = .ok (.newarray .int, 2) := by decide +kernel
theorem dX11_init_9 : decode cX11_init 9 = .ok (.putfield 7, 3) := by decide +kernel
theorem dX11_init_12 : decode cX11_init 12 = .ok (.aload_n 0, 1) := by decide +kernel
theorem dX11_init_13 : decode cX11_init 13 = .ok (.bipush 6, 2) := by decide +kernel
theorem dX11_init_15 : decode cX11_init 15 = .ok (.newarray .int, 2) := by decide +kernel
theorem dX11_init_17 : decode cX11_init 17 = .ok (.putfield 13, 3) := by decide +kernel
theorem dX11_init_20 : decode cX11_init 20 = .ok (.aload_n 0, 1) := by decide +kernel
theorem dX11_init_21 : decode cX11_init 21 = .ok (.bipush 30, 2) := by decide +kernel
theorem dX11_init_23 : decode cX11_init 23 = .ok (.newarray .int, 2) := by decide +kernel
theorem dX11_init_25 : decode cX11_init 25 = .ok (.putfield 16, 3) := by decide +kernel
theorem dX11_init_28 : decode cX11_init 28 = .ok (.aload_n 0, 1) := by decide +kernel
theorem dX11_init_29 : decode cX11_init 29 = .ok (.bipush 90, 2) := by decide +kernel
theorem dX11_init_31 : decode cX11_init 31 = .ok (.newarray .int, 2) := by decide +kernel
theorem dX11_init_33 : decode cX11_init 33 = .ok (.putfield 19, 3) := by decide +kernel
theorem dX11_init_36 : decode cX11_init 36 = .ok (.aload_n 0, 1) := by decide +kernel
theorem dX11_init_37 : decode cX11_init 37 = .ok (.bipush 40, 2) := by decide +kernel
theorem dX11_init_39 : decode cX11_init 39 = .ok (.newarray .int, 2) := by decide +kernel
theorem dX11_init_41 : decode cX11_init 41 = .ok (.putfield 22, 3) := by decide +kernel
theorem dX11_init_44 : decode cX11_init 44 = .ok (.aload_n 0, 1) := by decide +kernel
theorem dX11_init_45 : decode cX11_init 45 = .ok (.bipush 40, 2) := by decide +kernel
theorem dX11_init_47 : decode cX11_init 47 = .ok (.newarray .int, 2) := by decide +kernel
theorem dX11_init_49 : decode cX11_init 49 = .ok (.putfield 25, 3) := by decide +kernel
theorem dX11_init_52 : decode cX11_init 52 = .ok (.aload_n 0, 1) := by decide +kernel
theorem dX11_init_53 : decode cX11_init 53 = .ok (.bipush 40, 2) := by decide +kernel
theorem dX11_init_55 : decode cX11_init 55 = .ok (.newarray .int, 2) := by decide +kernel
theorem dX11_init_57 : decode cX11_init 57 = .ok (.putfield 28, 3) := by decide +kernel
theorem dX11_init_60 : decode cX11_init 60 = .ok (.aload_n 0, 1) := by decide +kernel
theorem dX11_init_61 : decode cX11_init 61 = .ok (.bipush 40, 2) := by decide +kernel
theorem dX11_init_63 : decode cX11_init 63 = .ok (.newarray .int, 2) := by decide +kernel
theorem dX11_init_65 : decode cX11_init 65 = .ok (.putfield 31, 3) := by decide +kernel
theorem dX11_init_68 : decode cX11_init 68 = .ok (.aload_n 0, 1) := by decide +kernel
theorem dX11_init_69 : decode cX11_init 69 = .ok (.bipush 40, 2) := by decide +kernel
theorem dX11_init_71 : decode cX11_init 71 = .ok (.newarray .boolean, 2) := by decide +kernel
theorem dX11_init_73 : decode cX11_init 73 = .ok (.putfield 34, 3) := by decide +kernel
theorem dX11_init_76 : decode cX11_init 76 = .ok (.aload_n 0, 1) := by decide +kernel
theorem dX11_init_77 : decode cX11_init 77 = .ok (.bipush 25, 2) := by decide +kernel
theorem dX11_init_79 : decode cX11_init 79 = .ok (.newarray .int, 2) := by decide +kernel
theorem dX11_init_81 : decode cX11_init 81 = .ok (.putfield 38, 3) := by decide +kernel
theorem dX11_init_84 : decode cX11_init 84 = .ok (.aload_n 0, 1) := by decide +kernel
theorem dX11_init_85 : decode cX11_init 85 = .ok (.bipush 12, 2) := by decide +kernel
theorem dX11_init_87 : decode cX11_init 87 = .ok (.newarray .int, 2) := by decide +kernel
theorem dX11_init_89 : decode cX11_init 89 = .ok (.putfield 41, 3) := by decide +kernel
theorem dX11_init_92 : decode cX11_init 92 = .ok (.aload_n 0, 1) := by decide +kernel
theorem dX11_init_93 : decode cX11_init 93 = .ok (.bipush 12, 2) := by decide +kernel
theorem dX11_init_95 : decode cX11_init 95 = .ok (.newarray .int, 2) := by decide +kernel
theorem dX11_init_97 : decode cX11_init 97 = .ok (.putfield 44, 3) := by decide +kernel
theorem dX11_init_100 : decode cX11_init 100 = .ok (.aload_n 0, 1) := by decide +kernel
theorem dX11_init_101 : decode cX11_init 101 = .ok (.bipush 12, 2) := by decide +kernel
theorem dX11_init_103 : decode cX11_init 103 = .ok (.newarray .int, 2) := by decide +kernel
theorem dX11_init_105 : decode cX11_init 105 = .ok (.putfield 47, 3) := by decide +kernel
theorem dX11_init_108 : decode cX11_init 108 = .ok (.aload_n 0, 1) := by decide +kernel
theorem dX11_init_109 : decode cX11_init 109 = .ok (.bipush 12, 2) := by decide +kernel
theorem dX11_init_111 : decode cX11_init 111 = .ok (.newarray .int, 2) := by decide +kernel
theorem dX11_init_113 : decode cX11_init 113 = .ok (.putfield 50, 3) := by decide +kernel
theorem dX11_init_116 : decode cX11_init 116 = .ok (.aload_n 0, 1) := by decide +kernel
theorem dX11_init_117 : decode cX11_init 117 = .ok (.bipush 12, 2) := by decide +kernel
theorem dX11_init_119 : decode cX11_init 119 = .ok (.newarray .boolean, 2) := by decide +kernel
theorem dX11_init_121 : decode cX11_init 121 = .ok (.putfield 53, 3) := by decide +kernel
theorem dX11_init_124 : decode cX11_init 124 = .ok (.aload_n 0, 1) := by decide +kernel
theorem dX11_init_125 : decode cX11_init 125 = .ok (.bipush 12, 2) := by decide +kernel
theorem dX11_init_127 : decode cX11_init 127 = .ok (.newarray .int, 2) := by decide +kernel
theorem dX11_init_129 : decode cX11_init 129 = .ok (.putfield 56, 3) := by decide +kernel
theorem dX11_init_132 : decode cX11_init 132 = .ok (.aload_n 0, 1) := by decide +kernel
theorem dX11_init_133 : decode cX11_init 133 = .ok (.bipush 60, 2) := by decide +kernel
theorem dX11_init_135 : decode cX11_init 135 = .ok (.newarray .int, 2) := by decide +kernel
theorem dX11_init_137 : decode cX11_init 137 = .ok (.putfield 59, 3) := by decide +kernel
theorem dX11_init_140 : decode cX11_init 140 = .ok (.aload_n 0, 1) := by decide +kernel
theorem dX11_init_141 : decode cX11_init 141 = .ok (.sipush 1000, 3) := by decide +kernel
theorem dX11_init_144 : decode cX11_init 144 = .ok (.newarray .int, 2) := by decide +kernel
theorem dX11_init_146 : decode cX11_init 146 = .ok (.putfield 62, 3) := by decide +kernel
theorem dX11_init_149 : decode cX11_init 149 = .ok (.aload_n 0, 1) := by decide +kernel
theorem dX11_init_150 : decode cX11_init 150 = .ok (.sipush 1000, 3) := by decide +kernel
theorem dX11_init_153 : decode cX11_init 153 = .ok (.newarray .int, 2) := by decide +kernel
theorem dX11_init_155 : decode cX11_init 155 = .ok (.putfield 65, 3) := by decide +kernel
theorem dX11_init_158 : decode cX11_init 158 = .ok (.aload_n 0, 1) := by decide +kernel
theorem dX11_init_159 : decode cX11_init 159 = .ok (.sipush 1000, 3) := by decide +kernel
theorem dX11_init_162 : decode cX11_init 162 = .ok (.newarray .int, 2) := by decide +kernel
theorem dX11_init_164 : decode cX11_init 164 = .ok (.putfield 68, 3) := by decide +kernel
theorem dX11_init_167 : decode cX11_init 167 = .ok (.aload_n 0, 1) := by decide +kernel
theorem dX11_init_168 : decode cX11_init 168 = .ok (.sipush 1000, 3) := by decide +kernel
theorem dX11_init_171 : decode cX11_init 171 = .ok (.newarray .long, 2) := by decide +kernel
theorem dX11_init_173 : decode cX11_init 173 = .ok (.putfield 71, 3) := by decide +kernel
theorem dX11_init_176 : decode cX11_init 176 = .ok (.aload_n 0, 1) := by decide +kernel
theorem dX11_init_177 : decode cX11_init 177 = .ok (.sipush 130, 3) := by decide +kernel
theorem dX11_init_180 : decode cX11_init 180 = .ok (.newarray .long, 2) := by decide +kernel
theorem dX11_init_182 : decode cX11_init 182 = .ok (.putfield 75, 3) := by decide +kernel
theorem dX11_init_185 : decode cX11_init 185 = .ok (.aload_n 0, 1) := by decide +kernel
theorem dX11_init_186 : decode cX11_init 186 = .ok (.sipush 130, 3) := by decide +kernel
theorem dX11_init_189 : decode cX11_init 189 = .ok (.newarray .int, 2) := by decide +kernel
theorem dX11_init_191 : decode cX11_init 191 = .ok (.putfield 78, 3) := by decide +kernel
theorem dX11_init_194 : decode cX11_init 194 = .ok (.aload_n 0, 1) := by decide +kernel
theorem dX11_init_195 : decode cX11_init 195 = .ok (.iconst 4, 1) := by decide +kernel
theorem dX11_init_196 : decode cX11_init 196 = .ok (.newarray .int, 2) := by decide +kernel
theorem dX11_init_198 : decode cX11_init 198 = .ok (.putfield 81, 3) := by decide +kernel
theorem dX11_init_201 : decode cX11_init 201 = .ok (.aload_n 0, 1) := by decide +kernel
theorem dX11_init_202 : decode cX11_init 202 = .ok (.iconst 4, 1) := by decide +kernel
theorem dX11_init_203 : decode cX11_init 203 = .ok (.newarray .int, 2) := by decide +kernel
theorem dX11_init_205 : decode cX11_init 205 = .ok (.putfield 84, 3) := by decide +kernel
theorem dX11_init_208 : decode cX11_init 208 = .ok (.aload_n 0, 1) := by decide +kernel
theorem dX11_init_209 : decode cX11_init 209 = .ok (.iconst 4, 1) := by decide +kernel
theorem dX11_init_210 : decode cX11_init 210 = .ok (.newarray .int, 2) := by decide +kernel
theorem dX11_init_212 : decode cX11_init 212 = .ok (.putfield 87, 3) := by decide +kernel
theorem dX11_init_215 : decode cX11_init 215 = .ok (.aload_n 0, 1) := by decide +kernel
theorem dX11_init_216 : decode cX11_init 216 = .ok (.iconst 4, 1) := by decide +kernel
theorem dX11_init_217 : decode cX11_init 217 = .ok (.newarray .int, 2) := by decide +kernel
theorem dX11_init_219 : decode cX11_init 219 = .ok (.putfield 90, 3) := by decide +kernel
theorem dX11_init_222 : decode cX11_init 222 = .ok (.aload_n 0, 1) := by decide +kernel
theorem dX11_init_223 : decode cX11_init 223 = .ok (.iconst 1, 1) := by decide +kernel
theorem dX11_init_224 : decode cX11_init 224 = .ok (.putfield 93, 3) := by decide +kernel
theorem dX11_init_227 : decode cX11_init 227 = .ok (.aload_n 0, 1) := by decide +kernel
theorem dX11_init_228 : decode cX11_init 228 = .ok (.ldc 97, 2) := by decide +kernel
theorem dX11_init_230 : decode cX11_init 230 = .ok (.newarray .int, 2) := by decide +kernel
theorem dX11_init_232 : decode cX11_init 232 = .ok (.putfield 98, 3) := by decide +kernel
theorem dX11_init_235 : decode cX11_init 235 = .ok (.aload_n 0, 1) := by decide +kernel
theorem dX11_init_236 : decode cX11_init 236 = .ok (.iconst 2, 1) := by decide +kernel
theorem dX11_init_237 : decode cX11_init 237 = .ok (.newarray .int, 2) := by decide +kernel
theorem dX11_init_239 : decode cX11_init 239 = .ok (.putfield 101, 3) := by decide +kernel
theorem dX11_init_242 : decode cX11_init 242 = .ok (.aload_n 0, 1) := by decide +kernel
theorem dX11_init_243 : decode cX11_init 243 = .ok (.bipush 48, 2) := by decide +kernel
theorem dX11_init_245 : decode cX11_init 245 = .ok (.newarray .int, 2) := by decide +kernel
theorem dX11_init_247 : decode cX11_init 247 = .ok (.putfield 104, 3) := by decide +kernel
theorem dX11_init_250 : decode cX11_init 250 = .ok (.aload_n 0, 1) := by decide +kernel
theorem dX11_init_251 : decode cX11_init 251 = .ok (.bipush 16, 2) := by decide +kernel
theorem dX11_init_253 : decode cX11_init 253 = .ok (.newarray .int, 2) := by decide +kernel
theorem dX11_init_255 : decode cX11_init 255 = .ok (.putfield 107, 3) := by decide +kernel
theorem dX11_init_258 : decode cX11_init 258 = .ok (.aload_n 0, 1) := by decide +kernel
theorem dX11_init_259 : decode cX11_init 259 = .ok (.sipush 2304, 3) := by decide +kernel
theorem dX11_init_262 : decode cX11_init 262 = .ok (.newarray .int, 2) := by decide +kernel
theorem dX11_init_264 : decode cX11_init 264 = .ok (.putfield 110, 3) := by decide +kernel
theorem dX11_init_267 : decode cX11_init 267 = .ok (.aload_n 0, 1) := by decide +kernel
theorem dX11_init_268 : decode cX11_init 268 = .ok (.sipush 3721, 3) := by decide +kernel
theorem dX11_init_271 : decode cX11_init 271 = .ok (.newarray .long, 2) := by decide +kernel
theorem dX11_init_273 : decode cX11_init 273 = .ok (.putfield 113, 3) := by decide +kernel
theorem dX11_init_276 : decode cX11_init 276 = .ok (.aload_n 0, 1) := by decide +kernel
theorem dX11_init_277 : decode cX11_init 277 = .ok (.bipush 60, 2) := by decide +kernel
theorem dX11_init_279 : decode cX11_init 279 = .ok (.newarray .int, 2) := by decide +kernel
theorem dX11_init_281 : decode cX11_init 281 = .ok (.putfield 116, 3) := by decide +kernel
theorem dX11_init_284 : decode cX11_init 284 = .ok (.aload_n 0, 1) := by decide +kernel
theorem dX11_init_285 : decode cX11_init 285 = .ok (.bipush 60, 2) := by decide +kernel
theorem dX11_init_287 : decode cX11_init 287 = .ok (.newarray .int, 2) := by decide +kernel
theorem dX11_init_289 : decode cX11_init 289 = .ok (.putfield 119, 3) := by decide +kernel
theorem dX11_init_292 : decode cX11_init 292 = .ok (.aload_n 0, 1) := by decide +kernel
theorem dX11_init_293 : decode cX11_init 293 = .ok (.bipush 60, 2) := by decide +kernel
theorem dX11_init_295 : decode cX11_init 295 = .ok (.newarray .int, 2) := by decide +kernel
theorem dX11_init_297 : decode cX11_init 297 = .ok (.putfield 122, 3) := by decide +kernel
theorem dX11_init_300 : decode cX11_init 300 = .ok (.iconst 0, 1) := by decide +kernel
theorem dX11_init_301 : decode cX11_init 301 = .ok (.istore_n 1, 1) := by decide +kernel
theorem dX11_init_302 : decode cX11_init 302 = .ok (.iload_n 1, 1) := by decide +kernel
theorem dX11_init_303 : decode cX11_init 303 = .ok (.bipush 25, 2) := by decide +kernel
theorem dX11_init_305 : decode cX11_init 305 = .ok (.if_icmp .ge 29, 3) := by decide +kernel
theorem dX11_init_308 : decode cX11_init 308 = .ok (.aload_n 0, 1) := by decide +kernel
theorem dX11_init_309 : decode cX11_init 309 = .ok (.getfield 38, 3) := by decide +kernel
theorem dX11_init_312 : decode cX11_init 312 = .ok (.iload_n 1, 1) := by decide +kernel
theorem dX11_init_313 : decode cX11_init 313 = .ok (.iload_n 1, 1) := by decide +kernel
theorem dX11_init_314 : decode cX11_init 314 = .ok (.iconst 5, 1) := by decide +kernel
theorem dX11_init_315 : decode cX11_init 315 = .ok (.idiv, 1) := by decide +kernel
theorem dX11_init_316 : decode cX11_init 316 = .ok (.iload_n 1, 1) := by decide +kernel
theorem dX11_init_317 : decode cX11_init 317 = .ok (.iconst 5, 1) := by decide +kernel
theorem dX11_init_318 : decode cX11_init 318 = .ok (.irem, 1) := by decide +kernel
theorem dX11_init_319 : decode cX11_init 319 = .ok (.if_icmp .ne 7, 3) := by decide +kernel
theorem dX11_init_322 : decode cX11_init 322 = .ok (.iconst 0, 1) := by decide +kernel
theorem dX11_init_323 : decode cX11_init 323 = .ok (.goto 4, 3) := by decide +kernel
theorem dX11_init_326 : decode cX11_init 326 = .ok (.iconst 1, 1) := by decide +kernel
theorem dX11_init_327 : decode cX11_init 327 = .ok (.iastore, 1) := by decide +kernel
theorem dX11_init_328 : decode cX11_init 328 = .ok (.iinc 1 1, 3) := by decide +kernel
theorem dX11_init_331 : decode cX11_init 331 = .ok (.goto (-29), 3) := by decide +kernel
theorem dX11_init_334 : decode cX11_init 334 = .ok (.iconst 0, 1) := by decide +kernel
theorem dX11_init_335 : decode cX11_init 335 = .ok (.istore_n 1, 1) := by decide +kernel
theorem dX11_init_336 : decode cX11_init 336 = .ok (.iload_n 1, 1) := by decide +kernel
theorem dX11_init_337 : decode cX11_init 337 = .ok (.iconst 4, 1) := by decide +kernel
theorem dX11_init_338 : decode cX11_init 338 = .ok (.if_icmp .ge 41, 3) := by decide +kernel
theorem dX11_init_341 : decode cX11_init 341 = .ok (.aload_n 0, 1) := by decide +kernel
theorem dX11_init_342 : decode cX11_init 342 = .ok (.getfield 81, 3) := by decide +kernel
theorem dX11_init_345 : decode cX11_init 345 = .ok (.iload_n 1, 1) := by decide +kernel
theorem dX11_init_346 : decode cX11_init 346 = .ok (.bipush 100, 2) := by decide +kernel
theorem dX11_init_348 : decode cX11_init 348 = .ok (.iastore, 1) := by decide +kernel
theorem dX11_init_349 : decode cX11_init 349 = .ok (.aload_n 0, 1) := by decide +kernel
theorem dX11_init_350 : decode cX11_init 350 = .ok (.getfield 84, 3) := by decide +kernel
theorem dX11_init_353 : decode cX11_init 353 = .ok (.iload_n 1, 1) := by decide +kernel
theorem dX11_init_354 : decode cX11_init 354 = .ok (.bipush 100, 2) := by decide +kernel
theorem dX11_init_356 : decode cX11_init 356 = .ok (.iastore, 1) := by decide +kernel
theorem dX11_init_357 : decode cX11_init 357 = .ok (.aload_n 0, 1) := by decide +kernel
theorem dX11_init_358 : decode cX11_init 358 = .ok (.getfield 87, 3) := by decide +kernel
theorem dX11_init_361 : decode cX11_init 361 = .ok (.iload_n 1, 1) := by decide +kernel
theorem dX11_init_362 : decode cX11_init 362 = .ok (.bipush 10, 2) := by decide +kernel
theorem dX11_init_364 : decode cX11_init 364 = .ok (.iastore, 1) := by decide +kernel
theorem dX11_init_365 : decode cX11_init 365 = .ok (.aload_n 0, 1) := by decide +kernel
theorem dX11_init_366 : decode cX11_init 366 = .ok (.getfield 90, 3) := by decide +kernel
theorem dX11_init_369 : decode cX11_init 369 = .ok (.iload_n 1, 1) := by decide +kernel
theorem dX11_init_370 : decode cX11_init 370 = .ok (.bipush 20, 2) := by decide +kernel
theorem dX11_init_372 : decode cX11_init 372 = .ok (.iastore, 1) := by decide +kernel
theorem dX11_init_373 : decode cX11_init 373 = .ok (.iinc 1 1, 3) := by decide +kernel
theorem dX11_init_376 : decode cX11_init 376 = .ok (.goto (-40), 3) := by decide +kernel
theorem dX11_init_379 : decode cX11_init 379 = .ok (.iconst 0, 1) := by decide +kernel
theorem dX11_init_380 : decode cX11_init 380 = .ok (.istore_n 1, 1) := by decide +kernel
theorem dX11_init_381 : decode cX11_init 381 = .ok (.iload_n 1, 1) := by decide +kernel
theorem dX11_init_382 : decode cX11_init 382 = .ok (.bipush 61, 2) := by decide +kernel
theorem dX11_init_384 : decode cX11_init 384 = .ok (.if_icmp .ge 77, 3) := by decide +kernel
theorem dX11_init_387 : decode cX11_init 387 = .ok (.iconst 0, 1) := by decide +kernel
theorem dX11_init_388 : decode cX11_init 388 = .ok (.istore_n 2, 1) := by decide +kernel
theorem dX11_init_389 : decode cX11_init 389 = .ok (.iload_n 2, 1) := by decide +kernel
theorem dX11_init_390 : decode cX11_init 390 = .ok (.iload_n 1, 1) := by decide +kernel
theorem dX11_init_391 : decode cX11_init 391 = .ok (.if_icmp .gt 64, 3) := by decide +kernel
theorem dX11_init_394 : decode cX11_init 394 = .ok (.aload_n 0, 1) := by decide +kernel
theorem dX11_init_395 : decode cX11_init 395 = .ok (.getfield 113, 3) := by decide +kernel
theorem dX11_init_398 : decode cX11_init 398 = .ok (.bipush 61, 2) := by decide +kernel
theorem dX11_init_400 : decode cX11_init 400 = .ok (.iload_n 1, 1) := by decide +kernel
theorem dX11_init_401 : decode cX11_init 401 = .ok (.imul, 1) := by decide +kernel
theorem dX11_init_402 : decode cX11_init 402 = .ok (.iload_n 2, 1) := by decide +kernel
theorem dX11_init_403 : decode cX11_init 403 = .ok (.iadd, 1) := by decide +kernel
theorem dX11_init_404 : decode cX11_init 404 = .ok (.iload_n 2, 1) := by decide +kernel
theorem dX11_init_405 : decode cX11_init 405 = .ok (.ifCond .eq 8, 3) := by decide +kernel
theorem dX11_init_408 : decode cX11_init 408 = .ok (.iload_n 2, 1) := by decide +kernel
theorem dX11_init_409 : decode cX11_init 409 = .ok (.iload_n 1, 1) := by decide +kernel
theorem dX11_init_410 : decode cX11_init 410 = .ok (.if_icmp .ne 7, 3) := by decide +kernel
theorem dX11_init_413 : decode cX11_init 413 = .ok (.lconst 1, 1) := by decide +kernel
theorem dX11_init_414 : decode cX11_init 414 = .ok (.goto 34, 3) := by decide +kernel
theorem dX11_init_417 : decode cX11_init 417 = .ok (.aload_n 0, 1) := by decide +kernel
theorem dX11_init_418 : decode cX11_init 418 = .ok (.getfield 113, 3) := by decide +kernel
theorem dX11_init_421 : decode cX11_init 421 = .ok (.bipush 61, 2) := by decide +kernel
theorem dX11_init_423 : decode cX11_init 423 = .ok (.iload_n 1, 1) := by decide +kernel
theorem dX11_init_424 : decode cX11_init 424 = .ok (.imul, 1) := by decide +kernel
theorem dX11_init_425 : decode cX11_init 425 = .ok (.bipush 61, 2) := by decide +kernel
theorem dX11_init_427 : decode cX11_init 427 = .ok (.isub, 1) := by decide +kernel
theorem dX11_init_428 : decode cX11_init 428 = .ok (.iload_n 2, 1) := by decide +kernel
theorem dX11_init_429 : decode cX11_init 429 = .ok (.iadd, 1) := by decide +kernel
theorem dX11_init_430 : decode cX11_init 430 = .ok (.iconst 1, 1) := by decide +kernel
theorem dX11_init_431 : decode cX11_init 431 = .ok (.isub, 1) := by decide +kernel
theorem dX11_init_432 : decode cX11_init 432 = .ok (.laload, 1) := by decide +kernel
theorem dX11_init_433 : decode cX11_init 433 = .ok (.aload_n 0, 1) := by decide +kernel
theorem dX11_init_434 : decode cX11_init 434 = .ok (.getfield 113, 3) := by decide +kernel
theorem dX11_init_437 : decode cX11_init 437 = .ok (.bipush 61, 2) := by decide +kernel
theorem dX11_init_439 : decode cX11_init 439 = .ok (.iload_n 1, 1) := by decide +kernel
theorem dX11_init_440 : decode cX11_init 440 = .ok (.imul, 1) := by decide +kernel
theorem dX11_init_441 : decode cX11_init 441 = .ok (.bipush 61, 2) := by decide +kernel
theorem dX11_init_443 : decode cX11_init 443 = .ok (.isub, 1) := by decide +kernel
theorem dX11_init_444 : decode cX11_init 444 = .ok (.iload_n 2, 1) := by decide +kernel
theorem dX11_init_445 : decode cX11_init 445 = .ok (.iadd, 1) := by decide +kernel
theorem dX11_init_446 : decode cX11_init 446 = .ok (.laload, 1) := by decide +kernel
theorem dX11_init_447 : decode cX11_init 447 = .ok (.ladd, 1) := by decide +kernel
theorem dX11_init_448 : decode cX11_init 448 = .ok (.lastore, 1) := by decide +kernel
theorem dX11_init_449 : decode cX11_init 449 = .ok (.iinc 2 1, 3) := by decide +kernel
theorem dX11_init_452 : decode cX11_init 452 = .ok (.goto (-63), 3) := by decide +kernel
theorem dX11_init_455 : decode cX11_init 455 = .ok (.iinc 1 1, 3) := by decide +kernel
theorem dX11_init_458 : decode cX11_init 458 = .ok (.goto (-77), 3) := by decide +kernel
theorem dX11_init_461 : decode cX11_init 461 = .ok (.return_, 1) := by decide +kernel
theorem dX11_in_0 : decode cX11_in 0 = .ok (.lload_n 0, 1) := by decide +kernel
theorem dX11_in_1 : decode cX11_in 1 = .ok (.lload_n 2, 1) := by decide +kernel
theorem dX11_in_2 : decode cX11_in 2 = .ok (.lcmp, 1) := by decide +kernel
theorem dX11_in_3 : decode cX11_in 3 = .ok (.ifCond .lt 14, 3) := by decide +kernel
theorem dX11_in_6 : decode cX11_in 6 = .ok (.lload_n 0, 1) := by decide +kernel
theorem dX11_in_7 : decode cX11_in 7 = .ok (.lload 4, 2) := by decide +kernel
theorem dX11_in_9 : decode cX11_in 9 = .ok (.lcmp, 1) := by decide +kernel
theorem dX11_in_10 : decode cX11_in 10 = .ok (.ifCond .gt 7, 3) := by decide +kernel
theorem dX11_in_13 : decode cX11_in 13 = .ok (.iconst 1, 1) := by decide +kernel
theorem dX11_in_14 : decode cX11_in 14 = .ok (.goto 4, 3) := by decide +kernel
theorem dX11_in_17 : decode cX11_in 17 = .ok (.iconst 0, 1) := by decide +kernel
theorem dX11_in_18 : decode cX11_in 18 = .ok (.ireturn, 1) := by decide +kernel
set_option maxRecDepth 20000 in
theorem ggX11_isHouse_X11_in : GoodIn wsX11_isHouse wsX11_in := goodIn_r _ [5] rfl (by decide +kernel)
set_option maxRecDepth 20000 in
theorem gX11_isHouse_X11_in : GoodIn wsX11_isHouse (va_wsS RX11 127 yX11_in wsX11_in) := goodIn_app (goodIn_of _ (by decide +kernel)) ggX11_isHouse_X11_in
theorem dX11_isHouse_0 : decode cX11_isHouse 0 = .ok (.iload_n 0, 1) := by decide +kernel
theorem dX11_isHouse_1 : decode cX11_isHouse 1 = .ok (.i2l, 1) := by decide +kernel
theorem dX11_isHouse_2 : decode cX11_isHouse 2 = .ok (.lconst 0, 1) := by decide +kernel
theorem dX11_isHouse_3 : decode cX11_isHouse 3 = .ok (.ldc2_w 125, 3) := by decide +kernel
theorem dX11_isHouse_6 : decode cX11_isHouse 6 = .ok (.invokestatic 127, 3) := by decide +kernel
theorem dX11_isHouse_9 : decode cX11_isHouse 9 = .ok (.ireturn, 1) := by decide +kernel
set_option maxRecDepth 20000 in
theorem ggX11_isKind_X11_in : GoodIn wsX11_isKind wsX11_in := goodIn_r _ [5] rfl (by decide +kernel)
set_option maxRecDepth 20000 in
theorem gX11_isKind_X11_in : GoodIn wsX11_isKind (va_wsS RX11 127 yX11_in wsX11_in) := goodIn_app (goodIn_of _ (by decide +kernel)) ggX11_isKind_X11_in
theorem dX11_isKind_0 : decode cX11_isKind 0 = .ok (.iload_n 1, 1) := by decide +kernel
theorem dX11_isKind_1 : decode cX11_isKind 1 = .ok (.i2l, 1) := by decide +kernel
theorem dX11_isKind_2 : decode cX11_isKind 2 = .ok (.lconst 0, 1) := by decide +kernel
theorem dX11_isKind_3 : decode cX11_isKind 3 = .ok (.aload_n 0, 1) := by decide +kernel
theorem dX11_isKind_4 : decode cX11_isKind 4 = .ok (.getfield 131, 3) := by decide +kernel
theorem dX11_isKind_7 : decode cX11_isKind 7 = .ok (.iconst 1, 1) := by decide +kernel
theorem dX11_isKind_8 : decode cX11_isKind 8 = .ok (.isub, 1) := by decide +kernel
theorem dX11_isKind_9 : decode cX11_isKind 9 = .ok (.i2l, 1) := by decide +kernel
theorem dX11_isKind_10 : decode cX11_isKind 10 = .ok (.invokestatic 127, 3) := by decide +kernel
theorem dX11_isKind_13 : decode cX11_isKind 13 = .ok (.ireturn, 1) := by decide +kernel
set_option maxRecDepth 20000 in
theorem ggX11_isWeight_X11_in : GoodIn wsX11_isWeight wsX11_in := goodIn_r _ [6] rfl (by decide +kernel)
set_option maxRecDepth 20000 in
theorem gX11_isWeight_X11_in : GoodIn wsX11_isWeight (va_wsS RX11 127 yX11_in wsX11_in) := goodIn_app (goodIn_of _ (by decide +kernel)) ggX11_isWeight_X11_in
theorem dX11_isWeight_0 : decode cX11_isWeight 0 = .ok (.iload_n 0, 1) := by decide +kernel
theorem dX11_isWeight_1 : decode cX11_isWeight 1 = .ok (.i2l, 1) := by decide +kernel
theorem dX11_isWeight_2 : decode cX11_isWeight 2 = .ok (.lconst 0, 1) := by decide +kernel
theorem dX11_isWeight_3 : decode cX11_isWeight 3 = .ok (.ldc2_w 134, 3) := by decide +kernel
theorem dX11_isWeight_6 : decode cX11_isWeight 6 = .ok (.invokestatic 127, 3) := by decide +kernel
theorem dX11_isWeight_9 : decode cX11_isWeight 9 = .ok (.ifCond .eq 19, 3) := by decide +kernel
theorem dX11_isWeight_12 : decode cX11_isWeight 12 = .ok (.iload_n 1, 1) := by decide +kernel
theorem dX11_isWeight_13 : decode cX11_isWeight 13 = .ok (.i2l, 1) := by decide +kernel
theorem dX11_isWeight_14 : decode cX11_isWeight 14 = .ok (.lconst 0, 1) := by decide +kernel
theorem dX11_isWeight_15 : decode cX11_isWeight 15 = .ok (.ldc2_w 136, 3) := by decide +kernel
theorem dX11_isWeight_18 : decode cX11_isWeight 18 = .ok (.invokestatic 127, 3) := by decide +kernel
theorem dX11_isWeight_21 : decode cX11_isWeight 21 = .ok (.ifCond .eq 7, 3) := by decide +kernel
theorem dX11_isWeight_24 : decode cX11_isWeight 24 = .ok (.iconst 1, 1) := by decide +kernel
theorem dX11_isWeight_25 : decode cX11_isWeight 25 = .ok (.goto 4, 3) := by decide +kernel
theorem dX11_isWeight_28 : decode cX11_isWeight 28 = .ok (.iconst 0, 1) := by decide +kernel
theorem dX11_isWeight_29 : decode cX11_isWeight 29 = .ok (.ireturn, 1) := by decide +kernel
set_option maxRecDepth 20000 in
theorem ggX11_kind_X11_in : GoodIn wsX11_kind wsX11_in := goodIn_r _ [8] rfl (by decide +kernel)
set_option maxRecDepth 20000 in
theorem gX11_kind_X11_in : GoodIn wsX11_kind (va_wsS RX11 127 yX11_in wsX11_in) := goodIn_app (goodIn_of _ (by decide +kernel)) ggX11_kind_X11_in
theorem dX11_kind_0 : decode cX11_kind 0 = .ok (.iload_n 1, 1) := by decide +kernel
theorem dX11_kind_1 : decode cX11_kind 1 = .ok (.i2l, 1) := by decide +kernel
theorem dX11_kind_2 : decode cX11_kind 2 = .ok (.lconst 1, 1) := by decide +kernel
theorem dX11_kind_3 : decode cX11_kind 3 = .ok (.ldc2_w 138, 3) := by decide +kernel
theorem dX11_kind_6 : decode cX11_kind 6 = .ok (.invokestatic 127, 3) := by decide +kernel
theorem dX11_kind_9 : decode cX11_kind 9 = .ok (.ifCond .eq 16, 3) := by decide +kernel
theorem dX11_kind_12 : decode cX11_kind 12 = .ok (.iload_n 2, 1) := by decide +kernel
theorem dX11_kind_13 : decode cX11_kind 13 = .ok (.i2l, 1) := by decide +kernel
theorem dX11_kind_14 : decode cX11_kind 14 = .ok (.iload_n 1, 1) := by decide +kernel
theorem dX11_kind_15 : decode cX11_kind 15 = .ok (.i2l, 1) := by decide +kernel
theorem dX11_kind_16 : decode cX11_kind 16 = .ok (.ldc2_w 138, 3) := by decide +kernel
theorem dX11_kind_19 : decode cX11_kind 19 = .ok (.invokestatic 127, 3) := by decide +kernel
theorem dX11_kind_22 : decode cX11_kind 22 = .ok (.ifCond .ne 6, 3) := by decide +kernel
theorem dX11_kind_25 : decode cX11_kind 25 = .ok (.bipush (-2), 2) := by decide +kernel
theorem dX11_kind_27 : decode cX11_kind 27 = .ok (.ireturn, 1) := by decide +kernel
theorem dX11_kind_28 : decode cX11_kind 28 = .ok (.aload_n 0, 1) := by decide +kernel
theorem dX11_kind_29 : decode cX11_kind 29 = .ok (.getfield 131, 3) := by decide +kernel
theorem dX11_kind_32 : decode cX11_kind 32 = .ok (.bipush 6, 2) := by decide +kernel
theorem dX11_kind_34 : decode cX11_kind 34 = .ok (.if_icmp .ne 6, 3) := by decide +kernel
theorem dX11_kind_37 : decode cX11_kind 37 = .ok (.bipush (-4), 2) := by decide +kernel
theorem dX11_kind_39 : decode cX11_kind 39 = .ok (.ireturn, 1) := by decide +kernel
theorem dX11_kind_40 : decode cX11_kind 40 = .ok (.aload_n 0, 1) := by decide +kernel
theorem dX11_kind_41 : decode cX11_kind 41 = .ok (.getfield 7, 3) := by decide +kernel
theorem dX11_kind_44 : decode cX11_kind 44 = .ok (.aload_n 0, 1) := by decide +kernel
theorem dX11_kind_45 : decode cX11_kind 45 = .ok (.getfield 131, 3) := by decide +kernel
theorem dX11_kind_48 : decode cX11_kind 48 = .ok (.iload_n 1, 1) := by decide +kernel
theorem dX11_kind_49 : decode cX11_kind 49 = .ok (.iastore, 1) := by decide +kernel
theorem dX11_kind_50 : decode cX11_kind 50 = .ok (.aload_n 0, 1) := by decide +kernel
theorem dX11_kind_51 : decode cX11_kind 51 = .ok (.getfield 13, 3) := by decide +kernel
theorem dX11_kind_54 : decode cX11_kind 54 = .ok (.aload_n 0, 1) := by decide +kernel
theorem dX11_kind_55 : decode cX11_kind 55 = .ok (.getfield 131, 3) := by decide +kernel
theorem dX11_kind_58 : decode cX11_kind 58 = .ok (.iload_n 2, 1) := by decide +kernel
theorem dX11_kind_59 : decode cX11_kind 59 = .ok (.iastore, 1) := by decide +kernel
theorem dX11_kind_60 : decode cX11_kind 60 = .ok (.aload_n 0, 1) := by decide +kernel
theorem dX11_kind_61 : decode cX11_kind 61 = .ok (.dup, 1) := by decide +kernel
theorem dX11_kind_62 : decode cX11_kind 62 = .ok (.getfield 131, 3) := by decide +kernel
theorem dX11_kind_65 : decode cX11_kind 65 = .ok (.iconst 1, 1) := by decide +kernel
theorem dX11_kind_66 : decode cX11_kind 66 = .ok (.iadd, 1) := by decide +kernel
theorem dX11_kind_67 : decode cX11_kind 67 = .ok (.putfield 131, 3) := by decide +kernel
theorem dX11_kind_70 : decode cX11_kind 70 = .ok (.aload_n 0, 1) := by decide +kernel
theorem dX11_kind_71 : decode cX11_kind 71 = .ok (.getfield 131, 3) := by decide +kernel
theorem dX11_kind_74 : decode cX11_kind 74 = .ok (.iconst 1, 1) := by decide +kernel
theorem dX11_kind_75 : decode cX11_kind 75 = .ok (.isub, 1) := by decide +kernel
theorem dX11_kind_76 : decode cX11_kind 76 = .ok (.ireturn, 1) := by decide +kernel
set_option maxRecDepth 20000 in
theorem ggX11_book_X11_isHouse : GoodIn wsX11_book wsX11_isHouse := goodIn_r _ [6, 7, 8, 9, 5, 10] rfl (by decide +kernel)
set_option maxRecDepth 20000 in
theorem gX11_book_X11_isHouse : GoodIn wsX11_book (va_wsS RX11 140 yX11_isHouse wsX11_isHouse) := goodIn_app (goodIn_of _ (by decide +kernel)) ggX11_book_X11_isHouse
set_option maxRecDepth 20000 in
theorem ggX11_book_X11_isKind : GoodIn wsX11_book wsX11_isKind := goodIn_r _ [14, 15, 8, 9, 5, 10, 16, 17, 18, 19, 20, 21, 22, 23, 24, 25, 26, 27, 28, 29, 30, 31, 32, 33, 34, 35, 36, 37, 38, 39, 40, 41, 42, 43, 44, 45, 46, 47, 48, 49, 50, 51, 52, 53, 54, 55, 56, 57, 58, 59, 60] rfl (by decide +kernel)
set_option maxRecDepth 20000 in
theorem gX11_book_X11_isKind : GoodIn wsX11_book (wsV RX11 144 RX11 yX11_isKind wsX11_isKind) := goodIn_app (goodIn_of _ (by decide +kernel)) ggX11_book_X11_isKind
set_option maxRecDepth 20000 in
theorem ggX11_book_X11_in : GoodIn wsX11_book wsX11_in := goodIn_r _ [10] rfl (by decide +kernel)
set_option maxRecDepth 20000 in
theorem gX11_book_X11_in : GoodIn wsX11_book (va_wsS RX11 127 yX11_in wsX11_in) := goodIn_app (goodIn_of _ (by decide +kernel)) ggX11_book_X11_in
theorem dX11_book_0 : decode cX11_book 0 = .ok (.iload_n 1, 1) := by decide +kernel
theorem dX11_book_1 : decode cX11_book 1 = .ok (.invokestatic 140, 3) := by decide +kernel
theorem dX11_book_4 : decode cX11_book 4 = .ok (.ifCond .eq 11, 3) := by decide +kernel
theorem dX11_book_7 : decode cX11_book 7 = .ok (.aload_n 0, 1) := by decide +kernel
theorem dX11_book_8 : decode cX11_book 8 = .ok (.iload_n 2, 1) := by decide +kernel
theorem dX11_book_9 : decode cX11_book 9 = .ok (.invokevirtual 144, 3) := by decide +kernel
theorem dX11_book_12 : decode cX11_book 12 = .ok (.ifCond .ne 5, 3) := by decide +kernel
theorem dX11_book_15 : decode cX11_book 15 = .ok (.iconst (-1), 1) := by decide +kernel
theorem dX11_book_16 : decode cX11_book 16 = .ok (.ireturn, 1) := by decide +kernel
theorem dX11_book_17 : decode cX11_book 17 = .ok (.iload_n 3, 1) := by decide +kernel
theorem dX11_book_18 : decode cX11_book 18 = .ok (.i2l, 1) := by decide +kernel
theorem dX11_book_19 : decode cX11_book 19 = .ok (.lconst 0, 1) := by decide +kernel
theorem dX11_book_20 : decode cX11_book 20 = .ok (.ldc2_w 147, 3) := by decide +kernel
theorem dX11_book_23 : decode cX11_book 23 = .ok (.invokestatic 127, 3) := by decide +kernel
theorem dX11_book_26 : decode cX11_book 26 = .ok (.ifCond .ne 6, 3) := by decide +kernel
theorem dX11_book_29 : decode cX11_book 29 = .ok (.bipush (-2), 2) := by decide +kernel
theorem dX11_book_31 : decode cX11_book 31 = .ok (.ireturn, 1) := by decide +kernel
theorem dX11_book_32 : decode cX11_book 32 = .ok (.aload_n 0, 1) := by decide +kernel
theorem dX11_book_33 : decode cX11_book 33 = .ok (.getfield 16, 3) := by decide +kernel
theorem dX11_book_36 : decode cX11_book 36 = .ok (.bipush 6, 2) := by decide +kernel
theorem dX11_book_38 : decode cX11_book 38 = .ok (.iload_n 1, 1) := by decide +kernel
theorem dX11_book_39 : decode cX11_book 39 = .ok (.imul, 1) := by decide +kernel
theorem dX11_book_40 : decode cX11_book 40 = .ok (.iload_n 2, 1) := by decide +kernel
theorem dX11_book_41 : decode cX11_book 41 = .ok (.iadd, 1) := by decide +kernel
theorem dX11_book_42 : decode cX11_book 42 = .ok (.iaload, 1) := by decide +kernel
theorem dX11_book_43 : decode cX11_book 43 = .ok (.istore 4, 2) := by decide +kernel
theorem dX11_book_45 : decode cX11_book 45 = .ok (.aload_n 0, 1) := by decide +kernel
theorem dX11_book_46 : decode cX11_book 46 = .ok (.getfield 16, 3) := by decide +kernel
theorem dX11_book_49 : decode cX11_book 49 = .ok (.bipush 6, 2) := by decide +kernel
theorem dX11_book_51 : decode cX11_book 51 = .ok (.iload_n 1, 1) := by decide +kernel
theorem dX11_book_52 : decode cX11_book 52 = .ok (.imul, 1) := by decide +kernel
theorem dX11_book_53 : decode cX11_book 53 = .ok (.iload_n 2, 1) := by decide +kernel
theorem dX11_book_54 : decode cX11_book 54 = .ok (.iadd, 1) := by decide +kernel
theorem dX11_book_55 : decode cX11_book 55 = .ok (.iload_n 3, 1) := by decide +kernel
theorem dX11_book_56 : decode cX11_book 56 = .ok (.iastore, 1) := by decide +kernel
theorem dX11_book_57 : decode cX11_book 57 = .ok (.iload 4, 2) := by decide +kernel
theorem dX11_book_59 : decode cX11_book 59 = .ok (.ireturn, 1) := by decide +kernel
set_option maxRecDepth 20000 in
theorem ggX11_weigh_X11_isHouse : GoodIn wsX11_weigh wsX11_isHouse := goodIn_r _ [9, 10, 11, 12, 8, 13] rfl (by decide +kernel)
set_option maxRecDepth 20000 in
theorem gX11_weigh_X11_isHouse : GoodIn wsX11_weigh (va_wsS RX11 140 yX11_isHouse wsX11_isHouse) := goodIn_app (goodIn_of _ (by decide +kernel)) ggX11_weigh_X11_isHouse
set_option maxRecDepth 20000 in
theorem ggX11_weigh_X11_isKind : GoodIn wsX11_weigh wsX11_isKind := goodIn_r _ [17, 18, 11, 12, 8, 13, 24, 25, 26, 27, 28, 29, 30, 31, 32, 33, 34, 35, 36, 37, 38, 39, 40, 41, 42, 43, 44, 45, 46, 47, 48, 49, 50, 51, 52, 53, 54, 55, 56, 57, 58, 59, 60, 61, 62, 63, 64, 65, 66, 67, 68] rfl (by decide +kernel)
set_option maxRecDepth 20000 in
theorem gX11_weigh_X11_isKind : GoodIn wsX11_weigh (wsV RX11 144 RX11 yX11_isKind wsX11_isKind) := goodIn_app (goodIn_of _ (by decide +kernel)) ggX11_weigh_X11_isKind
set_option maxRecDepth 20000 in
theorem ggX11_weigh_X11_isWeight : GoodIn wsX11_weigh wsX11_isWeight := goodIn_r _ [21, 22, 23, 11, 12, 8, 13] rfl (by decide +kernel)
set_option maxRecDepth 20000 in
theorem gX11_weigh_X11_isWeight : GoodIn wsX11_weigh (va_wsS RX11 149 yX11_isWeight wsX11_isWeight) := goodIn_app (goodIn_of _ (by decide +kernel)) ggX11_weigh_X11_isWeight
theorem dX11_weigh_0 : decode cX11_weigh 0 = .ok (.iload_n 1, 1) := by decide +kernel
theorem dX11_weigh_1 : decode cX11_weigh 1 = .ok (.invokestatic 140, 3) := by decide +kernel
theorem dX11_weigh_4 : decode cX11_weigh 4 = .ok (.ifCond .eq 11, 3) := by decide +kernel
theorem dX11_weigh_7 : decode cX11_weigh 7 = .ok (.aload_n 0, 1) := by decide +kernel
theorem dX11_weigh_8 : decode cX11_weigh 8 = .ok (.iload_n 2, 1) := by decide +kernel
theorem dX11_weigh_9 : decode cX11_weigh 9 = .ok (.invokevirtual 144, 3) := by decide +kernel
theorem dX11_weigh_12 : decode cX11_weigh 12 = .ok (.ifCond .ne 5, 3) := by decide +kernel
theorem dX11_weigh_15 : decode cX11_weigh 15 = .ok (.iconst (-1), 1) := by decide +kernel
theorem dX11_weigh_16 : decode cX11_weigh 16 = .ok (.ireturn, 1) := by decide +kernel
theorem dX11_weigh_17 : decode cX11_weigh 17 = .ok (.iload_n 3, 1) := by decide +kernel
theorem dX11_weigh_18 : decode cX11_weigh 18 = .ok (.iload 4, 2) := by decide +kernel
theorem dX11_weigh_20 : decode cX11_weigh 20 = .ok (.invokestatic 149, 3) := by decide +kernel
theorem dX11_weigh_23 : decode cX11_weigh 23 = .ok (.ifCond .ne 6, 3) := by decide +kernel
theorem dX11_weigh_26 : decode cX11_weigh 26 = .ok (.bipush (-2), 2) := by decide +kernel
theorem dX11_weigh_28 : decode cX11_weigh 28 = .ok (.ireturn, 1) := by decide +kernel
theorem dX11_weigh_29 : decode cX11_weigh 29 = .ok (.aload_n 0, 1) := by decide +kernel
theorem dX11_weigh_30 : decode cX11_weigh 30 = .ok (.getfield 153, 3) := by decide +kernel
theorem dX11_weigh_33 : decode cX11_weigh 33 = .ok (.bipush 40, 2) := by decide +kernel
theorem dX11_weigh_35 : decode cX11_weigh 35 = .ok (.if_icmp .ne 6, 3) := by decide +kernel
theorem dX11_weigh_38 : decode cX11_weigh 38 = .ok (.bipush (-4), 2) := by decide +kernel
theorem dX11_weigh_40 : decode cX11_weigh 40 = .ok (.ireturn, 1) := by decide +kernel
theorem dX11_weigh_41 : decode cX11_weigh 41 = .ok (.aload_n 0, 1) := by decide +kernel
theorem dX11_weigh_42 : decode cX11_weigh 42 = .ok (.getfield 22, 3) := by decide +kernel
theorem dX11_weigh_45 : decode cX11_weigh 45 = .ok (.aload_n 0, 1) := by decide +kernel
theorem dX11_weigh_46 : decode cX11_weigh 46 = .ok (.getfield 153, 3) := by decide +kernel
theorem dX11_weigh_49 : decode cX11_weigh 49 = .ok (.iload_n 1, 1) := by decide +kernel
theorem dX11_weigh_50 : decode cX11_weigh 50 = .ok (.iastore, 1) := by decide +kernel
theorem dX11_weigh_51 : decode cX11_weigh 51 = .ok (.aload_n 0, 1) := by decide +kernel
theorem dX11_weigh_52 : decode cX11_weigh 52 = .ok (.getfield 25, 3) := by decide +kernel
theorem dX11_weigh_55 : decode cX11_weigh 55 = .ok (.aload_n 0, 1) := by decide +kernel
theorem dX11_weigh_56 : decode cX11_weigh 56 = .ok (.getfield 153, 3) := by decide +kernel
theorem dX11_weigh_59 : decode cX11_weigh 59 = .ok (.iload_n 2, 1) := by decide +kernel
theorem dX11_weigh_60 : decode cX11_weigh 60 = .ok (.iastore, 1) := by decide +kernel
theorem dX11_weigh_61 : decode cX11_weigh 61 = .ok (.aload_n 0, 1) := by decide +kernel
theorem dX11_weigh_62 : decode cX11_weigh 62 = .ok (.getfield 28, 3) := by decide +kernel
theorem dX11_weigh_65 : decode cX11_weigh 65 = .ok (.aload_n 0, 1) := by decide +kernel
theorem dX11_weigh_66 : decode cX11_weigh 66 = .ok (.getfield 153, 3) := by decide +kernel
theorem dX11_weigh_69 : decode cX11_weigh 69 = .ok (.iload_n 3, 1) := by decide +kernel
theorem dX11_weigh_70 : decode cX11_weigh 70 = .ok (.iload 4, 2) := by decide +kernel
theorem dX11_weigh_72 : decode cX11_weigh 72 = .ok (.isub, 1) := by decide +kernel
theorem dX11_weigh_73 : decode cX11_weigh 73 = .ok (.iastore, 1) := by decide +kernel
theorem dX11_weigh_74 : decode cX11_weigh 74 = .ok (.aload_n 0, 1) := by decide +kernel
theorem dX11_weigh_75 : decode cX11_weigh 75 = .ok (.getfield 31, 3) := by decide +kernel
theorem dX11_weigh_78 : decode cX11_weigh 78 = .ok (.aload_n 0, 1) := by decide +kernel
theorem dX11_weigh_79 : decode cX11_weigh 79 = .ok (.getfield 153, 3) := by decide +kernel
theorem dX11_weigh_82 : decode cX11_weigh 82 = .ok (.iload_n 3, 1) := by decide +kernel
theorem dX11_weigh_83 : decode cX11_weigh 83 = .ok (.iload 4, 2) := by decide +kernel
theorem dX11_weigh_85 : decode cX11_weigh 85 = .ok (.iadd, 1) := by decide +kernel
theorem dX11_weigh_86 : decode cX11_weigh 86 = .ok (.iastore, 1) := by decide +kernel
theorem dX11_weigh_87 : decode cX11_weigh 87 = .ok (.aload_n 0, 1) := by decide +kernel
theorem dX11_weigh_88 : decode cX11_weigh 88 = .ok (.dup, 1) := by decide +kernel
theorem dX11_weigh_89 : decode cX11_weigh 89 = .ok (.getfield 153, 3) := by decide +kernel
theorem dX11_weigh_92 : decode cX11_weigh 92 = .ok (.iconst 1, 1) := by decide +kernel
theorem dX11_weigh_93 : decode cX11_weigh 93 = .ok (.iadd, 1) := by decide +kernel
theorem dX11_weigh_94 : decode cX11_weigh 94 = .ok (.putfield 153, 3) := by decide +kernel
theorem dX11_weigh_97 : decode cX11_weigh 97 = .ok (.aload_n 0, 1) := by decide +kernel
theorem dX11_weigh_98 : decode cX11_weigh 98 = .ok (.getfield 153, 3) := by decide +kernel
theorem dX11_weigh_101 : decode cX11_weigh 101 = .ok (.iconst 1, 1) := by decide +kernel
theorem dX11_weigh_102 : decode cX11_weigh 102 = .ok (.isub, 1) := by decide +kernel
theorem dX11_weigh_103 : decode cX11_weigh 103 = .ok (.ireturn, 1) := by decide +kernel
set_option maxRecDepth 20000 in
theorem ggX11_drop_X11_in : GoodIn wsX11_drop wsX11_in := goodIn_r _ [6] rfl (by decide +kernel)
set_option maxRecDepth 20000 in
theorem gX11_drop_X11_in : GoodIn wsX11_drop (va_wsS RX11 127 yX11_in wsX11_in) := goodIn_app (goodIn_of _ (by decide +kernel)) ggX11_drop_X11_in
theorem dX11_drop_0 : decode cX11_drop 0 = .ok (.iload_n 1, 1) := by decide +kernel
theorem dX11_drop_1 : decode cX11_drop 1 = .ok (.i2l, 1) := by decide +kernel
theorem dX11_drop_2 : decode cX11_drop 2 = .ok (.lconst 0, 1) := by decide +kernel
theorem dX11_drop_3 : decode cX11_drop 3 = .ok (.aload_n 0, 1) := by decide +kernel
theorem dX11_drop_4 : decode cX11_drop 4 = .ok (.getfield 153, 3) := by decide +kernel
theorem dX11_drop_7 : decode cX11_drop 7 = .ok (.iconst 1, 1) := by decide +kernel
theorem dX11_drop_8 : decode cX11_drop 8 = .ok (.isub, 1) := by decide +kernel
theorem dX11_drop_9 : decode cX11_drop 9 = .ok (.i2l, 1) := by decide +kernel
theorem dX11_drop_10 : decode cX11_drop 10 = .ok (.invokestatic 127, 3) := by decide +kernel
theorem dX11_drop_13 : decode cX11_drop 13 = .ok (.ifCond .ne 5, 3) := by decide +kernel
theorem dX11_drop_16 : decode cX11_drop 16 = .ok (.iconst (-1), 1) := by decide +kernel
theorem dX11_drop_17 : decode cX11_drop 17 = .ok (.ireturn, 1) := by decide +kernel
theorem dX11_drop_18 : decode cX11_drop 18 = .ok (.aload_n 0, 1) := by decide +kernel
theorem dX11_drop_19 : decode cX11_drop 19 = .ok (.getfield 34, 3) := by decide +kernel
theorem dX11_drop_22 : decode cX11_drop 22 = .ok (.iload_n 1, 1) := by decide +kernel
theorem dX11_drop_23 : decode cX11_drop 23 = .ok (.baload, 1) := by decide +kernel
theorem dX11_drop_24 : decode cX11_drop 24 = .ok (.ifCond .eq 6, 3) := by decide +kernel
theorem dX11_drop_27 : decode cX11_drop 27 = .ok (.bipush (-3), 2) := by decide +kernel
theorem dX11_drop_29 : decode cX11_drop 29 = .ok (.ireturn, 1) := by decide +kernel
theorem dX11_drop_30 : decode cX11_drop 30 = .ok (.aload_n 0, 1) := by decide +kernel
theorem dX11_drop_31 : decode cX11_drop 31 = .ok (.getfield 34, 3) := by decide +kernel
theorem dX11_drop_34 : decode cX11_drop 34 = .ok (.iload_n 1, 1) := by decide +kernel
theorem dX11_drop_35 : decode cX11_drop 35 = .ok (.iconst 1, 1) := by decide +kernel
theorem dX11_drop_36 : decode cX11_drop 36 = .ok (.bastore, 1) := by decide +kernel
theorem dX11_drop_37 : decode cX11_drop 37 = .ok (.iconst 1, 1) := by decide +kernel
theorem dX11_drop_38 : decode cX11_drop 38 = .ok (.ireturn, 1) := by decide +kernel
theorem dX11_laySpan_0 : decode cX11_laySpan 0 = .ok (.aload_n 0, 1) := by decide +kernel
theorem dX11_laySpan_1 : decode cX11_laySpan 1 = .ok (.iconst 0, 1) := by decide +kernel
theorem dX11_laySpan_2 : decode cX11_laySpan 2 = .ok (.putfield 156, 3) := by decide +kernel
theorem dX11_laySpan_5 : decode cX11_laySpan 5 = .ok (.aload_n 0, 1) := by decide +kernel
theorem dX11_laySpan_6 : decode cX11_laySpan 6 = .ok (.sipush 2000, 3) := by decide +kernel
theorem dX11_laySpan_9 : decode cX11_laySpan 9 = .ok (.putfield 159, 3) := by decide +kernel
theorem dX11_laySpan_12 : decode cX11_laySpan 12 = .ok (.iconst 0, 1) := by decide +kernel
theorem dX11_laySpan_13 : decode cX11_laySpan 13 = .ok (.istore 4, 2) := by decide +kernel
theorem dX11_laySpan_15 : decode cX11_laySpan 15 = .ok (.iload 4, 2) := by decide +kernel
theorem dX11_laySpan_17 : decode cX11_laySpan 17 = .ok (.iload_n 3, 1) := by decide +kernel
theorem dX11_laySpan_18 : decode cX11_laySpan 18 = .ok (.if_icmp .ge 140, 3) := by decide +kernel
theorem dX11_laySpan_21 : decode cX11_laySpan 21 = .ok (.aload_n 0, 1) := by decide +kernel
theorem dX11_laySpan_22 : decode cX11_laySpan 22 = .ok (.getfield 34, 3) := by decide +kernel
theorem dX11_laySpan_25 : decode cX11_laySpan 25 = .ok (.iload 4, 2) := by decide +kernel
theorem dX11_laySpan_27 : decode cX11_laySpan 27 = .ok (.baload, 1) := by decide +kernel
theorem dX11_laySpan_28 : decode cX11_laySpan 28 = .ok (.ifCond .ne 124, 3) := by decide +kernel
theorem dX11_laySpan_31 : decode cX11_laySpan 31 = .ok (.aload_n 0, 1) := by decide +kernel
theorem dX11_laySpan_32 : decode cX11_laySpan 32 = .ok (.getfield 22, 3) := by decide +kernel
theorem dX11_laySpan_35 : decode cX11_laySpan 35 = .ok (.iload 4, 2) := by decide +kernel
theorem dX11_laySpan_37 : decode cX11_laySpan 37 = .ok (.iaload, 1) := by decide +kernel
theorem dX11_laySpan_38 : decode cX11_laySpan 38 = .ok (.iload_n 1, 1) := by decide +kernel
theorem dX11_laySpan_39 : decode cX11_laySpan 39 = .ok (.if_icmp .ne 113, 3) := by decide +kernel
theorem dX11_laySpan_42 : decode cX11_laySpan 42 = .ok (.aload_n 0, 1) := by decide +kernel
theorem dX11_laySpan_43 : decode cX11_laySpan 43 = .ok (.getfield 25, 3) := by decide +kernel
theorem dX11_laySpan_46 : decode cX11_laySpan 46 = .ok (.iload 4, 2) := by decide +kernel
theorem dX11_laySpan_48 : decode cX11_laySpan 48 = .ok (.iaload, 1) := by decide +kernel
theorem dX11_laySpan_49 : decode cX11_laySpan 49 = .ok (.iload_n 2, 1) := by decide +kernel
theorem dX11_laySpan_50 : decode cX11_laySpan 50 = .ok (.if_icmp .ne 102, 3) := by decide +kernel
theorem dX11_laySpan_53 : decode cX11_laySpan 53 = .ok (.aload_n 0, 1) := by decide +kernel
theorem dX11_laySpan_54 : decode cX11_laySpan 54 = .ok (.getfield 31, 3) := by decide +kernel
theorem dX11_laySpan_57 : decode cX11_laySpan 57 = .ok (.iload 4, 2) := by decide +kernel
theorem dX11_laySpan_59 : decode cX11_laySpan 59 = .ok (.iaload, 1) := by decide +kernel
theorem dX11_laySpan_60 : decode cX11_laySpan 60 = .ok (.aload_n 0, 1) := by decide +kernel
theorem dX11_laySpan_61 : decode cX11_laySpan 61 = .ok (.getfield 7, 3) := by decide +kernel
theorem dX11_laySpan_64 : decode cX11_laySpan 64 = .ok (.iload_n 2, 1) := by decide +kernel
theorem dX11_laySpan_65 : decode cX11_laySpan 65 = .ok (.iaload, 1) := by decide +kernel
theorem dX11_laySpan_66 : decode cX11_laySpan 66 = .ok (.idiv, 1) := by decide +kernel
theorem dX11_laySpan_67 : decode cX11_laySpan 67 = .ok (.istore 5, 2) := by decide +kernel
theorem dX11_laySpan_69 : decode cX11_laySpan 69 = .ok (.aload_n 0, 1) := by decide +kernel
theorem dX11_laySpan_70 : decode cX11_laySpan 70 = .ok (.getfield 28, 3) := by decide +kernel
theorem dX11_laySpan_73 : decode cX11_laySpan 73 = .ok (.iload 4, 2) := by decide +kernel
theorem dX11_laySpan_75 : decode cX11_laySpan 75 = .ok (.iaload, 1) := by decide +kernel
theorem dX11_laySpan_76 : decode cX11_laySpan 76 = .ok (.ifCond .gt 7, 3) := by decide +kernel
theorem dX11_laySpan_79 : decode cX11_laySpan 79 = .ok (.iconst 0, 1) := by decide +kernel
theorem dX11_laySpan_80 : decode cX11_laySpan 80 = .ok (.goto 26, 3) := by decide +kernel
theorem dX11_laySpan_83 : decode cX11_laySpan 83 = .ok (.aload_n 0, 1) := by decide +kernel
theorem dX11_laySpan_84 : decode cX11_laySpan 84 = .ok (.getfield 28, 3) := by decide +kernel
theorem dX11_laySpan_87 : decode cX11_laySpan 87 = .ok (.iload 4, 2) := by decide +kernel
theorem dX11_laySpan_89 : decode cX11_laySpan 89 = .ok (.iaload, 1) := by decide +kernel
theorem dX11_laySpan_90 : decode cX11_laySpan 90 = .ok (.aload_n 0, 1) := by decide +kernel
theorem dX11_laySpan_91 : decode cX11_laySpan 91 = .ok (.getfield 13, 3) := by decide +kernel
theorem dX11_laySpan_94 : decode cX11_laySpan 94 = .ok (.iload_n 2, 1) := by decide +kernel
theorem dX11_laySpan_95 : decode cX11_laySpan 95 = .ok (.iaload, 1) := by decide +kernel
theorem dX11_laySpan_96 : decode cX11_laySpan 96 = .ok (.iadd, 1) := by decide +kernel
theorem dX11_laySpan_97 : decode cX11_laySpan 97 = .ok (.iconst 1, 1) := by decide +kernel
theorem dX11_laySpan_98 : decode cX11_laySpan 98 = .ok (.isub, 1) := by decide +kernel
theorem dX11_laySpan_99 : decode cX11_laySpan 99 = .ok (.aload_n 0, 1) := by decide +kernel
theorem dX11_laySpan_100 : decode cX11_laySpan 100 = .ok (.getfield 13, 3) := by decide +kernel
theorem dX11_laySpan_103 : decode cX11_laySpan 103 = .ok (.iload_n 2, 1) := by decide +kernel
theorem dX11_laySpan_104 : decode cX11_laySpan 104 = .ok (.iaload, 1) := by decide +kernel
theorem dX11_laySpan_105 : decode cX11_laySpan 105 = .ok (.idiv, 1) := by decide +kernel
theorem dX11_laySpan_106 : decode cX11_laySpan 106 = .ok (.istore 6, 2) := by decide +kernel
theorem dX11_laySpan_108 : decode cX11_laySpan 108 = .ok (.aload_n 0, 1) := by decide +kernel
theorem dX11_laySpan_109 : decode cX11_laySpan 109 = .ok (.iload 5, 2) := by decide +kernel
theorem dX11_laySpan_111 : decode cX11_laySpan 111 = .ok (.aload_n 0, 1) := by decide +kernel
theorem dX11_laySpan_112 : decode cX11_laySpan 112 = .ok (.getfield 159, 3) := by decide +kernel
theorem dX11_laySpan_115 : decode cX11_laySpan 115 = .ok (.if_icmp .ge 8, 3) := by decide +kernel
theorem dX11_laySpan_118 : decode cX11_laySpan 118 = .ok (.iload 5, 2) := by decide +kernel
theorem dX11_laySpan_120 : decode cX11_laySpan 120 = .ok (.goto 7, 3) := by decide +kernel
theorem dX11_laySpan_123 : decode cX11_laySpan 123 = .ok (.aload_n 0, 1) := by decide +kernel
theorem dX11_laySpan_124 : decode cX11_laySpan 124 = .ok (.getfield 159, 3) := by decide +kernel
theorem dX11_laySpan_127 : decode cX11_laySpan 127 = .ok (.putfield 159, 3) := by decide +kernel
theorem dX11_laySpan_130 : decode cX11_laySpan 130 = .ok (.aload_n 0, 1) := by decide +kernel
theorem dX11_laySpan_131 : decode cX11_laySpan 131 = .ok (.iload 6, 2) := by decide +kernel
theorem dX11_laySpan_133 : decode cX11_laySpan 133 = .ok (.aload_n 0, 1) := by decide +kernel
theorem dX11_laySpan_134 : decode cX11_laySpan 134 = .ok (.getfield 156, 3) := by decide +kernel
theorem dX11_laySpan_137 : decode cX11_laySpan 137 = .ok (.if_icmp .le 8, 3) := by decide +kernel
theorem dX11_laySpan_140 : decode cX11_laySpan 140 = .ok (.iload 6, 2) := by decide +kernel
theorem dX11_laySpan_142 : decode cX11_laySpan 142 = .ok (.goto 7, 3) := by decide +kernel
theorem dX11_laySpan_145 : decode cX11_laySpan 145 = .ok (.aload_n 0, 1) := by decide +kernel
theorem dX11_laySpan_146 : decode cX11_laySpan 146 = .ok (.getfield 156, 3) := by decide +kernel
theorem dX11_laySpan_149 : decode cX11_laySpan 149 = .ok (.putfield 156, 3) := by decide +kernel
theorem dX11_laySpan_152 : decode cX11_laySpan 152 = .ok (.iinc 4 1, 3) := by decide +kernel
theorem dX11_laySpan_155 : decode cX11_laySpan 155 = .ok (.goto (-140), 3) := by decide +kernel
theorem dX11_laySpan_158 : decode cX11_laySpan 158 = .ok (.aload_n 0, 1) := by decide +kernel
theorem dX11_laySpan_159 : decode cX11_laySpan 159 = .ok (.getfield 156, 3) := by decide +kernel
theorem dX11_laySpan_162 : decode cX11_laySpan 162 = .ok (.aload_n 0, 1) := by decide +kernel
theorem dX11_laySpan_163 : decode cX11_laySpan 163 = .ok (.getfield 159, 3) := by decide +kernel
theorem dX11_laySpan_166 : decode cX11_laySpan 166 = .ok (.if_icmp .gt 7, 3) := by decide +kernel
theorem dX11_laySpan_169 : decode cX11_laySpan 169 = .ok (.iconst 1, 1) := by decide +kernel
theorem dX11_laySpan_170 : decode cX11_laySpan 170 = .ok (.goto 4, 3) := by decide +kernel
theorem dX11_laySpan_173 : decode cX11_laySpan 173 = .ok (.iconst 0, 1) := by decide +kernel
theorem dX11_laySpan_174 : decode cX11_laySpan 174 = .ok (.ireturn, 1) := by decide +kernel
set_option maxRecDepth 20000 in
theorem ggX11_sure_X11_isHouse : GoodIn wsX11_sure wsX11_isHouse := goodIn_r _ [7, 8, 9, 10, 6, 11] rfl (by decide +kernel)
set_option maxRecDepth 20000 in
theorem gX11_sure_X11_isHouse : GoodIn wsX11_sure (va_wsS RX11 140 yX11_isHouse wsX11_isHouse) := goodIn_app (goodIn_of _ (by decide +kernel)) ggX11_sure_X11_isHouse
set_option maxRecDepth 20000 in
theorem ggX11_sure_X11_isKind : GoodIn wsX11_sure wsX11_isKind := goodIn_r _ [15, 16, 9, 10, 6, 11, 28, 29, 30, 31, 32, 33, 34, 35, 36, 37, 38, 39, 40, 41, 42, 43, 44, 45, 46, 47, 48, 49, 50, 51, 52, 53, 54, 55, 56, 57, 58, 59, 60, 61, 62, 63, 64, 65, 66, 67, 68, 69, 70, 71, 72] rfl (by decide +kernel)
set_option maxRecDepth 20000 in
theorem gX11_sure_X11_isKind : GoodIn wsX11_sure (wsV RX11 144 RX11 yX11_isKind wsX11_isKind) := goodIn_app (goodIn_of _ (by decide +kernel)) ggX11_sure_X11_isKind
set_option maxRecDepth 20000 in
theorem ggX11_sure_X11_laySpan : GoodIn wsX11_sure wsX11_laySpan := goodIn_r _ [20, 3, 2, 21, 22, 23, 24, 25, 26, 27, 28, 29, 30, 31, 32, 33, 34, 35, 36, 37, 38, 39, 40, 41, 42, 43, 44, 45, 46, 47, 48, 49, 50, 51, 52, 53, 54, 55, 56, 57, 58, 59, 60, 61, 62, 63, 64, 65, 66, 67, 68, 69, 70, 71, 72] rfl (by decide +kernel)
set_option maxRecDepth 20000 in
theorem gX11_sure_X11_laySpan : GoodIn wsX11_sure (wsV RX11 162 RX11 yX11_laySpan wsX11_laySpan) := goodIn_app (goodIn_of _ (by decide +kernel)) ggX11_sure_X11_laySpan
theorem dX11_sure_0 : decode cX11_sure 0 = .ok (.iload_n 1, 1) := by decide +kernel
theorem dX11_sure_1 : decode cX11_sure 1 = .ok (.invokestatic 140, 3) := by decide +kernel
theorem dX11_sure_4 : decode cX11_sure 4 = .ok (.ifCond .eq 11, 3) := by decide +kernel
theorem dX11_sure_7 : decode cX11_sure 7 = .ok (.aload_n 0, 1) := by decide +kernel
theorem dX11_sure_8 : decode cX11_sure 8 = .ok (.iload_n 2, 1) := by decide +kernel
theorem dX11_sure_9 : decode cX11_sure 9 = .ok (.invokevirtual 144, 3) := by decide +kernel
theorem dX11_sure_12 : decode cX11_sure 12 = .ok (.ifCond .ne 5, 3) := by decide +kernel
theorem dX11_sure_15 : decode cX11_sure 15 = .ok (.iconst (-1), 1) := by decide +kernel
theorem dX11_sure_16 : decode cX11_sure 16 = .ok (.ireturn, 1) := by decide +kernel
theorem dX11_sure_17 : decode cX11_sure 17 = .ok (.aload_n 0, 1) := by decide +kernel
theorem dX11_sure_18 : decode cX11_sure 18 = .ok (.iload_n 1, 1) := by decide +kernel
theorem dX11_sure_19 : decode cX11_sure 19 = .ok (.iload_n 2, 1) := by decide +kernel
theorem dX11_sure_20 : decode cX11_sure 20 = .ok (.aload_n 0, 1) := by decide +kernel
theorem dX11_sure_21 : decode cX11_sure 21 = .ok (.getfield 153, 3) := by decide +kernel
theorem dX11_sure_24 : decode cX11_sure 24 = .ok (.invokevirtual 162, 3) := by decide +kernel
theorem dX11_sure_27 : decode cX11_sure 27 = .ok (.ifCond .ne 8, 3) := by decide +kernel
theorem dX11_sure_30 : decode cX11_sure 30 = .ok (.bipush (-9), 2) := by decide +kernel
theorem dX11_sure_32 : decode cX11_sure 32 = .ok (.goto 18, 3) := by decide +kernel
theorem dX11_sure_35 : decode cX11_sure 35 = .ok (.iload_n 3, 1) := by decide +kernel
theorem dX11_sure_36 : decode cX11_sure 36 = .ok (.ifCond .eq 10, 3) := by decide +kernel
theorem dX11_sure_39 : decode cX11_sure 39 = .ok (.aload_n 0, 1) := by decide +kernel
theorem dX11_sure_40 : decode cX11_sure 40 = .ok (.getfield 159, 3) := by decide +kernel
theorem dX11_sure_43 : decode cX11_sure 43 = .ok (.goto 7, 3) := by decide +kernel
theorem dX11_sure_46 : decode cX11_sure 46 = .ok (.aload_n 0, 1) := by decide +kernel
theorem dX11_sure_47 : decode cX11_sure 47 = .ok (.getfield 156, 3) := by decide +kernel
theorem dX11_sure_50 : decode cX11_sure 50 = .ok (.ireturn, 1) := by decide +kernel
set_option maxRecDepth 20000 in
theorem ggX11_quarrel_X11_isHouse : GoodIn wsX11_quarrel wsX11_isHouse := goodIn_r _ [5, 6, 7, 8, 4, 9] rfl (by decide +kernel)
set_option maxRecDepth 20000 in
theorem gX11_quarrel_X11_isHouse : GoodIn wsX11_quarrel (va_wsS RX11 140 yX11_isHouse wsX11_isHouse) := goodIn_app (goodIn_of _ (by decide +kernel)) ggX11_quarrel_X11_isHouse
set_option maxRecDepth 20000 in
theorem ggX11_quarrel_X11_isKind : GoodIn wsX11_quarrel wsX11_isKind := goodIn_r _ [13, 14, 7, 8, 4, 9, 28, 29, 30, 31, 32, 33, 34, 35, 36, 37, 38, 39, 40, 41, 42, 43, 44, 45, 46, 47, 48, 49, 50, 51, 52, 53, 54, 55, 56, 57, 58, 59, 60, 61, 62, 63, 64, 65, 66, 67, 68, 69, 70, 71, 72] rfl (by decide +kernel)
set_option maxRecDepth 20000 in
theorem gX11_quarrel_X11_isKind : GoodIn wsX11_quarrel (wsV RX11 144 RX11 yX11_isKind wsX11_isKind) := goodIn_app (goodIn_of _ (by decide +kernel)) ggX11_quarrel_X11_isKind
set_option maxRecDepth 20000 in
theorem ggX11_quarrel_X11_laySpan : GoodIn wsX11_quarrel wsX11_laySpan := goodIn_r _ [18, 19, 20, 21, 22, 23, 24, 25, 26, 27, 28, 29, 30, 31, 32, 33, 34, 35, 36, 37, 38, 39, 40, 41, 42, 43, 44, 45, 46, 47, 48, 49, 50, 51, 52, 53, 54, 55, 56, 57, 58, 59, 60, 61, 62, 63, 64, 65, 66, 67, 68, 69, 70, 71, 72] rfl (by decide +kernel)
set_option maxRecDepth 20000 in
theorem gX11_quarrel_X11_laySpan : GoodIn wsX11_quarrel (wsV RX11 162 RX11 yX11_laySpan wsX11_laySpan) := goodIn_app (goodIn_of _ (by decide +kernel)) ggX11_quarrel_X11_laySpan
theorem dX11_quarrel_0 : decode cX11_quarrel 0 = .ok (.iload_n 1, 1) := by decide +kernel
theorem dX11_quarrel_1 : decode cX11_quarrel 1 = .ok (.invokestatic 140, 3) := by decide +kernel
theorem dX11_quarrel_4 : decode cX11_quarrel 4 = .ok (.ifCond .eq 11, 3) := by decide +kernel
theorem dX11_quarrel_7 : decode cX11_quarrel 7 = .ok (.aload_n 0, 1) := by decide +kernel
theorem dX11_quarrel_8 : decode cX11_quarrel 8 = .ok (.iload_n 2, 1) := by decide +kernel
theorem dX11_quarrel_9 : decode cX11_quarrel 9 = .ok (.invokevirtual 144, 3) := by decide +kernel
theorem dX11_quarrel_12 : decode cX11_quarrel 12 = .ok (.ifCond .ne 5, 3) := by decide +kernel
theorem dX11_quarrel_15 : decode cX11_quarrel 15 = .ok (.iconst (-1), 1) := by decide +kernel
theorem dX11_quarrel_16 : decode cX11_quarrel 16 = .ok (.ireturn, 1) := by decide +kernel
theorem dX11_quarrel_17 : decode cX11_quarrel 17 = .ok (.iconst 0, 1) := by decide +kernel
theorem dX11_quarrel_18 : decode cX11_quarrel 18 = .ok (.istore_n 3, 1) := by decide +kernel
theorem dX11_quarrel_19 : decode cX11_quarrel 19 = .ok (.iload_n 3, 1) := by decide +kernel
theorem dX11_quarrel_20 : decode cX11_quarrel 20 = .ok (.aload_n 0, 1) := by decide +kernel
theorem dX11_quarrel_21 : decode cX11_quarrel 21 = .ok (.getfield 153, 3) := by decide +kernel
theorem dX11_quarrel_24 : decode cX11_quarrel 24 = .ok (.if_icmp .ge 23, 3) := by decide +kernel
theorem dX11_quarrel_27 : decode cX11_quarrel 27 = .ok (.aload_n 0, 1) := by decide +kernel
theorem dX11_quarrel_28 : decode cX11_quarrel 28 = .ok (.iload_n 1, 1) := by decide +kernel
theorem dX11_quarrel_29 : decode cX11_quarrel 29 = .ok (.iload_n 2, 1) := by decide +kernel
theorem dX11_quarrel_30 : decode cX11_quarrel 30 = .ok (.iload_n 3, 1) := by decide +kernel
theorem dX11_quarrel_31 : decode cX11_quarrel 31 = .ok (.iconst 1, 1) := by decide +kernel
theorem dX11_quarrel_32 : decode cX11_quarrel 32 = .ok (.iadd, 1) := by decide +kernel
theorem dX11_quarrel_33 : decode cX11_quarrel 33 = .ok (.invokevirtual 162, 3) := by decide +kernel
theorem dX11_quarrel_36 : decode cX11_quarrel 36 = .ok (.ifCond .ne 5, 3) := by decide +kernel
theorem dX11_quarrel_39 : decode cX11_quarrel 39 = .ok (.iload_n 3, 1) := by decide +kernel
theorem dX11_quarrel_40 : decode cX11_quarrel 40 = .ok (.ireturn, 1) := by decide +kernel
theorem dX11_quarrel_41 : decode cX11_quarrel 41 = .ok (.iinc 3 1, 3) := by decide +kernel
theorem dX11_quarrel_44 : decode cX11_quarrel 44 = .ok (.goto (-25), 3) := by decide +kernel
theorem dX11_quarrel_47 : decode cX11_quarrel 47 = .ok (.bipush (-9), 2) := by decide +kernel
theorem dX11_quarrel_49 : decode cX11_quarrel 49 = .ok (.ireturn, 1) := by decide +kernel
set_option maxRecDepth 20000 in
theorem ggX11_mayTray_X11_isKind : GoodIn wsX11_mayTray wsX11_isKind := goodIn_r _ [5, 6, 7, 8, 4, 9, 15, 16, 17, 18, 19, 20, 21, 22, 23, 24, 25, 26, 27, 28, 29, 30, 31, 32, 33, 34, 35, 36, 37, 38, 39, 40, 41, 42, 43, 44, 45, 46, 47, 48, 49, 50, 51, 52, 53, 54, 55, 56, 57, 58, 59] rfl (by decide +kernel)
set_option maxRecDepth 20000 in
theorem gX11_mayTray_X11_isKind : GoodIn wsX11_mayTray (wsV RX11 144 RX11 yX11_isKind wsX11_isKind) := goodIn_app (goodIn_of _ (by decide +kernel)) ggX11_mayTray_X11_isKind
set_option maxRecDepth 20000 in
theorem ggX11_mayTray_X11_isWeight : GoodIn wsX11_mayTray wsX11_isWeight := goodIn_r _ [12, 13, 14, 7, 8, 4, 9] rfl (by decide +kernel)
set_option maxRecDepth 20000 in
theorem gX11_mayTray_X11_isWeight : GoodIn wsX11_mayTray (va_wsS RX11 149 yX11_isWeight wsX11_isWeight) := goodIn_app (goodIn_of _ (by decide +kernel)) ggX11_mayTray_X11_isWeight
theorem dX11_mayTray_0 : decode cX11_mayTray 0 = .ok (.aload_n 0, 1) := by decide +kernel
theorem dX11_mayTray_1 : decode cX11_mayTray 1 = .ok (.iload_n 1, 1) := by decide +kernel
theorem dX11_mayTray_2 : decode cX11_mayTray 2 = .ok (.invokevirtual 144, 3) := by decide +kernel
theorem dX11_mayTray_5 : decode cX11_mayTray 5 = .ok (.ifCond .eq 11, 3) := by decide +kernel
theorem dX11_mayTray_8 : decode cX11_mayTray 8 = .ok (.aload_n 0, 1) := by decide +kernel
theorem dX11_mayTray_9 : decode cX11_mayTray 9 = .ok (.iload_n 2, 1) := by decide +kernel
theorem dX11_mayTray_10 : decode cX11_mayTray 10 = .ok (.invokevirtual 144, 3) := by decide +kernel
theorem dX11_mayTray_13 : decode cX11_mayTray 13 = .ok (.ifCond .ne 5, 3) := by decide +kernel
theorem dX11_mayTray_16 : decode cX11_mayTray 16 = .ok (.iconst (-1), 1) := by decide +kernel
theorem dX11_mayTray_17 : decode cX11_mayTray 17 = .ok (.ireturn, 1) := by decide +kernel
theorem dX11_mayTray_18 : decode cX11_mayTray 18 = .ok (.iload_n 3, 1) := by decide +kernel
theorem dX11_mayTray_19 : decode cX11_mayTray 19 = .ok (.iload 4, 2) := by decide +kernel
theorem dX11_mayTray_21 : decode cX11_mayTray 21 = .ok (.invokestatic 149, 3) := by decide +kernel
theorem dX11_mayTray_24 : decode cX11_mayTray 24 = .ok (.ifCond .ne 6, 3) := by decide +kernel
theorem dX11_mayTray_27 : decode cX11_mayTray 27 = .ok (.bipush (-2), 2) := by decide +kernel
theorem dX11_mayTray_29 : decode cX11_mayTray 29 = .ok (.ireturn, 1) := by decide +kernel
theorem dX11_mayTray_30 : decode cX11_mayTray 30 = .ok (.iload_n 1, 1) := by decide +kernel
theorem dX11_mayTray_31 : decode cX11_mayTray 31 = .ok (.iload_n 2, 1) := by decide +kernel
theorem dX11_mayTray_32 : decode cX11_mayTray 32 = .ok (.if_icmp .ne 8, 3) := by decide +kernel
theorem dX11_mayTray_35 : decode cX11_mayTray 35 = .ok (.bipush (-3), 2) := by decide +kernel
theorem dX11_mayTray_37 : decode cX11_mayTray 37 = .ok (.goto 4, 3) := by decide +kernel
theorem dX11_mayTray_40 : decode cX11_mayTray 40 = .ok (.iconst 0, 1) := by decide +kernel
theorem dX11_mayTray_41 : decode cX11_mayTray 41 = .ok (.ireturn, 1) := by decide +kernel
theorem dX11_isPair_0 : decode cX11_isPair 0 = .ok (.iload 5, 2) := by decide +kernel
theorem dX11_isPair_2 : decode cX11_isPair 2 = .ok (.aload_n 0, 1) := by decide +kernel
theorem dX11_isPair_3 : decode cX11_isPair 3 = .ok (.getfield 7, 3) := by decide +kernel
theorem dX11_isPair_6 : decode cX11_isPair 6 = .ok (.iload_n 1, 1) := by decide +kernel
theorem dX11_isPair_7 : decode cX11_isPair 7 = .ok (.iaload, 1) := by decide +kernel
theorem dX11_isPair_8 : decode cX11_isPair 8 = .ok (.imul, 1) := by decide +kernel
theorem dX11_isPair_9 : decode cX11_isPair 9 = .ok (.iload 6, 2) := by decide +kernel
theorem dX11_isPair_11 : decode cX11_isPair 11 = .ok (.aload_n 0, 1) := by decide +kernel
theorem dX11_isPair_12 : decode cX11_isPair 12 = .ok (.getfield 7, 3) := by decide +kernel
theorem dX11_isPair_15 : decode cX11_isPair 15 = .ok (.iload_n 2, 1) := by decide +kernel
theorem dX11_isPair_16 : decode cX11_isPair 16 = .ok (.iaload, 1) := by decide +kernel
theorem dX11_isPair_17 : decode cX11_isPair 17 = .ok (.imul, 1) := by decide +kernel
theorem dX11_isPair_18 : decode cX11_isPair 18 = .ok (.iadd, 1) := by decide +kernel
theorem dX11_isPair_19 : decode cX11_isPair 19 = .ok (.iload 4, 2) := by decide +kernel
theorem dX11_isPair_21 : decode cX11_isPair 21 = .ok (.if_icmp .gt 30, 3) := by decide +kernel
theorem dX11_isPair_24 : decode cX11_isPair 24 = .ok (.iload 5, 2) := by decide +kernel
theorem dX11_isPair_26 : decode cX11_isPair 26 = .ok (.aload_n 0, 1) := by decide +kernel
theorem dX11_isPair_27 : decode cX11_isPair 27 = .ok (.getfield 13, 3) := by decide +kernel
theorem dX11_isPair_30 : decode cX11_isPair 30 = .ok (.iload_n 1, 1) := by decide +kernel
theorem dX11_isPair_31 : decode cX11_isPair 31 = .ok (.iaload, 1) := by decide +kernel
theorem dX11_isPair_32 : decode cX11_isPair 32 = .ok (.imul, 1) := by decide +kernel
theorem dX11_isPair_33 : decode cX11_isPair 33 = .ok (.iload 6, 2) := by decide +kernel
theorem dX11_isPair_35 : decode cX11_isPair 35 = .ok (.aload_n 0, 1) := by decide +kernel
theorem dX11_isPair_36 : decode cX11_isPair 36 = .ok (.getfield 13, 3) := by decide +kernel
theorem dX11_isPair_39 : decode cX11_isPair 39 = .ok (.iload_n 2, 1) := by decide +kernel
theorem dX11_isPair_40 : decode cX11_isPair 40 = .ok (.iaload, 1) := by decide +kernel
theorem dX11_isPair_41 : decode cX11_isPair 41 = .ok (.imul, 1) := by decide +kernel
theorem dX11_isPair_42 : decode cX11_isPair 42 = .ok (.iadd, 1) := by decide +kernel
theorem dX11_isPair_43 : decode cX11_isPair 43 = .ok (.iload_n 3, 1) := by decide +kernel
theorem dX11_isPair_44 : decode cX11_isPair 44 = .ok (.if_icmp .lt 7, 3) := by decide +kernel
theorem dX11_isPair_47 : decode cX11_isPair 47 = .ok (.iconst 1, 1) := by decide +kernel
theorem dX11_isPair_48 : decode cX11_isPair 48 = .ok (.goto 4, 3) := by decide +kernel
theorem dX11_isPair_51 : decode cX11_isPair 51 = .ok (.iconst 0, 1) := by decide +kernel
theorem dX11_isPair_52 : decode cX11_isPair 52 = .ok (.ireturn, 1) := by decide +kernel
set_option maxRecDepth 20000 in
theorem ggX11_tray_X11_mayTray : GoodIn wsX11_tray wsX11_mayTray := goodIn_r _ [5, 6, 7, 8, 4, 9, 10, 11, 12, 13, 14, 15, 16, 17, 18, 25, 26, 27, 28, 29, 30, 31, 32, 33, 34, 35, 36, 37, 38, 39, 40, 41, 42, 43, 44, 45, 46, 47, 48, 49, 50, 51, 52, 53, 54, 55, 56, 57, 58, 59, 60, 61, 62, 63, 64, 65, 66, 67, 68, 69] rfl (by decide +kernel)
set_option maxRecDepth 20000 in
theorem gX11_tray_X11_mayTray : GoodIn wsX11_tray (wsV RX11 166 RX11 yX11_mayTray wsX11_mayTray) := goodIn_app (goodIn_of _ (by decide +kernel)) ggX11_tray_X11_mayTray
set_option maxRecDepth 20000 in
theorem ggX11_tray_X11_isPair : GoodIn wsX11_tray wsX11_isPair := goodIn_r _ [22, 23, 24, 25, 26, 27, 28, 29, 30, 31, 32, 33, 34, 35, 36, 37, 38, 39, 40, 41, 42, 43, 44, 45, 46, 47, 48, 49, 50, 51, 52, 53, 54, 55, 56, 57, 58, 59, 60, 61, 62, 63, 64, 65, 66, 67, 68, 69] rfl (by decide +kernel)
set_option maxRecDepth 20000 in
theorem gX11_tray_X11_isPair : GoodIn wsX11_tray (wsV RX11 170 RX11 yX11_isPair wsX11_isPair) := goodIn_app (goodIn_of _ (by decide +kernel)) ggX11_tray_X11_isPair
theorem dX11_tray_0 : decode cX11_tray 0 = .ok (.aload_n 0, 1) := by decide +kernel
theorem dX11_tray_1 : decode cX11_tray 1 = .ok (.iload_n 1, 1) := by decide +kernel
theorem dX11_tray_2 : decode cX11_tray 2 = .ok (.iload_n 2, 1) := by decide +kernel
theorem dX11_tray_3 : decode cX11_tray 3 = .ok (.iload_n 3, 1) := by decide +kernel
theorem dX11_tray_4 : decode cX11_tray 4 = .ok (.iload 4, 2) := by decide +kernel
theorem dX11_tray_6 : decode cX11_tray 6 = .ok (.invokevirtual 166, 3) := by decide +kernel
theorem dX11_tray_9 : decode cX11_tray 9 = .ok (.istore 5, 2) := by decide +kernel
theorem dX11_tray_11 : decode cX11_tray 11 = .ok (.iconst 0, 1) := by decide +kernel
theorem dX11_tray_12 : decode cX11_tray 12 = .ok (.istore 6, 2) := by decide +kernel
theorem dX11_tray_14 : decode cX11_tray 14 = .ok (.iconst 0, 1) := by decide +kernel
theorem dX11_tray_15 : decode cX11_tray 15 = .ok (.istore 7, 2) := by decide +kernel
theorem dX11_tray_17 : decode cX11_tray 17 = .ok (.iload 7, 2) := by decide +kernel
theorem dX11_tray_19 : decode cX11_tray 19 = .ok (.sipush 200, 3) := by decide +kernel
theorem dX11_tray_22 : decode cX11_tray 22 = .ok (.if_icmp .gt 62, 3) := by decide +kernel
theorem dX11_tray_25 : decode cX11_tray 25 = .ok (.iload 5, 2) := by decide +kernel
theorem dX11_tray_27 : decode cX11_tray 27 = .ok (.ifCond .ne 57, 3) := by decide +kernel
theorem dX11_tray_30 : decode cX11_tray 30 = .ok (.iconst 0, 1) := by decide +kernel
theorem dX11_tray_31 : decode cX11_tray 31 = .ok (.istore 8, 2) := by decide +kernel
theorem dX11_tray_33 : decode cX11_tray 33 = .ok (.iload 8, 2) := by decide +kernel
theorem dX11_tray_35 : decode cX11_tray 35 = .ok (.sipush 200, 3) := by decide +kernel
theorem dX11_tray_38 : decode cX11_tray 38 = .ok (.if_icmp .gt 40, 3) := by decide +kernel
theorem dX11_tray_41 : decode cX11_tray 41 = .ok (.iload 6, 2) := by decide +kernel
theorem dX11_tray_43 : decode cX11_tray 43 = .ok (.aload_n 0, 1) := by decide +kernel
theorem dX11_tray_44 : decode cX11_tray 44 = .ok (.iload_n 1, 1) := by decide +kernel
theorem dX11_tray_45 : decode cX11_tray 45 = .ok (.iload_n 2, 1) := by decide +kernel
theorem dX11_tray_46 : decode cX11_tray 46 = .ok (.iload_n 3, 1) := by decide +kernel
theorem dX11_tray_47 : decode cX11_tray 47 = .ok (.iload 4, 2) := by decide +kernel
theorem dX11_tray_49 : decode cX11_tray 49 = .ok (.isub, 1) := by decide +kernel
theorem dX11_tray_50 : decode cX11_tray 50 = .ok (.iload_n 3, 1) := by decide +kernel
theorem dX11_tray_51 : decode cX11_tray 51 = .ok (.iload 4, 2) := by decide +kernel
theorem dX11_tray_53 : decode cX11_tray 53 = .ok (.iadd, 1) := by decide +kernel
theorem dX11_tray_54 : decode cX11_tray 54 = .ok (.iload 7, 2) := by decide +kernel
theorem dX11_tray_56 : decode cX11_tray 56 = .ok (.iload 8, 2) := by decide +kernel
theorem dX11_tray_58 : decode cX11_tray 58 = .ok (.invokevirtual 170, 3) := by decide +kernel
theorem dX11_tray_61 : decode cX11_tray 61 = .ok (.ifCond .eq 7, 3) := by decide +kernel
theorem dX11_tray_64 : decode cX11_tray 64 = .ok (.iconst 1, 1) := by decide +kernel
theorem dX11_tray_65 : decode cX11_tray 65 = .ok (.goto 4, 3) := by decide +kernel
theorem dX11_tray_68 : decode cX11_tray 68 = .ok (.iconst 0, 1) := by decide +kernel
theorem dX11_tray_69 : decode cX11_tray 69 = .ok (.iadd, 1) := by decide +kernel
theorem dX11_tray_70 : decode cX11_tray 70 = .ok (.istore 6, 2) := by decide +kernel
theorem dX11_tray_72 : decode cX11_tray 72 = .ok (.iinc 8 1, 3) := by decide +kernel
theorem dX11_tray_75 : decode cX11_tray 75 = .ok (.goto (-42), 3) := by decide +kernel
theorem dX11_tray_78 : decode cX11_tray 78 = .ok (.iinc 7 1, 3) := by decide +kernel
theorem dX11_tray_81 : decode cX11_tray 81 = .ok (.goto (-64), 3) := by decide +kernel
theorem dX11_tray_84 : decode cX11_tray 84 = .ok (.iload 5, 2) := by decide +kernel
theorem dX11_tray_86 : decode cX11_tray 86 = .ok (.ifCond .ge 8, 3) := by decide +kernel
theorem dX11_tray_89 : decode cX11_tray 89 = .ok (.iload 5, 2) := by decide +kernel
theorem dX11_tray_91 : decode cX11_tray 91 = .ok (.goto 5, 3) := by decide +kernel
theorem dX11_tray_94 : decode cX11_tray 94 = .ok (.iload 6, 2) := by decide +kernel
theorem dX11_tray_96 : decode cX11_tray 96 = .ok (.ireturn, 1) := by decide +kernel
set_option maxRecDepth 20000 in
theorem ggX11_trayPair_X11_mayTray : GoodIn wsX11_trayPair wsX11_mayTray := goodIn_r _ [5, 6, 7, 8, 4, 9, 10, 11, 12, 13, 14, 15, 16, 17, 18, 25, 26, 27, 28, 29, 30, 31, 32, 33, 34, 35, 36, 37, 38, 39, 40, 41, 42, 43, 44, 45, 46, 47, 48, 49, 50, 51, 52, 53, 54, 55, 56, 57, 58, 59, 60, 61, 62, 63, 64, 65, 66, 67, 68, 69] rfl (by decide +kernel)
set_option maxRecDepth 20000 in
theorem gX11_trayPair_X11_mayTray : GoodIn wsX11_trayPair (wsV RX11 166 RX11 yX11_mayTray wsX11_mayTray) := goodIn_app (goodIn_of _ (by decide +kernel)) ggX11_trayPair_X11_mayTray
set_option maxRecDepth 20000 in
theorem ggX11_trayPair_X11_isPair : GoodIn wsX11_trayPair wsX11_isPair := goodIn_r _ [22, 23, 24, 25, 26, 27, 28, 29, 30, 31, 32, 33, 34, 35, 36, 37, 38, 39, 40, 41, 42, 43, 44, 45, 46, 47, 48, 49, 50, 51, 52, 53, 54, 55, 56, 57, 58, 59, 60, 61, 62, 63, 64, 65, 66, 67, 68, 69] rfl (by decide +kernel)
set_option maxRecDepth 20000 in
theorem gX11_trayPair_X11_isPair : GoodIn wsX11_trayPair (wsV RX11 170 RX11 yX11_isPair wsX11_isPair) := goodIn_app (goodIn_of _ (by decide +kernel)) ggX11_trayPair_X11_isPair
theorem dX11_trayPair_0 : decode cX11_trayPair 0 = .ok (.aload_n 0, 1) := by decide +kernel
theorem dX11_trayPair_1 : decode cX11_trayPair 1 = .ok (.iload_n 1, 1) := by decide +kernel
theorem dX11_trayPair_2 : decode cX11_trayPair 2 = .ok (.iload_n 2, 1) := by decide +kernel
theorem dX11_trayPair_3 : decode cX11_trayPair 3 = .ok (.iload_n 3, 1) := by decide +kernel
theorem dX11_trayPair_4 : decode cX11_trayPair 4 = .ok (.iload 4, 2) := by decide +kernel
theorem dX11_trayPair_6 : decode cX11_trayPair 6 = .ok (.invokevirtual 166, 3) := by decide +kernel
theorem dX11_trayPair_9 : decode cX11_trayPair 9 = .ok (.istore 6, 2) := by decide +kernel
theorem dX11_trayPair_11 : decode cX11_trayPair 11 = .ok (.iload 5, 2) := by decide +kernel
theorem dX11_trayPair_13 : decode cX11_trayPair 13 = .ok (.istore 7, 2) := by decide +kernel
theorem dX11_trayPair_15 : decode cX11_trayPair 15 = .ok (.iconst 0, 1) := by decide +kernel
theorem dX11_trayPair_16 : decode cX11_trayPair 16 = .ok (.istore 8, 2) := by decide +kernel
theorem dX11_trayPair_18 : decode cX11_trayPair 18 = .ok (.iload 8, 2) := by decide +kernel
theorem dX11_trayPair_20 : decode cX11_trayPair 20 = .ok (.sipush 200, 3) := by decide +kernel
theorem dX11_trayPair_23 : decode cX11_trayPair 23 = .ok (.if_icmp .gt 75, 3) := by decide +kernel
theorem dX11_trayPair_26 : decode cX11_trayPair 26 = .ok (.iload 6, 2) := by decide +kernel
theorem dX11_trayPair_28 : decode cX11_trayPair 28 = .ok (.ifCond .ne 70, 3) := by decide +kernel
theorem dX11_trayPair_31 : decode cX11_trayPair 31 = .ok (.iload 5, 2) := by decide +kernel
theorem dX11_trayPair_33 : decode cX11_trayPair 33 = .ok (.ifCond .lt 65, 3) := by decide +kernel
theorem dX11_trayPair_36 : decode cX11_trayPair 36 = .ok (.iconst 0, 1) := by decide +kernel
theorem dX11_trayPair_37 : decode cX11_trayPair 37 = .ok (.istore 9, 2) := by decide +kernel
theorem dX11_trayPair_39 : decode cX11_trayPair 39 = .ok (.iload 9, 2) := by decide +kernel
theorem dX11_trayPair_41 : decode cX11_trayPair 41 = .ok (.sipush 200, 3) := by decide +kernel
theorem dX11_trayPair_44 : decode cX11_trayPair 44 = .ok (.if_icmp .gt 48, 3) := by decide +kernel
theorem dX11_trayPair_47 : decode cX11_trayPair 47 = .ok (.aload_n 0, 1) := by decide +kernel
theorem dX11_trayPair_48 : decode cX11_trayPair 48 = .ok (.iload_n 1, 1) := by decide +kernel
theorem dX11_trayPair_49 : decode cX11_trayPair 49 = .ok (.iload_n 2, 1) := by decide +kernel
theorem dX11_trayPair_50 : decode cX11_trayPair 50 = .ok (.iload_n 3, 1) := by decide +kernel
theorem dX11_trayPair_51 : decode cX11_trayPair 51 = .ok (.iload 4, 2) := by decide +kernel
theorem dX11_trayPair_53 : decode cX11_trayPair 53 = .ok (.isub, 1) := by decide +kernel
theorem dX11_trayPair_54 : decode cX11_trayPair 54 = .ok (.iload_n 3, 1) := by decide +kernel
theorem dX11_trayPair_55 : decode cX11_trayPair 55 = .ok (.iload 4, 2) := by decide +kernel
theorem dX11_trayPair_57 : decode cX11_trayPair 57 = .ok (.iadd, 1) := by decide +kernel
theorem dX11_trayPair_58 : decode cX11_trayPair 58 = .ok (.iload 8, 2) := by decide +kernel
theorem dX11_trayPair_60 : decode cX11_trayPair 60 = .ok (.iload 9, 2) := by decide +kernel
theorem dX11_trayPair_62 : decode cX11_trayPair 62 = .ok (.invokevirtual 170, 3) := by decide +kernel
theorem dX11_trayPair_65 : decode cX11_trayPair 65 = .ok (.ifCond .eq 21, 3) := by decide +kernel
theorem dX11_trayPair_68 : decode cX11_trayPair 68 = .ok (.iload 7, 2) := by decide +kernel
theorem dX11_trayPair_70 : decode cX11_trayPair 70 = .ok (.ifCond .ne 13, 3) := by decide +kernel
theorem dX11_trayPair_73 : decode cX11_trayPair 73 = .ok (.sipush 1000, 3) := by decide +kernel
theorem dX11_trayPair_76 : decode cX11_trayPair 76 = .ok (.iload 8, 2) := by decide +kernel
theorem dX11_trayPair_78 : decode cX11_trayPair 78 = .ok (.imul, 1) := by decide +kernel
theorem dX11_trayPair_79 : decode cX11_trayPair 79 = .ok (.iload 9, 2) := by decide +kernel
theorem dX11_trayPair_81 : decode cX11_trayPair 81 = .ok (.iadd, 1) := by decide +kernel
theorem dX11_trayPair_82 : decode cX11_trayPair 82 = .ok (.ireturn, 1) := by decide +kernel
theorem dX11_trayPair_83 : decode cX11_trayPair 83 = .ok (.iinc 7 (-1), 3) := by decide +kernel
theorem dX11_trayPair_86 : decode cX11_trayPair 86 = .ok (.iinc 9 1, 3) := by decide +kernel
theorem dX11_trayPair_89 : decode cX11_trayPair 89 = .ok (.goto (-50), 3) := by decide +kernel
theorem dX11_trayPair_92 : decode cX11_trayPair 92 = .ok (.iinc 8 1, 3) := by decide +kernel
theorem dX11_trayPair_95 : decode cX11_trayPair 95 = .ok (.goto (-77), 3) := by decide +kernel
theorem dX11_trayPair_98 : decode cX11_trayPair 98 = .ok (.iload 6, 2) := by decide +kernel
theorem dX11_trayPair_100 : decode cX11_trayPair 100 = .ok (.ifCond .ge 8, 3) := by decide +kernel
theorem dX11_trayPair_103 : decode cX11_trayPair 103 = .ok (.iload 6, 2) := by decide +kernel
theorem dX11_trayPair_105 : decode cX11_trayPair 105 = .ok (.goto 5, 3) := by decide +kernel
theorem dX11_trayPair_108 : decode cX11_trayPair 108 = .ok (.bipush (-9), 2) := by decide +kernel
theorem dX11_trayPair_110 : decode cX11_trayPair 110 = .ok (.ireturn, 1) := by decide +kernel
set_option maxRecDepth 20000 in
theorem ggX11_ledger_X11_isHouse : GoodIn wsX11_ledger wsX11_isHouse := goodIn_r _ [7, 8, 9, 10, 6, 11] rfl (by decide +kernel)
set_option maxRecDepth 20000 in
theorem gX11_ledger_X11_isHouse : GoodIn wsX11_ledger (va_wsS RX11 140 yX11_isHouse wsX11_isHouse) := goodIn_app (goodIn_of _ (by decide +kernel)) ggX11_ledger_X11_isHouse
set_option maxRecDepth 20000 in
theorem ggX11_ledger_X11_isKind : GoodIn wsX11_ledger wsX11_isKind := goodIn_r _ [15, 16, 9, 10, 6, 11, 17, 18, 19, 20, 21, 22, 23, 24, 25, 26, 27, 28, 29, 30, 31, 32, 33, 34, 35, 36, 37, 38, 39, 40, 41, 42, 43, 44, 45, 46, 47, 48, 49, 50, 51, 52, 53, 54, 55, 56, 57, 58, 59, 60, 61] rfl (by decide +kernel)
set_option maxRecDepth 20000 in
theorem gX11_ledger_X11_isKind : GoodIn wsX11_ledger (wsV RX11 144 RX11 yX11_isKind wsX11_isKind) := goodIn_app (goodIn_of _ (by decide +kernel)) ggX11_ledger_X11_isKind
set_option maxRecDepth 20000 in
theorem ggX11_ledger_X11_in : GoodIn wsX11_ledger wsX11_in := goodIn_r _ [11] rfl (by decide +kernel)
set_option maxRecDepth 20000 in
theorem gX11_ledger_X11_in : GoodIn wsX11_ledger (va_wsS RX11 127 yX11_in wsX11_in) := goodIn_app (goodIn_of _ (by decide +kernel)) ggX11_ledger_X11_in
theorem dX11_ledger_0 : decode cX11_ledger 0 = .ok (.iload_n 1, 1) := by decide +kernel
theorem dX11_ledger_1 : decode cX11_ledger 1 = .ok (.invokestatic 140, 3) := by decide +kernel
theorem dX11_ledger_4 : decode cX11_ledger 4 = .ok (.ifCond .eq 11, 3) := by decide +kernel
theorem dX11_ledger_7 : decode cX11_ledger 7 = .ok (.aload_n 0, 1) := by decide +kernel
theorem dX11_ledger_8 : decode cX11_ledger 8 = .ok (.iload_n 2, 1) := by decide +kernel
theorem dX11_ledger_9 : decode cX11_ledger 9 = .ok (.invokevirtual 144, 3) := by decide +kernel
theorem dX11_ledger_12 : decode cX11_ledger 12 = .ok (.ifCond .ne 5, 3) := by decide +kernel
theorem dX11_ledger_15 : decode cX11_ledger 15 = .ok (.iconst (-1), 1) := by decide +kernel
theorem dX11_ledger_16 : decode cX11_ledger 16 = .ok (.ireturn, 1) := by decide +kernel
theorem dX11_ledger_17 : decode cX11_ledger 17 = .ok (.iload_n 3, 1) := by decide +kernel
theorem dX11_ledger_18 : decode cX11_ledger 18 = .ok (.i2l, 1) := by decide +kernel
theorem dX11_ledger_19 : decode cX11_ledger 19 = .ok (.lconst 0, 1) := by decide +kernel
theorem dX11_ledger_20 : decode cX11_ledger 20 = .ok (.ldc2_w 174, 3) := by decide +kernel
theorem dX11_ledger_23 : decode cX11_ledger 23 = .ok (.invokestatic 127, 3) := by decide +kernel
theorem dX11_ledger_26 : decode cX11_ledger 26 = .ok (.ifCond .eq 16, 3) := by decide +kernel
theorem dX11_ledger_29 : decode cX11_ledger 29 = .ok (.iload 4, 2) := by decide +kernel
theorem dX11_ledger_31 : decode cX11_ledger 31 = .ok (.i2l, 1) := by decide +kernel
theorem dX11_ledger_32 : decode cX11_ledger 32 = .ok (.lconst 0, 1) := by decide +kernel
theorem dX11_ledger_33 : decode cX11_ledger 33 = .ok (.ldc2_w 147, 3) := by decide +kernel
theorem dX11_ledger_36 : decode cX11_ledger 36 = .ok (.invokestatic 127, 3) := by decide +kernel
theorem dX11_ledger_39 : decode cX11_ledger 39 = .ok (.ifCond .ne 6, 3) := by decide +kernel
theorem dX11_ledger_42 : decode cX11_ledger 42 = .ok (.bipush (-2), 2) := by decide +kernel
theorem dX11_ledger_44 : decode cX11_ledger 44 = .ok (.ireturn, 1) := by decide +kernel
theorem dX11_ledger_45 : decode cX11_ledger 45 = .ok (.aload_n 0, 1) := by decide +kernel
theorem dX11_ledger_46 : decode cX11_ledger 46 = .ok (.getfield 19, 3) := by decide +kernel
theorem dX11_ledger_49 : decode cX11_ledger 49 = .ok (.bipush 18, 2) := by decide +kernel
theorem dX11_ledger_51 : decode cX11_ledger 51 = .ok (.iload_n 1, 1) := by decide +kernel
theorem dX11_ledger_52 : decode cX11_ledger 52 = .ok (.imul, 1) := by decide +kernel
theorem dX11_ledger_53 : decode cX11_ledger 53 = .ok (.iconst 3, 1) := by decide +kernel
theorem dX11_ledger_54 : decode cX11_ledger 54 = .ok (.iload_n 2, 1) := by decide +kernel
theorem dX11_ledger_55 : decode cX11_ledger 55 = .ok (.imul, 1) := by decide +kernel
theorem dX11_ledger_56 : decode cX11_ledger 56 = .ok (.iadd, 1) := by decide +kernel
theorem dX11_ledger_57 : decode cX11_ledger 57 = .ok (.iload_n 3, 1) := by decide +kernel
theorem dX11_ledger_58 : decode cX11_ledger 58 = .ok (.iadd, 1) := by decide +kernel
theorem dX11_ledger_59 : decode cX11_ledger 59 = .ok (.iaload, 1) := by decide +kernel
theorem dX11_ledger_60 : decode cX11_ledger 60 = .ok (.istore 5, 2) := by decide +kernel
theorem dX11_ledger_62 : decode cX11_ledger 62 = .ok (.aload_n 0, 1) := by decide +kernel
theorem dX11_ledger_63 : decode cX11_ledger 63 = .ok (.getfield 19, 3) := by decide +kernel
theorem dX11_ledger_66 : decode cX11_ledger 66 = .ok (.bipush 18, 2) := by decide +kernel
theorem dX11_ledger_68 : decode cX11_ledger 68 = .ok (.iload_n 1, 1) := by decide +kernel
theorem dX11_ledger_69 : decode cX11_ledger 69 = .ok (.imul, 1) := by decide +kernel
theorem dX11_ledger_70 : decode cX11_ledger 70 = .ok (.iconst 3, 1) := by decide +kernel
theorem dX11_ledger_71 : decode cX11_ledger 71 = .ok (.iload_n 2, 1) := by decide +kernel
theorem dX11_ledger_72 : decode cX11_ledger 72 = .ok (.imul, 1) := by decide +kernel
theorem dX11_ledger_73 : decode cX11_ledger 73 = .ok (.iadd, 1) := by decide +kernel
theorem dX11_ledger_74 : decode cX11_ledger 74 = .ok (.iload_n 3, 1) := by decide +kernel
theorem dX11_ledger_75 : decode cX11_ledger 75 = .ok (.iadd, 1) := by decide +kernel
theorem dX11_ledger_76 : decode cX11_ledger 76 = .ok (.iload 4, 2) := by decide +kernel
theorem dX11_ledger_78 : decode cX11_ledger 78 = .ok (.iastore, 1) := by decide +kernel
theorem dX11_ledger_79 : decode cX11_ledger 79 = .ok (.iload 5, 2) := by decide +kernel
theorem dX11_ledger_81 : decode cX11_ledger 81 = .ok (.ireturn, 1) := by decide +kernel
theorem dX11_missingOf_0 : decode cX11_missingOf 0 = .ok (.bipush 18, 2) := by decide +kernel
theorem dX11_missingOf_2 : decode cX11_missingOf 2 = .ok (.iload_n 1, 1) := by decide +kernel
theorem dX11_missingOf_3 : decode cX11_missingOf 3 = .ok (.imul, 1) := by decide +kernel
theorem dX11_missingOf_4 : decode cX11_missingOf 4 = .ok (.iconst 3, 1) := by decide +kernel
theorem dX11_missingOf_5 : decode cX11_missingOf 5 = .ok (.iload_n 2, 1) := by decide +kernel
theorem dX11_missingOf_6 : decode cX11_missingOf 6 = .ok (.imul, 1) := by decide +kernel
theorem dX11_missingOf_7 : decode cX11_missingOf 7 = .ok (.iadd, 1) := by decide +kernel
theorem dX11_missingOf_8 : decode cX11_missingOf 8 = .ok (.istore 4, 2) := by decide +kernel
theorem dX11_missingOf_10 : decode cX11_missingOf 10 = .ok (.aload_n 0, 1) := by decide +kernel
theorem dX11_missingOf_11 : decode cX11_missingOf 11 = .ok (.getfield 16, 3) := by decide +kernel
theorem dX11_missingOf_14 : decode cX11_missingOf 14 = .ok (.bipush 6, 2) := by decide +kernel
theorem dX11_missingOf_16 : decode cX11_missingOf 16 = .ok (.iload_n 1, 1) := by decide +kernel
theorem dX11_missingOf_17 : decode cX11_missingOf 17 = .ok (.imul, 1) := by decide +kernel
theorem dX11_missingOf_18 : decode cX11_missingOf 18 = .ok (.iload_n 2, 1) := by decide +kernel
theorem dX11_missingOf_19 : decode cX11_missingOf 19 = .ok (.iadd, 1) := by decide +kernel
theorem dX11_missingOf_20 : decode cX11_missingOf 20 = .ok (.iaload, 1) := by decide +kernel
theorem dX11_missingOf_21 : decode cX11_missingOf 21 = .ok (.aload_n 0, 1) := by decide +kernel
theorem dX11_missingOf_22 : decode cX11_missingOf 22 = .ok (.getfield 19, 3) := by decide +kernel
theorem dX11_missingOf_25 : decode cX11_missingOf 25 = .ok (.iload 4, 2) := by decide +kernel
theorem dX11_missingOf_27 : decode cX11_missingOf 27 = .ok (.iaload, 1) := by decide +kernel
theorem dX11_missingOf_28 : decode cX11_missingOf 28 = .ok (.isub, 1) := by decide +kernel
theorem dX11_missingOf_29 : decode cX11_missingOf 29 = .ok (.aload_n 0, 1) := by decide +kernel
theorem dX11_missingOf_30 : decode cX11_missingOf 30 = .ok (.getfield 19, 3) := by decide +kernel
theorem dX11_missingOf_33 : decode cX11_missingOf 33 = .ok (.iload 4, 2) := by decide +kernel
theorem dX11_missingOf_35 : decode cX11_missingOf 35 = .ok (.iconst 1, 1) := by decide +kernel
theorem dX11_missingOf_36 : decode cX11_missingOf 36 = .ok (.iadd, 1) := by decide +kernel
theorem dX11_missingOf_37 : decode cX11_missingOf 37 = .ok (.iaload, 1) := by decide +kernel
theorem dX11_missingOf_38 : decode cX11_missingOf 38 = .ok (.isub, 1) := by decide +kernel
theorem dX11_missingOf_39 : decode cX11_missingOf 39 = .ok (.aload_n 0, 1) := by decide +kernel
theorem dX11_missingOf_40 : decode cX11_missingOf 40 = .ok (.getfield 19, 3) := by decide +kernel
theorem dX11_missingOf_43 : decode cX11_missingOf 43 = .ok (.iload 4, 2) := by decide +kernel
theorem dX11_missingOf_45 : decode cX11_missingOf 45 = .ok (.iconst 2, 1) := by decide +kernel
theorem dX11_missingOf_46 : decode cX11_missingOf 46 = .ok (.iadd, 1) := by decide +kernel
theorem dX11_missingOf_47 : decode cX11_missingOf 47 = .ok (.iaload, 1) := by decide +kernel
theorem dX11_missingOf_48 : decode cX11_missingOf 48 = .ok (.isub, 1) := by decide +kernel
theorem dX11_missingOf_49 : decode cX11_missingOf 49 = .ok (.istore 5, 2) := by decide +kernel
theorem dX11_missingOf_51 : decode cX11_missingOf 51 = .ok (.iload 5, 2) := by decide +kernel
theorem dX11_missingOf_53 : decode cX11_missingOf 53 = .ok (.iload_n 3, 1) := by decide +kernel
theorem dX11_missingOf_54 : decode cX11_missingOf 54 = .ok (.ifCond .eq 10, 3) := by decide +kernel
theorem dX11_missingOf_57 : decode cX11_missingOf 57 = .ok (.aload_n 0, 1) := by decide +kernel
theorem dX11_missingOf_58 : decode cX11_missingOf 58 = .ok (.getfield 156, 3) := by decide +kernel
theorem dX11_missingOf_61 : decode cX11_missingOf 61 = .ok (.goto 7, 3) := by decide +kernel
theorem dX11_missingOf_64 : decode cX11_missingOf 64 = .ok (.aload_n 0, 1) := by decide +kernel
theorem dX11_missingOf_65 : decode cX11_missingOf 65 = .ok (.getfield 159, 3) := by decide +kernel
theorem dX11_missingOf_68 : decode cX11_missingOf 68 = .ok (.isub, 1) := by decide +kernel
theorem dX11_missingOf_69 : decode cX11_missingOf 69 = .ok (.istore 6, 2) := by decide +kernel
theorem dX11_missingOf_71 : decode cX11_missingOf 71 = .ok (.iload 6, 2) := by decide +kernel
theorem dX11_missingOf_73 : decode cX11_missingOf 73 = .ok (.ifCond .ge 7, 3) := by decide +kernel
theorem dX11_missingOf_76 : decode cX11_missingOf 76 = .ok (.iconst 0, 1) := by decide +kernel
theorem dX11_missingOf_77 : decode cX11_missingOf 77 = .ok (.goto 5, 3) := by decide +kernel
theorem dX11_missingOf_80 : decode cX11_missingOf 80 = .ok (.iload 6, 2) := by decide +kernel
theorem dX11_missingOf_82 : decode cX11_missingOf 82 = .ok (.ireturn, 1) := by decide +kernel
set_option maxRecDepth 20000 in
theorem ggX11_missing_X11_isHouse : GoodIn wsX11_missing wsX11_isHouse := goodIn_r _ [5, 6, 7, 8, 4, 9] rfl (by decide +kernel)
set_option maxRecDepth 20000 in
theorem gX11_missing_X11_isHouse : GoodIn wsX11_missing (va_wsS RX11 140 yX11_isHouse wsX11_isHouse) := goodIn_app (goodIn_of _ (by decide +kernel)) ggX11_missing_X11_isHouse
set_option maxRecDepth 20000 in
theorem ggX11_missing_X11_isKind : GoodIn wsX11_missing wsX11_isKind := goodIn_r _ [13, 14, 7, 8, 4, 9, 34, 35, 36, 37, 38, 39, 40, 41, 42, 43, 44, 45, 46, 47, 48, 49, 50, 51, 52, 53, 54, 55, 56, 57, 58, 59, 60, 61, 62, 63, 64, 65, 66, 67, 68, 69, 70, 71, 72, 73, 74, 75, 76, 77, 78] rfl (by decide +kernel)
set_option maxRecDepth 20000 in
theorem gX11_missing_X11_isKind : GoodIn wsX11_missing (wsV RX11 144 RX11 yX11_isKind wsX11_isKind) := goodIn_app (goodIn_of _ (by decide +kernel)) ggX11_missing_X11_isKind
set_option maxRecDepth 20000 in
theorem ggX11_missing_X11_laySpan : GoodIn wsX11_missing wsX11_laySpan := goodIn_r _ [18, 19, 20, 21, 22, 23, 24, 25, 26, 27, 34, 35, 36, 37, 38, 39, 40, 41, 42, 43, 44, 45, 46, 47, 48, 49, 50, 51, 52, 53, 54, 55, 56, 57, 58, 59, 60, 61, 62, 63, 64, 65, 66, 67, 68, 69, 70, 71, 72, 73, 74, 75, 76, 77, 78] rfl (by decide +kernel)
set_option maxRecDepth 20000 in
theorem gX11_missing_X11_laySpan : GoodIn wsX11_missing (wsV RX11 162 RX11 yX11_laySpan wsX11_laySpan) := goodIn_app (goodIn_of _ (by decide +kernel)) ggX11_missing_X11_laySpan
set_option maxRecDepth 20000 in
theorem ggX11_missing_X11_missingOf : GoodIn wsX11_missing wsX11_missingOf := goodIn_r _ [31, 32, 33, 19, 20, 34, 35, 36, 37, 38, 39, 40, 41, 42, 43, 44, 45, 46, 47, 48, 49, 50, 51, 52, 53, 54, 55, 56, 57, 58, 59, 60, 61, 62, 63, 64, 65, 66, 67, 68, 69, 70, 71, 72, 73, 74, 75, 76, 77, 78] rfl (by decide +kernel)
set_option maxRecDepth 20000 in
theorem gX11_missing_X11_missingOf : GoodIn wsX11_missing (wsV RX11 176 RX11 yX11_missingOf wsX11_missingOf) := goodIn_app (goodIn_of _ (by decide +kernel)) ggX11_missing_X11_missingOf
theorem dX11_missing_0 : decode cX11_missing 0 = .ok (.iload_n 1, 1) := by decide +kernel
theorem dX11_missing_1 : decode cX11_missing 1 = .ok (.invokestatic 140, 3) := by decide +kernel
theorem dX11_missing_4 : decode cX11_missing 4 = .ok (.ifCond .eq 11, 3) := by decide +kernel
theorem dX11_missing_7 : decode cX11_missing 7 = .ok (.aload_n 0, 1) := by decide +kernel
theorem dX11_missing_8 : decode cX11_missing 8 = .ok (.iload_n 2, 1) := by decide +kernel
theorem dX11_missing_9 : decode cX11_missing 9 = .ok (.invokevirtual 144, 3) := by decide +kernel
theorem dX11_missing_12 : decode cX11_missing 12 = .ok (.ifCond .ne 5, 3) := by decide +kernel
theorem dX11_missing_15 : decode cX11_missing 15 = .ok (.iconst (-1), 1) := by decide +kernel
theorem dX11_missing_16 : decode cX11_missing 16 = .ok (.ireturn, 1) := by decide +kernel
theorem dX11_missing_17 : decode cX11_missing 17 = .ok (.aload_n 0, 1) := by decide +kernel
theorem dX11_missing_18 : decode cX11_missing 18 = .ok (.iload_n 1, 1) := by decide +kernel
theorem dX11_missing_19 : decode cX11_missing 19 = .ok (.iload_n 2, 1) := by decide +kernel
theorem dX11_missing_20 : decode cX11_missing 20 = .ok (.aload_n 0, 1) := by decide +kernel
theorem dX11_missing_21 : decode cX11_missing 21 = .ok (.getfield 153, 3) := by decide +kernel
theorem dX11_missing_24 : decode cX11_missing 24 = .ok (.invokevirtual 162, 3) := by decide +kernel
theorem dX11_missing_27 : decode cX11_missing 27 = .ok (.ifCond .eq 13, 3) := by decide +kernel
theorem dX11_missing_30 : decode cX11_missing 30 = .ok (.aload_n 0, 1) := by decide +kernel
theorem dX11_missing_31 : decode cX11_missing 31 = .ok (.iload_n 1, 1) := by decide +kernel
theorem dX11_missing_32 : decode cX11_missing 32 = .ok (.iload_n 2, 1) := by decide +kernel
theorem dX11_missing_33 : decode cX11_missing 33 = .ok (.iload_n 3, 1) := by decide +kernel
theorem dX11_missing_34 : decode cX11_missing 34 = .ok (.invokevirtual 176, 3) := by decide +kernel
theorem dX11_missing_37 : decode cX11_missing 37 = .ok (.goto 5, 3) := by decide +kernel
theorem dX11_missing_40 : decode cX11_missing 40 = .ok (.bipush (-3), 2) := by decide +kernel
theorem dX11_missing_42 : decode cX11_missing 42 = .ok (.ireturn, 1) := by decide +kernel
set_option maxRecDepth 20000 in
theorem ggX11_worst_X11_laySpan : GoodIn wsX11_worst wsX11_laySpan := goodIn_r _ [7, 8, 9, 10, 11, 12, 13, 14, 15, 16, 23, 24, 25, 26, 27, 28, 29, 30, 31, 32, 33, 34, 35, 36, 37, 38, 39, 40, 41, 42, 43, 44, 45, 46, 47, 48, 49, 50, 51, 52, 53, 54, 55, 56, 57, 58, 59, 60, 61, 62, 63, 64, 65, 66, 67] rfl (by decide +kernel)
set_option maxRecDepth 20000 in
theorem gX11_worst_X11_laySpan : GoodIn wsX11_worst (wsV RX11 162 RX11 yX11_laySpan wsX11_laySpan) := goodIn_app (goodIn_of _ (by decide +kernel)) ggX11_worst_X11_laySpan
set_option maxRecDepth 20000 in
theorem ggX11_worst_X11_missingOf : GoodIn wsX11_worst wsX11_missingOf := goodIn_r _ [20, 21, 22, 8, 9, 23, 24, 25, 26, 27, 28, 29, 30, 31, 32, 33, 34, 35, 36, 37, 38, 39, 40, 41, 42, 43, 44, 45, 46, 47, 48, 49, 50, 51, 52, 53, 54, 55, 56, 57, 58, 59, 60, 61, 62, 63, 64, 65, 66, 67] rfl (by decide +kernel)
set_option maxRecDepth 20000 in
theorem gX11_worst_X11_missingOf : GoodIn wsX11_worst (wsV RX11 176 RX11 yX11_missingOf wsX11_missingOf) := goodIn_app (goodIn_of _ (by decide +kernel)) ggX11_worst_X11_missingOf
theorem dX11_worst_0 : decode cX11_worst 0 = .ok (.bipush (-9), 2) := by decide +kernel
theorem dX11_worst_2 : decode cX11_worst 2 = .ok (.istore_n 1, 1) := by decide +kernel
theorem dX11_worst_3 : decode cX11_worst 3 = .ok (.iconst 0, 1) := by decide +kernel
theorem dX11_worst_4 : decode cX11_worst 4 = .ok (.istore_n 2, 1) := by decide +kernel
theorem dX11_worst_5 : decode cX11_worst 5 = .ok (.iconst 0, 1) := by decide +kernel
theorem dX11_worst_6 : decode cX11_worst 6 = .ok (.istore_n 3, 1) := by decide +kernel
theorem dX11_worst_7 : decode cX11_worst 7 = .ok (.iload_n 3, 1) := by decide +kernel
theorem dX11_worst_8 : decode cX11_worst 8 = .ok (.iconst 5, 1) := by decide +kernel
theorem dX11_worst_9 : decode cX11_worst 9 = .ok (.if_icmp .ge 86, 3) := by decide +kernel
theorem dX11_worst_12 : decode cX11_worst 12 = .ok (.iconst 0, 1) := by decide +kernel
theorem dX11_worst_13 : decode cX11_worst 13 = .ok (.istore 4, 2) := by decide +kernel
theorem dX11_worst_15 : decode cX11_worst 15 = .ok (.iconst 0, 1) := by decide +kernel
theorem dX11_worst_16 : decode cX11_worst 16 = .ok (.istore 5, 2) := by decide +kernel
theorem dX11_worst_18 : decode cX11_worst 18 = .ok (.iload 5, 2) := by decide +kernel
theorem dX11_worst_20 : decode cX11_worst 20 = .ok (.aload_n 0, 1) := by decide +kernel
theorem dX11_worst_21 : decode cX11_worst 21 = .ok (.getfield 131, 3) := by decide +kernel
theorem dX11_worst_24 : decode cX11_worst 24 = .ok (.if_icmp .ge 40, 3) := by decide +kernel
theorem dX11_worst_27 : decode cX11_worst 27 = .ok (.iload 4, 2) := by decide +kernel
theorem dX11_worst_29 : decode cX11_worst 29 = .ok (.aload_n 0, 1) := by decide +kernel
theorem dX11_worst_30 : decode cX11_worst 30 = .ok (.iload_n 3, 1) := by decide +kernel
theorem dX11_worst_31 : decode cX11_worst 31 = .ok (.iload 5, 2) := by decide +kernel
theorem dX11_worst_33 : decode cX11_worst 33 = .ok (.aload_n 0, 1) := by decide +kernel
theorem dX11_worst_34 : decode cX11_worst 34 = .ok (.getfield 153, 3) := by decide +kernel
theorem dX11_worst_37 : decode cX11_worst 37 = .ok (.invokevirtual 162, 3) := by decide +kernel
theorem dX11_worst_40 : decode cX11_worst 40 = .ok (.ifCond .eq 14, 3) := by decide +kernel
theorem dX11_worst_43 : decode cX11_worst 43 = .ok (.aload_n 0, 1) := by decide +kernel
theorem dX11_worst_44 : decode cX11_worst 44 = .ok (.iload_n 3, 1) := by decide +kernel
theorem dX11_worst_45 : decode cX11_worst 45 = .ok (.iload 5, 2) := by decide +kernel
theorem dX11_worst_47 : decode cX11_worst 47 = .ok (.iconst 0, 1) := by decide +kernel
theorem dX11_worst_48 : decode cX11_worst 48 = .ok (.invokevirtual 176, 3) := by decide +kernel
theorem dX11_worst_51 : decode cX11_worst 51 = .ok (.goto 4, 3) := by decide +kernel
theorem dX11_worst_54 : decode cX11_worst 54 = .ok (.iconst 0, 1) := by decide +kernel
theorem dX11_worst_55 : decode cX11_worst 55 = .ok (.iadd, 1) := by decide +kernel
theorem dX11_worst_56 : decode cX11_worst 56 = .ok (.istore 4, 2) := by decide +kernel
theorem dX11_worst_58 : decode cX11_worst 58 = .ok (.iinc 5 1, 3) := by decide +kernel
theorem dX11_worst_61 : decode cX11_worst 61 = .ok (.goto (-43), 3) := by decide +kernel
theorem dX11_worst_64 : decode cX11_worst 64 = .ok (.iload 4, 2) := by decide +kernel
theorem dX11_worst_66 : decode cX11_worst 66 = .ok (.iload_n 2, 1) := by decide +kernel
theorem dX11_worst_67 : decode cX11_worst 67 = .ok (.if_icmp .le 7, 3) := by decide +kernel
theorem dX11_worst_70 : decode cX11_worst 70 = .ok (.iload_n 3, 1) := by decide +kernel
theorem dX11_worst_71 : decode cX11_worst 71 = .ok (.goto 4, 3) := by decide +kernel
theorem dX11_worst_74 : decode cX11_worst 74 = .ok (.iload_n 1, 1) := by decide +kernel
theorem dX11_worst_75 : decode cX11_worst 75 = .ok (.istore_n 1, 1) := by decide +kernel
theorem dX11_worst_76 : decode cX11_worst 76 = .ok (.iload 4, 2) := by decide +kernel
theorem dX11_worst_78 : decode cX11_worst 78 = .ok (.iload_n 2, 1) := by decide +kernel
theorem dX11_worst_79 : decode cX11_worst 79 = .ok (.if_icmp .le 8, 3) := by decide +kernel
theorem dX11_worst_82 : decode cX11_worst 82 = .ok (.iload 4, 2) := by decide +kernel
theorem dX11_worst_84 : decode cX11_worst 84 = .ok (.goto 4, 3) := by decide +kernel
theorem dX11_worst_87 : decode cX11_worst 87 = .ok (.iload_n 2, 1) := by decide +kernel
theorem dX11_worst_88 : decode cX11_worst 88 = .ok (.istore_n 2, 1) := by decide +kernel
theorem dX11_worst_89 : decode cX11_worst 89 = .ok (.iinc 3 1, 3) := by decide +kernel
theorem dX11_worst_92 : decode cX11_worst 92 = .ok (.goto (-85), 3) := by decide +kernel
theorem dX11_worst_95 : decode cX11_worst 95 = .ok (.iload_n 1, 1) := by decide +kernel
theorem dX11_worst_96 : decode cX11_worst 96 = .ok (.ireturn, 1) := by decide +kernel
set_option maxRecDepth 20000 in
theorem ggX11_farness_X11_isHouse : GoodIn wsX11_farness wsX11_isHouse := goodIn_r _ [6, 7, 8, 9, 5, 10] rfl (by decide +kernel)
set_option maxRecDepth 20000 in
theorem gX11_farness_X11_isHouse : GoodIn wsX11_farness (va_wsS RX11 140 yX11_isHouse wsX11_isHouse) := goodIn_app (goodIn_of _ (by decide +kernel)) ggX11_farness_X11_isHouse
set_option maxRecDepth 20000 in
theorem ggX11_farness_X11_in : GoodIn wsX11_farness wsX11_in := goodIn_r _ [10] rfl (by decide +kernel)
set_option maxRecDepth 20000 in
theorem gX11_farness_X11_in : GoodIn wsX11_farness (va_wsS RX11 127 yX11_in wsX11_in) := goodIn_app (goodIn_of _ (by decide +kernel)) ggX11_farness_X11_in
theorem dX11_farness_0 : decode cX11_farness 0 = .ok (.iload_n 1, 1) := by decide +kernel
theorem dX11_farness_1 : decode cX11_farness 1 = .ok (.invokestatic 140, 3) := by decide +kernel
theorem dX11_farness_4 : decode cX11_farness 4 = .ok (.ifCond .eq 10, 3) := by decide +kernel
theorem dX11_farness_7 : decode cX11_farness 7 = .ok (.iload_n 2, 1) := by decide +kernel
theorem dX11_farness_8 : decode cX11_farness 8 = .ok (.invokestatic 140, 3) := by decide +kernel
theorem dX11_farness_11 : decode cX11_farness 11 = .ok (.ifCond .ne 5, 3) := by decide +kernel
theorem dX11_farness_14 : decode cX11_farness 14 = .ok (.iconst (-1), 1) := by decide +kernel
theorem dX11_farness_15 : decode cX11_farness 15 = .ok (.ireturn, 1) := by decide +kernel
theorem dX11_farness_16 : decode cX11_farness 16 = .ok (.iload_n 3, 1) := by decide +kernel
theorem dX11_farness_17 : decode cX11_farness 17 = .ok (.i2l, 1) := by decide +kernel
theorem dX11_farness_18 : decode cX11_farness 18 = .ok (.lconst 0, 1) := by decide +kernel
theorem dX11_farness_19 : decode cX11_farness 19 = .ok (.ldc2_w 180, 3) := by decide +kernel
theorem dX11_farness_22 : decode cX11_farness 22 = .ok (.invokestatic 127, 3) := by decide +kernel
theorem dX11_farness_25 : decode cX11_farness 25 = .ok (.ifCond .ne 6, 3) := by decide +kernel
theorem dX11_farness_28 : decode cX11_farness 28 = .ok (.bipush (-2), 2) := by decide +kernel
theorem dX11_farness_30 : decode cX11_farness 30 = .ok (.ireturn, 1) := by decide +kernel
theorem dX11_farness_31 : decode cX11_farness 31 = .ok (.iload_n 1, 1) := by decide +kernel
theorem dX11_farness_32 : decode cX11_farness 32 = .ok (.iload_n 2, 1) := by decide +kernel
theorem dX11_farness_33 : decode cX11_farness 33 = .ok (.if_icmp .ne 6, 3) := by decide +kernel
theorem dX11_farness_36 : decode cX11_farness 36 = .ok (.bipush (-3), 2) := by decide +kernel
theorem dX11_farness_38 : decode cX11_farness 38 = .ok (.ireturn, 1) := by decide +kernel
theorem dX11_farness_39 : decode cX11_farness 39 = .ok (.aload_n 0, 1) := by decide +kernel
theorem dX11_farness_40 : decode cX11_farness 40 = .ok (.getfield 38, 3) := by decide +kernel
theorem dX11_farness_43 : decode cX11_farness 43 = .ok (.iconst 5, 1) := by decide +kernel
theorem dX11_farness_44 : decode cX11_farness 44 = .ok (.iload_n 1, 1) := by decide +kernel
theorem dX11_farness_45 : decode cX11_farness 45 = .ok (.imul, 1) := by decide +kernel
theorem dX11_farness_46 : decode cX11_farness 46 = .ok (.iload_n 2, 1) := by decide +kernel
theorem dX11_farness_47 : decode cX11_farness 47 = .ok (.iadd, 1) := by decide +kernel
theorem dX11_farness_48 : decode cX11_farness 48 = .ok (.iaload, 1) := by decide +kernel
theorem dX11_farness_49 : decode cX11_farness 49 = .ok (.istore 4, 2) := by decide +kernel
theorem dX11_farness_51 : decode cX11_farness 51 = .ok (.aload_n 0, 1) := by decide +kernel
theorem dX11_farness_52 : decode cX11_farness 52 = .ok (.getfield 38, 3) := by decide +kernel
theorem dX11_farness_55 : decode cX11_farness 55 = .ok (.iconst 5, 1) := by decide +kernel
theorem dX11_farness_56 : decode cX11_farness 56 = .ok (.iload_n 1, 1) := by decide +kernel
theorem dX11_farness_57 : decode cX11_farness 57 = .ok (.imul, 1) := by decide +kernel
theorem dX11_farness_58 : decode cX11_farness 58 = .ok (.iload_n 2, 1) := by decide +kernel
theorem dX11_farness_59 : decode cX11_farness 59 = .ok (.iadd, 1) := by decide +kernel
theorem dX11_farness_60 : decode cX11_farness 60 = .ok (.iload_n 3, 1) := by decide +kernel
theorem dX11_farness_61 : decode cX11_farness 61 = .ok (.iastore, 1) := by decide +kernel
theorem dX11_farness_62 : decode cX11_farness 62 = .ok (.aload_n 0, 1) := by decide +kernel
theorem dX11_farness_63 : decode cX11_farness 63 = .ok (.getfield 38, 3) := by decide +kernel
theorem dX11_farness_66 : decode cX11_farness 66 = .ok (.iconst 5, 1) := by decide +kernel
theorem dX11_farness_67 : decode cX11_farness 67 = .ok (.iload_n 2, 1) := by decide +kernel
theorem dX11_farness_68 : decode cX11_farness 68 = .ok (.imul, 1) := by decide +kernel
theorem dX11_farness_69 : decode cX11_farness 69 = .ok (.iload_n 1, 1) := by decide +kernel
theorem dX11_farness_70 : decode cX11_farness 70 = .ok (.iadd, 1) := by decide +kernel
theorem dX11_farness_71 : decode cX11_farness 71 = .ok (.iload_n 3, 1) := by decide +kernel
theorem dX11_farness_72 : decode cX11_farness 72 = .ok (.iastore, 1) := by decide +kernel
theorem dX11_farness_73 : decode cX11_farness 73 = .ok (.iload 4, 2) := by decide +kernel
theorem dX11_farness_75 : decode cX11_farness 75 = .ok (.ireturn, 1) := by decide +kernel
set_option maxRecDepth 20000 in
theorem ggX11_event_X11_isHouse : GoodIn wsX11_event wsX11_isHouse := goodIn_r _ [11, 12, 13, 14, 10, 15] rfl (by decide +kernel)
set_option maxRecDepth 20000 in
theorem gX11_event_X11_isHouse : GoodIn wsX11_event (va_wsS RX11 140 yX11_isHouse wsX11_isHouse) := goodIn_app (goodIn_of _ (by decide +kernel)) ggX11_event_X11_isHouse
set_option maxRecDepth 20000 in
theorem ggX11_event_X11_isKind : GoodIn wsX11_event wsX11_isKind := goodIn_r _ [19, 20, 13, 14, 10, 15, 21, 22, 23, 24, 25, 26, 27, 28, 29, 30, 31, 32, 33, 34, 35, 36, 37, 38, 39, 40, 41, 42, 43, 44, 45, 46, 47, 48, 49, 50, 51, 52, 53, 54, 55, 56, 57, 58, 59, 60, 61, 62, 63, 64, 65] rfl (by decide +kernel)
set_option maxRecDepth 20000 in
theorem gX11_event_X11_isKind : GoodIn wsX11_event (wsV RX11 144 RX11 yX11_isKind wsX11_isKind) := goodIn_app (goodIn_of _ (by decide +kernel)) ggX11_event_X11_isKind
set_option maxRecDepth 20000 in
theorem ggX11_event_X11_in : GoodIn wsX11_event wsX11_in := goodIn_r _ [15] rfl (by decide +kernel)
set_option maxRecDepth 20000 in
theorem gX11_event_X11_in : GoodIn wsX11_event (va_wsS RX11 127 yX11_in wsX11_in) := goodIn_app (goodIn_of _ (by decide +kernel)) ggX11_event_X11_in
theorem dX11_event_0 : decode cX11_event 0 = .ok (.iload_n 2, 1) := by decide +kernel
theorem dX11_event_1 : decode cX11_event 1 = .ok (.invokestatic 140, 3) := by decide +kernel
theorem dX11_event_4 : decode cX11_event 4 = .ok (.ifCond .eq 11, 3) := by decide +kernel
theorem dX11_event_7 : decode cX11_event 7 = .ok (.aload_n 0, 1) := by decide +kernel
theorem dX11_event_8 : decode cX11_event 8 = .ok (.iload_n 3, 1) := by decide +kernel
theorem dX11_event_9 : decode cX11_event 9 = .ok (.invokevirtual 144, 3) := by decide +kernel
theorem dX11_event_12 : decode cX11_event 12 = .ok (.ifCond .ne 5, 3) := by decide +kernel
theorem dX11_event_15 : decode cX11_event 15 = .ok (.iconst (-1), 1) := by decide +kernel
theorem dX11_event_16 : decode cX11_event 16 = .ok (.ireturn, 1) := by decide +kernel
theorem dX11_event_17 : decode cX11_event 17 = .ok (.iload_n 1, 1) := by decide +kernel
theorem dX11_event_18 : decode cX11_event 18 = .ok (.i2l, 1) := by decide +kernel
theorem dX11_event_19 : decode cX11_event 19 = .ok (.lconst 0, 1) := by decide +kernel
theorem dX11_event_20 : decode cX11_event 20 = .ok (.ldc2_w 147, 3) := by decide +kernel
theorem dX11_event_23 : decode cX11_event 23 = .ok (.invokestatic 127, 3) := by decide +kernel
theorem dX11_event_26 : decode cX11_event 26 = .ok (.ifCond .eq 16, 3) := by decide +kernel
theorem dX11_event_29 : decode cX11_event 29 = .ok (.iload 4, 2) := by decide +kernel
theorem dX11_event_31 : decode cX11_event 31 = .ok (.i2l, 1) := by decide +kernel
theorem dX11_event_32 : decode cX11_event 32 = .ok (.lconst 1, 1) := by decide +kernel
theorem dX11_event_33 : decode cX11_event 33 = .ok (.ldc2_w 136, 3) := by decide +kernel
theorem dX11_event_36 : decode cX11_event 36 = .ok (.invokestatic 127, 3) := by decide +kernel
theorem dX11_event_39 : decode cX11_event 39 = .ok (.ifCond .ne 6, 3) := by decide +kernel
theorem dX11_event_42 : decode cX11_event 42 = .ok (.bipush (-2), 2) := by decide +kernel
theorem dX11_event_44 : decode cX11_event 44 = .ok (.ireturn, 1) := by decide +kernel
theorem dX11_event_45 : decode cX11_event 45 = .ok (.aload_n 0, 1) := by decide +kernel
theorem dX11_event_46 : decode cX11_event 46 = .ok (.getfield 182, 3) := by decide +kernel
theorem dX11_event_49 : decode cX11_event 49 = .ok (.bipush 12, 2) := by decide +kernel
theorem dX11_event_51 : decode cX11_event 51 = .ok (.if_icmp .ne 6, 3) := by decide +kernel
theorem dX11_event_54 : decode cX11_event 54 = .ok (.bipush (-4), 2) := by decide +kernel
theorem dX11_event_56 : decode cX11_event 56 = .ok (.ireturn, 1) := by decide +kernel
theorem dX11_event_57 : decode cX11_event 57 = .ok (.aload_n 0, 1) := by decide +kernel
theorem dX11_event_58 : decode cX11_event 58 = .ok (.getfield 41, 3) := by decide +kernel
theorem dX11_event_61 : decode cX11_event 61 = .ok (.aload_n 0, 1) := by decide +kernel
theorem dX11_event_62 : decode cX11_event 62 = .ok (.getfield 182, 3) := by decide +kernel
theorem dX11_event_65 : decode cX11_event 65 = .ok (.iload_n 1, 1) := by decide +kernel
theorem dX11_event_66 : decode cX11_event 66 = .ok (.iastore, 1) := by decide +kernel
theorem dX11_event_67 : decode cX11_event 67 = .ok (.aload_n 0, 1) := by decide +kernel
theorem dX11_event_68 : decode cX11_event 68 = .ok (.getfield 44, 3) := by decide +kernel
theorem dX11_event_71 : decode cX11_event 71 = .ok (.aload_n 0, 1) := by decide +kernel
theorem dX11_event_72 : decode cX11_event 72 = .ok (.getfield 182, 3) := by decide +kernel
theorem dX11_event_75 : decode cX11_event 75 = .ok (.iload_n 2, 1) := by decide +kernel
theorem dX11_event_76 : decode cX11_event 76 = .ok (.iastore, 1) := by decide +kernel
theorem dX11_event_77 : decode cX11_event 77 = .ok (.aload_n 0, 1) := by decide +kernel
theorem dX11_event_78 : decode cX11_event 78 = .ok (.getfield 47, 3) := by decide +kernel
theorem dX11_event_81 : decode cX11_event 81 = .ok (.aload_n 0, 1) := by decide +kernel
theorem dX11_event_82 : decode cX11_event 82 = .ok (.getfield 182, 3) := by decide +kernel
theorem dX11_event_85 : decode cX11_event 85 = .ok (.iload_n 3, 1) := by decide +kernel
theorem dX11_event_86 : decode cX11_event 86 = .ok (.iastore, 1) := by decide +kernel
theorem dX11_event_87 : decode cX11_event 87 = .ok (.aload_n 0, 1) := by decide +kernel
theorem dX11_event_88 : decode cX11_event 88 = .ok (.getfield 50, 3) := by decide +kernel
theorem dX11_event_91 : decode cX11_event 91 = .ok (.aload_n 0, 1) := by decide +kernel
theorem dX11_event_92 : decode cX11_event 92 = .ok (.getfield 182, 3) := by decide +kernel
theorem dX11_event_95 : decode cX11_event 95 = .ok (.iload 4, 2) := by decide +kernel
theorem dX11_event_97 : decode cX11_event 97 = .ok (.iastore, 1) := by decide +kernel
theorem dX11_event_98 : decode cX11_event 98 = .ok (.aload_n 0, 1) := by decide +kernel
theorem dX11_event_99 : decode cX11_event 99 = .ok (.dup, 1) := by decide +kernel
theorem dX11_event_100 : decode cX11_event 100 = .ok (.getfield 182, 3) := by decide +kernel
theorem dX11_event_103 : decode cX11_event 103 = .ok (.iconst 1, 1) := by decide +kernel
theorem dX11_event_104 : decode cX11_event 104 = .ok (.iadd, 1) := by decide +kernel
theorem dX11_event_105 : decode cX11_event 105 = .ok (.putfield 182, 3) := by decide +kernel
theorem dX11_event_108 : decode cX11_event 108 = .ok (.aload_n 0, 1) := by decide +kernel
theorem dX11_event_109 : decode cX11_event 109 = .ok (.getfield 182, 3) := by decide +kernel
theorem dX11_event_112 : decode cX11_event 112 = .ok (.iconst 1, 1) := by decide +kernel
theorem dX11_event_113 : decode cX11_event 113 = .ok (.isub, 1) := by decide +kernel
theorem dX11_event_114 : decode cX11_event 114 = .ok (.ireturn, 1) := by decide +kernel
set_option maxRecDepth 20000 in
theorem ggX11_off_X11_in : GoodIn wsX11_off wsX11_in := goodIn_r _ [6] rfl (by decide +kernel)
set_option maxRecDepth 20000 in
theorem gX11_off_X11_in : GoodIn wsX11_off (va_wsS RX11 127 yX11_in wsX11_in) := goodIn_app (goodIn_of _ (by decide +kernel)) ggX11_off_X11_in
theorem dX11_off_0 : decode cX11_off 0 = .ok (.iload_n 1, 1) := by decide +kernel
theorem dX11_off_1 : decode cX11_off 1 = .ok (.i2l, 1) := by decide +kernel
theorem dX11_off_2 : decode cX11_off 2 = .ok (.lconst 0, 1) := by decide +kernel
theorem dX11_off_3 : decode cX11_off 3 = .ok (.aload_n 0, 1) := by decide +kernel
theorem dX11_off_4 : decode cX11_off 4 = .ok (.getfield 182, 3) := by decide +kernel
theorem dX11_off_7 : decode cX11_off 7 = .ok (.iconst 1, 1) := by decide +kernel
theorem dX11_off_8 : decode cX11_off 8 = .ok (.isub, 1) := by decide +kernel
theorem dX11_off_9 : decode cX11_off 9 = .ok (.i2l, 1) := by decide +kernel
theorem dX11_off_10 : decode cX11_off 10 = .ok (.invokestatic 127, 3) := by decide +kernel
theorem dX11_off_13 : decode cX11_off 13 = .ok (.ifCond .ne 5, 3) := by decide +kernel
theorem dX11_off_16 : decode cX11_off 16 = .ok (.iconst (-1), 1) := by decide +kernel
theorem dX11_off_17 : decode cX11_off 17 = .ok (.ireturn, 1) := by decide +kernel
theorem dX11_off_18 : decode cX11_off 18 = .ok (.aload_n 0, 1) := by decide +kernel
theorem dX11_off_19 : decode cX11_off 19 = .ok (.getfield 53, 3) := by decide +kernel
theorem dX11_off_22 : decode cX11_off 22 = .ok (.iload_n 1, 1) := by decide +kernel
theorem dX11_off_23 : decode cX11_off 23 = .ok (.baload, 1) := by decide +kernel
theorem dX11_off_24 : decode cX11_off 24 = .ok (.ifCond .eq 6, 3) := by decide +kernel
theorem dX11_off_27 : decode cX11_off 27 = .ok (.bipush (-3), 2) := by decide +kernel
theorem dX11_off_29 : decode cX11_off 29 = .ok (.ireturn, 1) := by decide +kernel
theorem dX11_off_30 : decode cX11_off 30 = .ok (.aload_n 0, 1) := by decide +kernel
theorem dX11_off_31 : decode cX11_off 31 = .ok (.getfield 53, 3) := by decide +kernel
theorem dX11_off_34 : decode cX11_off 34 = .ok (.iload_n 1, 1) := by decide +kernel
theorem dX11_off_35 : decode cX11_off 35 = .ok (.iconst 1, 1) := by decide +kernel
theorem dX11_off_36 : decode cX11_off 36 = .ok (.bastore, 1) := by decide +kernel
theorem dX11_off_37 : decode cX11_off 37 = .ok (.iconst 1, 1) := by decide +kernel
theorem dX11_off_38 : decode cX11_off 38 = .ok (.ireturn, 1) := by decide +kernel
theorem dX11_layDays_0 : decode cX11_layDays 0 = .ok (.aload_n 0, 1) := by decide +kernel
theorem dX11_layDays_1 : decode cX11_layDays 1 = .ok (.iconst 0, 1) := by decide +kernel
theorem dX11_layDays_2 : decode cX11_layDays 2 = .ok (.putfield 185, 3) := by decide +kernel
theorem dX11_layDays_5 : decode cX11_layDays 5 = .ok (.iconst 0, 1) := by decide +kernel
theorem dX11_layDays_6 : decode cX11_layDays 6 = .ok (.istore_n 3, 1) := by decide +kernel
theorem dX11_layDays_7 : decode cX11_layDays 7 = .ok (.iload_n 3, 1) := by decide +kernel
theorem dX11_layDays_8 : decode cX11_layDays 8 = .ok (.aload_n 0, 1) := by decide +kernel
theorem dX11_layDays_9 : decode cX11_layDays 9 = .ok (.getfield 182, 3) := by decide +kernel
theorem dX11_layDays_12 : decode cX11_layDays 12 = .ok (.if_icmp .ge 150, 3) := by decide +kernel
theorem dX11_layDays_15 : decode cX11_layDays 15 = .ok (.aload_n 0, 1) := by decide +kernel
theorem dX11_layDays_16 : decode cX11_layDays 16 = .ok (.getfield 47, 3) := by decide +kernel
theorem dX11_layDays_19 : decode cX11_layDays 19 = .ok (.iload_n 3, 1) := by decide +kernel
theorem dX11_layDays_20 : decode cX11_layDays 20 = .ok (.iaload, 1) := by decide +kernel
theorem dX11_layDays_21 : decode cX11_layDays 21 = .ok (.iload_n 1, 1) := by decide +kernel
theorem dX11_layDays_22 : decode cX11_layDays 22 = .ok (.if_icmp .ne 134, 3) := by decide +kernel
theorem dX11_layDays_25 : decode cX11_layDays 25 = .ok (.aload_n 0, 1) := by decide +kernel
theorem dX11_layDays_26 : decode cX11_layDays 26 = .ok (.getfield 53, 3) := by decide +kernel
theorem dX11_layDays_29 : decode cX11_layDays 29 = .ok (.iload_n 3, 1) := by decide +kernel
theorem dX11_layDays_30 : decode cX11_layDays 30 = .ok (.baload, 1) := by decide +kernel
theorem dX11_layDays_31 : decode cX11_layDays 31 = .ok (.ifCond .ne 125, 3) := by decide +kernel
theorem dX11_layDays_34 : decode cX11_layDays 34 = .ok (.iload_n 3, 1) := by decide +kernel
theorem dX11_layDays_35 : decode cX11_layDays 35 = .ok (.iload_n 2, 1) := by decide +kernel
theorem dX11_layDays_36 : decode cX11_layDays 36 = .ok (.if_icmp .eq 120, 3) := by decide +kernel
theorem dX11_layDays_39 : decode cX11_layDays 39 = .ok (.iconst 0, 1) := by decide +kernel
theorem dX11_layDays_40 : decode cX11_layDays 40 = .ok (.istore 4, 2) := by decide +kernel
theorem dX11_layDays_42 : decode cX11_layDays 42 = .ok (.iload 4, 2) := by decide +kernel
theorem dX11_layDays_44 : decode cX11_layDays 44 = .ok (.aload_n 0, 1) := by decide +kernel
theorem dX11_layDays_45 : decode cX11_layDays 45 = .ok (.getfield 185, 3) := by decide +kernel
theorem dX11_layDays_48 : decode cX11_layDays 48 = .ok (.if_icmp .ge 25, 3) := by decide +kernel
theorem dX11_layDays_51 : decode cX11_layDays 51 = .ok (.aload_n 0, 1) := by decide +kernel
theorem dX11_layDays_52 : decode cX11_layDays 52 = .ok (.getfield 56, 3) := by decide +kernel
theorem dX11_layDays_55 : decode cX11_layDays 55 = .ok (.iload 4, 2) := by decide +kernel
theorem dX11_layDays_57 : decode cX11_layDays 57 = .ok (.iaload, 1) := by decide +kernel
theorem dX11_layDays_58 : decode cX11_layDays 58 = .ok (.aload_n 0, 1) := by decide +kernel
theorem dX11_layDays_59 : decode cX11_layDays 59 = .ok (.getfield 41, 3) := by decide +kernel
theorem dX11_layDays_62 : decode cX11_layDays 62 = .ok (.iload_n 3, 1) := by decide +kernel
theorem dX11_layDays_63 : decode cX11_layDays 63 = .ok (.iaload, 1) := by decide +kernel
theorem dX11_layDays_64 : decode cX11_layDays 64 = .ok (.if_icmp .ge 9, 3) := by decide +kernel
theorem dX11_layDays_67 : decode cX11_layDays 67 = .ok (.iinc 4 1, 3) := by decide +kernel
theorem dX11_layDays_70 : decode cX11_layDays 70 = .ok (.goto (-28), 3) := by decide +kernel
theorem dX11_layDays_73 : decode cX11_layDays 73 = .ok (.iload 4, 2) := by decide +kernel
theorem dX11_layDays_75 : decode cX11_layDays 75 = .ok (.aload_n 0, 1) := by decide +kernel
theorem dX11_layDays_76 : decode cX11_layDays 76 = .ok (.getfield 185, 3) := by decide +kernel
theorem dX11_layDays_79 : decode cX11_layDays 79 = .ok (.if_icmp .eq 19, 3) := by decide +kernel
theorem dX11_layDays_82 : decode cX11_layDays 82 = .ok (.aload_n 0, 1) := by decide +kernel
theorem dX11_layDays_83 : decode cX11_layDays 83 = .ok (.getfield 56, 3) := by decide +kernel
theorem dX11_layDays_86 : decode cX11_layDays 86 = .ok (.iload 4, 2) := by decide +kernel
theorem dX11_layDays_88 : decode cX11_layDays 88 = .ok (.iaload, 1) := by decide +kernel
theorem dX11_layDays_89 : decode cX11_layDays 89 = .ok (.aload_n 0, 1) := by decide +kernel
theorem dX11_layDays_90 : decode cX11_layDays 90 = .ok (.getfield 41, 3) := by decide +kernel
theorem dX11_layDays_93 : decode cX11_layDays 93 = .ok (.iload_n 3, 1) := by decide +kernel
theorem dX11_layDays_94 : decode cX11_layDays 94 = .ok (.iaload, 1) := by decide +kernel
theorem dX11_layDays_95 : decode cX11_layDays 95 = .ok (.if_icmp .eq 61, 3) := by decide +kernel
theorem dX11_layDays_98 : decode cX11_layDays 98 = .ok (.aload_n 0, 1) := by decide +kernel
theorem dX11_layDays_99 : decode cX11_layDays 99 = .ok (.getfield 185, 3) := by decide +kernel
theorem dX11_layDays_102 : decode cX11_layDays 102 = .ok (.istore 5, 2) := by decide +kernel
theorem dX11_layDays_104 : decode cX11_layDays 104 = .ok (.iload 5, 2) := by decide +kernel
theorem dX11_layDays_106 : decode cX11_layDays 106 = .ok (.iload 4, 2) := by decide +kernel
theorem dX11_layDays_108 : decode cX11_layDays 108 = .ok (.if_icmp .le 25, 3) := by decide +kernel
theorem dX11_layDays_111 : decode cX11_layDays 111 = .ok (.aload_n 0, 1) := by decide +kernel
theorem dX11_layDays_112 : decode cX11_layDays 112 = .ok (.getfield 56, 3) := by decide +kernel
theorem dX11_layDays_115 : decode cX11_layDays 115 = .ok (.iload 5, 2) := by decide +kernel
theorem dX11_layDays_117 : decode cX11_layDays 117 = .ok (.aload_n 0, 1) := by decide +kernel
theorem dX11_layDays_118 : decode cX11_layDays 118 = .ok (.getfield 56, 3) := by decide +kernel
theorem dX11_layDays_121 : decode cX11_layDays 121 = .ok (.iload 5, 2) := by decide +kernel
theorem dX11_layDays_123 : decode cX11_layDays 123 = .ok (.iconst 1, 1) := by decide +kernel
theorem dX11_layDays_124 : decode cX11_layDays 124 = .ok (.isub, 1) := by decide +kernel
theorem dX11_layDays_125 : decode cX11_layDays 125 = .ok (.iaload, 1) := by decide +kernel
theorem dX11_layDays_126 : decode cX11_layDays 126 = .ok (.iastore, 1) := by decide +kernel
theorem dX11_layDays_127 : decode cX11_layDays 127 = .ok (.iinc 5 (-1), 3) := by decide +kernel
theorem dX11_layDays_130 : decode cX11_layDays 130 = .ok (.goto (-26), 3) := by decide +kernel
theorem dX11_layDays_133 : decode cX11_layDays 133 = .ok (.aload_n 0, 1) := by decide +kernel
theorem dX11_layDays_134 : decode cX11_layDays 134 = .ok (.getfield 56, 3) := by decide +kernel
theorem dX11_layDays_137 : decode cX11_layDays 137 = .ok (.iload 4, 2) := by decide +kernel
theorem dX11_layDays_139 : decode cX11_layDays 139 = .ok (.aload_n 0, 1) := by decide +kernel
theorem dX11_layDays_140 : decode cX11_layDays 140 = .ok (.getfield 41, 3) := by decide +kernel
theorem dX11_layDays_143 : decode cX11_layDays 143 = .ok (.iload_n 3, 1) := by decide +kernel
theorem dX11_layDays_144 : decode cX11_layDays 144 = .ok (.iaload, 1) := by decide +kernel
theorem dX11_layDays_145 : decode cX11_layDays 145 = .ok (.iastore, 1) := by decide +kernel
theorem dX11_layDays_146 : decode cX11_layDays 146 = .ok (.aload_n 0, 1) := by decide +kernel
theorem dX11_layDays_147 : decode cX11_layDays 147 = .ok (.dup, 1) := by decide +kernel
theorem dX11_layDays_148 : decode cX11_layDays 148 = .ok (.getfield 185, 3) := by decide +kernel
theorem dX11_layDays_151 : decode cX11_layDays 151 = .ok (.iconst 1, 1) := by decide +kernel
theorem dX11_layDays_152 : decode cX11_layDays 152 = .ok (.iadd, 1) := by decide +kernel
theorem dX11_layDays_153 : decode cX11_layDays 153 = .ok (.putfield 185, 3) := by decide +kernel
theorem dX11_layDays_156 : decode cX11_layDays 156 = .ok (.iinc 3 1, 3) := by decide +kernel
theorem dX11_layDays_159 : decode cX11_layDays 159 = .ok (.goto (-152), 3) := by decide +kernel
theorem dX11_layDays_162 : decode cX11_layDays 162 = .ok (.iconst 0, 1) := by decide +kernel
theorem dX11_layDays_163 : decode cX11_layDays 163 = .ok (.istore_n 3, 1) := by decide +kernel
theorem dX11_layDays_164 : decode cX11_layDays 164 = .ok (.iload_n 3, 1) := by decide +kernel
theorem dX11_layDays_165 : decode cX11_layDays 165 = .ok (.bipush 60, 2) := by decide +kernel
theorem dX11_layDays_167 : decode cX11_layDays 167 = .ok (.if_icmp .ge 16, 3) := by decide +kernel
theorem dX11_layDays_170 : decode cX11_layDays 170 = .ok (.aload_n 0, 1) := by decide +kernel
theorem dX11_layDays_171 : decode cX11_layDays 171 = .ok (.getfield 59, 3) := by decide +kernel
theorem dX11_layDays_174 : decode cX11_layDays 174 = .ok (.iload_n 3, 1) := by decide +kernel
theorem dX11_layDays_175 : decode cX11_layDays 175 = .ok (.iconst 0, 1) := by decide +kernel
theorem dX11_layDays_176 : decode cX11_layDays 176 = .ok (.iastore, 1) := by decide +kernel
theorem dX11_layDays_177 : decode cX11_layDays 177 = .ok (.iinc 3 1, 3) := by decide +kernel
theorem dX11_layDays_180 : decode cX11_layDays 180 = .ok (.goto (-16), 3) := by decide +kernel
theorem dX11_layDays_183 : decode cX11_layDays 183 = .ok (.iconst 0, 1) := by decide +kernel
theorem dX11_layDays_184 : decode cX11_layDays 184 = .ok (.istore_n 3, 1) := by decide +kernel
theorem dX11_layDays_185 : decode cX11_layDays 185 = .ok (.iload_n 3, 1) := by decide +kernel
theorem dX11_layDays_186 : decode cX11_layDays 186 = .ok (.aload_n 0, 1) := by decide +kernel
theorem dX11_layDays_187 : decode cX11_layDays 187 = .ok (.getfield 182, 3) := by decide +kernel
theorem dX11_layDays_190 : decode cX11_layDays 190 = .ok (.if_icmp .ge 92, 3) := by decide +kernel
theorem dX11_layDays_193 : decode cX11_layDays 193 = .ok (.iconst 0, 1) := by decide +kernel
theorem dX11_layDays_194 : decode cX11_layDays 194 = .ok (.istore 4, 2) := by decide +kernel
theorem dX11_layDays_196 : decode cX11_layDays 196 = .ok (.iload 4, 2) := by decide +kernel
theorem dX11_layDays_198 : decode cX11_layDays 198 = .ok (.aload_n 0, 1) := by decide +kernel
theorem dX11_layDays_199 : decode cX11_layDays 199 = .ok (.getfield 185, 3) := by decide +kernel
theorem dX11_layDays_202 : decode cX11_layDays 202 = .ok (.if_icmp .ge 74, 3) := by decide +kernel
theorem dX11_layDays_205 : decode cX11_layDays 205 = .ok (.aload_n 0, 1) := by decide +kernel
theorem dX11_layDays_206 : decode cX11_layDays 206 = .ok (.getfield 47, 3) := by decide +kernel
theorem dX11_layDays_209 : decode cX11_layDays 209 = .ok (.iload_n 3, 1) := by decide +kernel
theorem dX11_layDays_210 : decode cX11_layDays 210 = .ok (.iaload, 1) := by decide +kernel
theorem dX11_layDays_211 : decode cX11_layDays 211 = .ok (.iload_n 1, 1) := by decide +kernel
theorem dX11_layDays_212 : decode cX11_layDays 212 = .ok (.if_icmp .ne 58, 3) := by decide +kernel
theorem dX11_layDays_215 : decode cX11_layDays 215 = .ok (.aload_n 0, 1) := by decide +kernel
theorem dX11_layDays_216 : decode cX11_layDays 216 = .ok (.getfield 53, 3) := by decide +kernel
theorem dX11_layDays_219 : decode cX11_layDays 219 = .ok (.iload_n 3, 1) := by decide +kernel
theorem dX11_layDays_220 : decode cX11_layDays 220 = .ok (.baload, 1) := by decide +kernel
theorem dX11_layDays_221 : decode cX11_layDays 221 = .ok (.ifCond .ne 49, 3) := by decide +kernel
theorem dX11_layDays_224 : decode cX11_layDays 224 = .ok (.iload_n 3, 1) := by decide +kernel
theorem dX11_layDays_225 : decode cX11_layDays 225 = .ok (.iload_n 2, 1) := by decide +kernel
theorem dX11_layDays_226 : decode cX11_layDays 226 = .ok (.if_icmp .eq 44, 3) := by decide +kernel
theorem dX11_layDays_229 : decode cX11_layDays 229 = .ok (.aload_n 0, 1) := by decide +kernel
theorem dX11_layDays_230 : decode cX11_layDays 230 = .ok (.getfield 56, 3) := by decide +kernel
theorem dX11_layDays_233 : decode cX11_layDays 233 = .ok (.iload 4, 2) := by decide +kernel
theorem dX11_layDays_235 : decode cX11_layDays 235 = .ok (.iaload, 1) := by decide +kernel
theorem dX11_layDays_236 : decode cX11_layDays 236 = .ok (.aload_n 0, 1) := by decide +kernel
theorem dX11_layDays_237 : decode cX11_layDays 237 = .ok (.getfield 41, 3) := by decide +kernel
theorem dX11_layDays_240 : decode cX11_layDays 240 = .ok (.iload_n 3, 1) := by decide +kernel
theorem dX11_layDays_241 : decode cX11_layDays 241 = .ok (.iaload, 1) := by decide +kernel
theorem dX11_layDays_242 : decode cX11_layDays 242 = .ok (.if_icmp .ne 28, 3) := by decide +kernel
theorem dX11_layDays_245 : decode cX11_layDays 245 = .ok (.aload_n 0, 1) := by decide +kernel
theorem dX11_layDays_246 : decode cX11_layDays 246 = .ok (.getfield 59, 3) := by decide +kernel
theorem dX11_layDays_249 : decode cX11_layDays 249 = .ok (.iconst 5, 1) := by decide +kernel
theorem dX11_layDays_250 : decode cX11_layDays 250 = .ok (.iload 4, 2) := by decide +kernel
theorem dX11_layDays_252 : decode cX11_layDays 252 = .ok (.imul, 1) := by decide +kernel
theorem dX11_layDays_253 : decode cX11_layDays 253 = .ok (.aload_n 0, 1) := by decide +kernel
theorem dX11_layDays_254 : decode cX11_layDays 254 = .ok (.getfield 44, 3) := by decide +kernel
theorem dX11_layDays_257 : decode cX11_layDays 257 = .ok (.iload_n 3, 1) := by decide +kernel
theorem dX11_layDays_258 : decode cX11_layDays 258 = .ok (.iaload, 1) := by decide +kernel
theorem dX11_layDays_259 : decode cX11_layDays 259 = .ok (.iadd, 1) := by decide +kernel
theorem dX11_layDays_260 : decode cX11_layDays 260 = .ok (.dup2, 1) := by decide +kernel
theorem dX11_layDays_261 : decode cX11_layDays 261 = .ok (.iaload, 1) := by decide +kernel
theorem dX11_layDays_262 : decode cX11_layDays 262 = .ok (.aload_n 0, 1) := by decide +kernel
theorem dX11_layDays_263 : decode cX11_layDays 263 = .ok (.getfield 50, 3) := by decide +kernel
theorem dX11_layDays_266 : decode cX11_layDays 266 = .ok (.iload_n 3, 1) := by decide +kernel
theorem dX11_layDays_267 : decode cX11_layDays 267 = .ok (.iaload, 1) := by decide +kernel
theorem dX11_layDays_268 : decode cX11_layDays 268 = .ok (.iadd, 1) := by decide +kernel
theorem dX11_layDays_269 : decode cX11_layDays 269 = .ok (.iastore, 1) := by decide +kernel
theorem dX11_layDays_270 : decode cX11_layDays 270 = .ok (.iinc 4 1, 3) := by decide +kernel
theorem dX11_layDays_273 : decode cX11_layDays 273 = .ok (.goto (-77), 3) := by decide +kernel
theorem dX11_layDays_276 : decode cX11_layDays 276 = .ok (.iinc 3 1, 3) := by decide +kernel
theorem dX11_layDays_279 : decode cX11_layDays 279 = .ok (.goto (-94), 3) := by decide +kernel
theorem dX11_layDays_282 : decode cX11_layDays 282 = .ok (.return_, 1) := by decide +kernel
theorem dX11_edge_0 : decode cX11_edge 0 = .ok (.aload_n 0, 1) := by decide +kernel
theorem dX11_edge_1 : decode cX11_edge 1 = .ok (.getfield 62, 3) := by decide +kernel
theorem dX11_edge_4 : decode cX11_edge 4 = .ok (.aload_n 0, 1) := by decide +kernel
theorem dX11_edge_5 : decode cX11_edge 5 = .ok (.getfield 188, 3) := by decide +kernel
theorem dX11_edge_8 : decode cX11_edge 8 = .ok (.iload_n 1, 1) := by decide +kernel
theorem dX11_edge_9 : decode cX11_edge 9 = .ok (.iastore, 1) := by decide +kernel
theorem dX11_edge_10 : decode cX11_edge 10 = .ok (.aload_n 0, 1) := by decide +kernel
theorem dX11_edge_11 : decode cX11_edge 11 = .ok (.getfield 65, 3) := by decide +kernel
theorem dX11_edge_14 : decode cX11_edge 14 = .ok (.aload_n 0, 1) := by decide +kernel
theorem dX11_edge_15 : decode cX11_edge 15 = .ok (.getfield 188, 3) := by decide +kernel
theorem dX11_edge_18 : decode cX11_edge 18 = .ok (.iload_n 2, 1) := by decide +kernel
theorem dX11_edge_19 : decode cX11_edge 19 = .ok (.iastore, 1) := by decide +kernel
theorem dX11_edge_20 : decode cX11_edge 20 = .ok (.aload_n 0, 1) := by decide +kernel
theorem dX11_edge_21 : decode cX11_edge 21 = .ok (.getfield 68, 3) := by decide +kernel
theorem dX11_edge_24 : decode cX11_edge 24 = .ok (.aload_n 0, 1) := by decide +kernel
theorem dX11_edge_25 : decode cX11_edge 25 = .ok (.getfield 188, 3) := by decide +kernel
theorem dX11_edge_28 : decode cX11_edge 28 = .ok (.iload_n 3, 1) := by decide +kernel
theorem dX11_edge_29 : decode cX11_edge 29 = .ok (.iastore, 1) := by decide +kernel
theorem dX11_edge_30 : decode cX11_edge 30 = .ok (.aload_n 0, 1) := by decide +kernel
theorem dX11_edge_31 : decode cX11_edge 31 = .ok (.getfield 71, 3) := by decide +kernel
theorem dX11_edge_34 : decode cX11_edge 34 = .ok (.aload_n 0, 1) := by decide +kernel
theorem dX11_edge_35 : decode cX11_edge 35 = .ok (.getfield 188, 3) := by decide +kernel
theorem dX11_edge_38 : decode cX11_edge 38 = .ok (.lload 4, 2) := by decide +kernel
theorem dX11_edge_40 : decode cX11_edge 40 = .ok (.lastore, 1) := by decide +kernel
theorem dX11_edge_41 : decode cX11_edge 41 = .ok (.aload_n 0, 1) := by decide +kernel
theorem dX11_edge_42 : decode cX11_edge 42 = .ok (.getfield 62, 3) := by decide +kernel
theorem dX11_edge_45 : decode cX11_edge 45 = .ok (.aload_n 0, 1) := by decide +kernel
theorem dX11_edge_46 : decode cX11_edge 46 = .ok (.getfield 188, 3) := by decide +kernel
theorem dX11_edge_49 : decode cX11_edge 49 = .ok (.iconst 1, 1) := by decide +kernel
theorem dX11_edge_50 : decode cX11_edge 50 = .ok (.iadd, 1) := by decide +kernel
theorem dX11_edge_51 : decode cX11_edge 51 = .ok (.iload_n 2, 1) := by decide +kernel
theorem dX11_edge_52 : decode cX11_edge 52 = .ok (.iastore, 1) := by decide +kernel
theorem dX11_edge_53 : decode cX11_edge 53 = .ok (.aload_n 0, 1) := by decide +kernel
theorem dX11_edge_54 : decode cX11_edge 54 = .ok (.getfield 65, 3) := by decide +kernel
theorem dX11_edge_57 : decode cX11_edge 57 = .ok (.aload_n 0, 1) := by decide +kernel
theorem dX11_edge_58 : decode cX11_edge 58 = .ok (.getfield 188, 3) := by decide +kernel
theorem dX11_edge_61 : decode cX11_edge 61 = .ok (.iconst 1, 1) := by decide +kernel
theorem dX11_edge_62 : decode cX11_edge 62 = .ok (.iadd, 1) := by decide +kernel
theorem dX11_edge_63 : decode cX11_edge 63 = .ok (.iload_n 1, 1) := by decide +kernel
theorem dX11_edge_64 : decode cX11_edge 64 = .ok (.iastore, 1) := by decide +kernel
theorem dX11_edge_65 : decode cX11_edge 65 = .ok (.aload_n 0, 1) := by decide +kernel
theorem dX11_edge_66 : decode cX11_edge 66 = .ok (.getfield 68, 3) := by decide +kernel
theorem dX11_edge_69 : decode cX11_edge 69 = .ok (.aload_n 0, 1) := by decide +kernel
theorem dX11_edge_70 : decode cX11_edge 70 = .ok (.getfield 188, 3) := by decide +kernel
theorem dX11_edge_73 : decode cX11_edge 73 = .ok (.iconst 1, 1) := by decide +kernel
theorem dX11_edge_74 : decode cX11_edge 74 = .ok (.iadd, 1) := by decide +kernel
theorem dX11_edge_75 : decode cX11_edge 75 = .ok (.iconst 0, 1) := by decide +kernel
theorem dX11_edge_76 : decode cX11_edge 76 = .ok (.iastore, 1) := by decide +kernel
theorem dX11_edge_77 : decode cX11_edge 77 = .ok (.aload_n 0, 1) := by decide +kernel
theorem dX11_edge_78 : decode cX11_edge 78 = .ok (.getfield 71, 3) := by decide +kernel
theorem dX11_edge_81 : decode cX11_edge 81 = .ok (.aload_n 0, 1) := by decide +kernel
theorem dX11_edge_82 : decode cX11_edge 82 = .ok (.getfield 188, 3) := by decide +kernel
theorem dX11_edge_85 : decode cX11_edge 85 = .ok (.iconst 1, 1) := by decide +kernel
theorem dX11_edge_86 : decode cX11_edge 86 = .ok (.iadd, 1) := by decide +kernel
theorem dX11_edge_87 : decode cX11_edge 87 = .ok (.lload 4, 2) := by decide +kernel
theorem dX11_edge_89 : decode cX11_edge 89 = .ok (.lneg, 1) := by decide +kernel
theorem dX11_edge_90 : decode cX11_edge 90 = .ok (.lastore, 1) := by decide +kernel
theorem dX11_edge_91 : decode cX11_edge 91 = .ok (.aload_n 0, 1) := by decide +kernel
theorem dX11_edge_92 : decode cX11_edge 92 = .ok (.dup, 1) := by decide +kernel
theorem dX11_edge_93 : decode cX11_edge 93 = .ok (.getfield 188, 3) := by decide +kernel
theorem dX11_edge_96 : decode cX11_edge 96 = .ok (.iconst 2, 1) := by decide +kernel
theorem dX11_edge_97 : decode cX11_edge 97 = .ok (.iadd, 1) := by decide +kernel
theorem dX11_edge_98 : decode cX11_edge 98 = .ok (.putfield 188, 3) := by decide +kernel
theorem dX11_edge_101 : decode cX11_edge 101 = .ok (.return_, 1) := by decide +kernel
set_option maxRecDepth 20000 in
theorem ggX11_layNet_X11_edge : GoodIn wsX11_layNet wsX11_edge := goodIn_r _ [12, 13, 1, 14, 15, 16, 17, 18, 19, 20, 21, 22, 23, 24, 25, 26, 27, 28, 29, 30, 31, 32, 33, 34, 35, 36, 37, 38, 39, 40, 41, 42, 43, 44, 45, 46, 47, 48, 49, 50, 51, 52, 53, 54, 55, 56, 57, 58, 59, 60, 61] rfl (by decide +kernel)
set_option maxRecDepth 20000 in
theorem gX11_layNet_X11_edge : GoodIn wsX11_layNet (wsV RX11 191 RX11 yX11_edge wsX11_edge) := goodIn_app (goodIn_of _ (by decide +kernel)) ggX11_layNet_X11_edge
theorem dX11_layNet_0 : decode cX11_layNet 0 = .ok (.aload_n 0, 1) := by decide +kernel
theorem dX11_layNet_1 : decode cX11_layNet 1 = .ok (.iconst 0, 1) := by decide +kernel
theorem dX11_layNet_2 : decode cX11_layNet 2 = .ok (.putfield 188, 3) := by decide +kernel
theorem dX11_layNet_5 : decode cX11_layNet 5 = .ok (.iconst 0, 1) := by decide +kernel
theorem dX11_layNet_6 : decode cX11_layNet 6 = .ok (.istore_n 2, 1) := by decide +kernel
theorem dX11_layNet_7 : decode cX11_layNet 7 = .ok (.iload_n 2, 1) := by decide +kernel
theorem dX11_layNet_8 : decode cX11_layNet 8 = .ok (.iconst 5, 1) := by decide +kernel
theorem dX11_layNet_9 : decode cX11_layNet 9 = .ok (.if_icmp .ge 29, 3) := by decide +kernel
theorem dX11_layNet_12 : decode cX11_layNet 12 = .ok (.aload_n 0, 1) := by decide +kernel
theorem dX11_layNet_13 : decode cX11_layNet 13 = .ok (.iconst 0, 1) := by decide +kernel
theorem dX11_layNet_14 : decode cX11_layNet 14 = .ok (.iconst 2, 1) := by decide +kernel
theorem dX11_layNet_15 : decode cX11_layNet 15 = .ok (.iload_n 2, 1) := by decide +kernel
theorem dX11_layNet_16 : decode cX11_layNet 16 = .ok (.iadd, 1) := by decide +kernel
theorem dX11_layNet_17 : decode cX11_layNet 17 = .ok (.aload_n 0, 1) := by decide +kernel
theorem dX11_layNet_18 : decode cX11_layNet 18 = .ok (.getfield 16, 3) := by decide +kernel
theorem dX11_layNet_21 : decode cX11_layNet 21 = .ok (.bipush 6, 2) := by decide +kernel
theorem dX11_layNet_23 : decode cX11_layNet 23 = .ok (.iload_n 2, 1) := by decide +kernel
theorem dX11_layNet_24 : decode cX11_layNet 24 = .ok (.imul, 1) := by decide +kernel
theorem dX11_layNet_25 : decode cX11_layNet 25 = .ok (.iload_n 1, 1) := by decide +kernel
theorem dX11_layNet_26 : decode cX11_layNet 26 = .ok (.iadd, 1) := by decide +kernel
theorem dX11_layNet_27 : decode cX11_layNet 27 = .ok (.iaload, 1) := by decide +kernel
theorem dX11_layNet_28 : decode cX11_layNet 28 = .ok (.lconst 0, 1) := by decide +kernel
theorem dX11_layNet_29 : decode cX11_layNet 29 = .ok (.invokevirtual 191, 3) := by decide +kernel
theorem dX11_layNet_32 : decode cX11_layNet 32 = .ok (.iinc 2 1, 3) := by decide +kernel
theorem dX11_layNet_35 : decode cX11_layNet 35 = .ok (.goto (-28), 3) := by decide +kernel
theorem dX11_layNet_38 : decode cX11_layNet 38 = .ok (.iconst 0, 1) := by decide +kernel
theorem dX11_layNet_39 : decode cX11_layNet 39 = .ok (.istore_n 2, 1) := by decide +kernel
theorem dX11_layNet_40 : decode cX11_layNet 40 = .ok (.iload_n 2, 1) := by decide +kernel
theorem dX11_layNet_41 : decode cX11_layNet 41 = .ok (.aload_n 0, 1) := by decide +kernel
theorem dX11_layNet_42 : decode cX11_layNet 42 = .ok (.getfield 185, 3) := by decide +kernel
theorem dX11_layNet_45 : decode cX11_layNet 45 = .ok (.if_icmp .ge 170, 3) := by decide +kernel
theorem dX11_layNet_48 : decode cX11_layNet 48 = .ok (.iconst 0, 1) := by decide +kernel
theorem dX11_layNet_49 : decode cX11_layNet 49 = .ok (.istore_n 3, 1) := by decide +kernel
theorem dX11_layNet_50 : decode cX11_layNet 50 = .ok (.iload_n 3, 1) := by decide +kernel
theorem dX11_layNet_51 : decode cX11_layNet 51 = .ok (.iconst 5, 1) := by decide +kernel
theorem dX11_layNet_52 : decode cX11_layNet 52 = .ok (.if_icmp .ge 80, 3) := by decide +kernel
theorem dX11_layNet_55 : decode cX11_layNet 55 = .ok (.iload_n 2, 1) := by decide +kernel
theorem dX11_layNet_56 : decode cX11_layNet 56 = .ok (.ifCond .ne 9, 3) := by decide +kernel
theorem dX11_layNet_59 : decode cX11_layNet 59 = .ok (.iconst 2, 1) := by decide +kernel
theorem dX11_layNet_60 : decode cX11_layNet 60 = .ok (.iload_n 3, 1) := by decide +kernel
theorem dX11_layNet_61 : decode cX11_layNet 61 = .ok (.iadd, 1) := by decide +kernel
theorem dX11_layNet_62 : decode cX11_layNet 62 = .ok (.goto 17, 3) := by decide +kernel
theorem dX11_layNet_65 : decode cX11_layNet 65 = .ok (.bipush 7, 2) := by decide +kernel
theorem dX11_layNet_67 : decode cX11_layNet 67 = .ok (.bipush 10, 2) := by decide +kernel
theorem dX11_layNet_69 : decode cX11_layNet 69 = .ok (.iload_n 2, 1) := by decide +kernel
theorem dX11_layNet_70 : decode cX11_layNet 70 = .ok (.imul, 1) := by decide +kernel
theorem dX11_layNet_71 : decode cX11_layNet 71 = .ok (.iadd, 1) := by decide +kernel
theorem dX11_layNet_72 : decode cX11_layNet 72 = .ok (.bipush 10, 2) := by decide +kernel
theorem dX11_layNet_74 : decode cX11_layNet 74 = .ok (.isub, 1) := by decide +kernel
theorem dX11_layNet_75 : decode cX11_layNet 75 = .ok (.iconst 5, 1) := by decide +kernel
theorem dX11_layNet_76 : decode cX11_layNet 76 = .ok (.iadd, 1) := by decide +kernel
theorem dX11_layNet_77 : decode cX11_layNet 77 = .ok (.iload_n 3, 1) := by decide +kernel
theorem dX11_layNet_78 : decode cX11_layNet 78 = .ok (.iadd, 1) := by decide +kernel
theorem dX11_layNet_79 : decode cX11_layNet 79 = .ok (.istore 4, 2) := by decide +kernel
theorem dX11_layNet_81 : decode cX11_layNet 81 = .ok (.iconst 0, 1) := by decide +kernel
theorem dX11_layNet_82 : decode cX11_layNet 82 = .ok (.istore 5, 2) := by decide +kernel
theorem dX11_layNet_84 : decode cX11_layNet 84 = .ok (.iload 5, 2) := by decide +kernel
theorem dX11_layNet_86 : decode cX11_layNet 86 = .ok (.iconst 5, 1) := by decide +kernel
theorem dX11_layNet_87 : decode cX11_layNet 87 = .ok (.if_icmp .ge 39, 3) := by decide +kernel
theorem dX11_layNet_90 : decode cX11_layNet 90 = .ok (.aload_n 0, 1) := by decide +kernel
theorem dX11_layNet_91 : decode cX11_layNet 91 = .ok (.iload 4, 2) := by decide +kernel
theorem dX11_layNet_93 : decode cX11_layNet 93 = .ok (.bipush 7, 2) := by decide +kernel
theorem dX11_layNet_95 : decode cX11_layNet 95 = .ok (.bipush 10, 2) := by decide +kernel
theorem dX11_layNet_97 : decode cX11_layNet 97 = .ok (.iload_n 2, 1) := by decide +kernel
theorem dX11_layNet_98 : decode cX11_layNet 98 = .ok (.imul, 1) := by decide +kernel
theorem dX11_layNet_99 : decode cX11_layNet 99 = .ok (.iadd, 1) := by decide +kernel
theorem dX11_layNet_100 : decode cX11_layNet 100 = .ok (.iload 5, 2) := by decide +kernel
theorem dX11_layNet_102 : decode cX11_layNet 102 = .ok (.iadd, 1) := by decide +kernel
theorem dX11_layNet_103 : decode cX11_layNet 103 = .ok (.ldc 195, 2) := by decide +kernel
theorem dX11_layNet_105 : decode cX11_layNet 105 = .ok (.aload_n 0, 1) := by decide +kernel
theorem dX11_layNet_106 : decode cX11_layNet 106 = .ok (.getfield 38, 3) := by decide +kernel
theorem dX11_layNet_109 : decode cX11_layNet 109 = .ok (.iconst 5, 1) := by decide +kernel
theorem dX11_layNet_110 : decode cX11_layNet 110 = .ok (.iload_n 3, 1) := by decide +kernel
theorem dX11_layNet_111 : decode cX11_layNet 111 = .ok (.imul, 1) := by decide +kernel
theorem dX11_layNet_112 : decode cX11_layNet 112 = .ok (.iload 5, 2) := by decide +kernel
theorem dX11_layNet_114 : decode cX11_layNet 114 = .ok (.iadd, 1) := by decide +kernel
theorem dX11_layNet_115 : decode cX11_layNet 115 = .ok (.iaload, 1) := by decide +kernel
theorem dX11_layNet_116 : decode cX11_layNet 116 = .ok (.i2l, 1) := by decide +kernel
theorem dX11_layNet_117 : decode cX11_layNet 117 = .ok (.invokevirtual 191, 3) := by decide +kernel
theorem dX11_layNet_120 : decode cX11_layNet 120 = .ok (.iinc 5 1, 3) := by decide +kernel
theorem dX11_layNet_123 : decode cX11_layNet 123 = .ok (.goto (-39), 3) := by decide +kernel
theorem dX11_layNet_126 : decode cX11_layNet 126 = .ok (.iinc 3 1, 3) := by decide +kernel
theorem dX11_layNet_129 : decode cX11_layNet 129 = .ok (.goto (-79), 3) := by decide +kernel
theorem dX11_layNet_132 : decode cX11_layNet 132 = .ok (.iconst 0, 1) := by decide +kernel
theorem dX11_layNet_133 : decode cX11_layNet 133 = .ok (.istore_n 3, 1) := by decide +kernel
theorem dX11_layNet_134 : decode cX11_layNet 134 = .ok (.iload_n 3, 1) := by decide +kernel
theorem dX11_layNet_135 : decode cX11_layNet 135 = .ok (.iconst 5, 1) := by decide +kernel
theorem dX11_layNet_136 : decode cX11_layNet 136 = .ok (.if_icmp .ge 73, 3) := by decide +kernel
theorem dX11_layNet_139 : decode cX11_layNet 139 = .ok (.aload_n 0, 1) := by decide +kernel
theorem dX11_layNet_140 : decode cX11_layNet 140 = .ok (.bipush 7, 2) := by decide +kernel
theorem dX11_layNet_142 : decode cX11_layNet 142 = .ok (.bipush 10, 2) := by decide +kernel
theorem dX11_layNet_144 : decode cX11_layNet 144 = .ok (.iload_n 2, 1) := by decide +kernel
theorem dX11_layNet_145 : decode cX11_layNet 145 = .ok (.imul, 1) := by decide +kernel
theorem dX11_layNet_146 : decode cX11_layNet 146 = .ok (.iadd, 1) := by decide +kernel
theorem dX11_layNet_147 : decode cX11_layNet 147 = .ok (.iload_n 3, 1) := by decide +kernel
theorem dX11_layNet_148 : decode cX11_layNet 148 = .ok (.iadd, 1) := by decide +kernel
theorem dX11_layNet_149 : decode cX11_layNet 149 = .ok (.bipush 7, 2) := by decide +kernel
theorem dX11_layNet_151 : decode cX11_layNet 151 = .ok (.bipush 10, 2) := by decide +kernel
theorem dX11_layNet_153 : decode cX11_layNet 153 = .ok (.iload_n 2, 1) := by decide +kernel
theorem dX11_layNet_154 : decode cX11_layNet 154 = .ok (.imul, 1) := by decide +kernel
theorem dX11_layNet_155 : decode cX11_layNet 155 = .ok (.iadd, 1) := by decide +kernel
theorem dX11_layNet_156 : decode cX11_layNet 156 = .ok (.iconst 5, 1) := by decide +kernel
theorem dX11_layNet_157 : decode cX11_layNet 157 = .ok (.iadd, 1) := by decide +kernel
theorem dX11_layNet_158 : decode cX11_layNet 158 = .ok (.iload_n 3, 1) := by decide +kernel
theorem dX11_layNet_159 : decode cX11_layNet 159 = .ok (.iadd, 1) := by decide +kernel
theorem dX11_layNet_160 : decode cX11_layNet 160 = .ok (.aload_n 0, 1) := by decide +kernel
theorem dX11_layNet_161 : decode cX11_layNet 161 = .ok (.getfield 59, 3) := by decide +kernel
theorem dX11_layNet_164 : decode cX11_layNet 164 = .ok (.iconst 5, 1) := by decide +kernel
theorem dX11_layNet_165 : decode cX11_layNet 165 = .ok (.iload_n 2, 1) := by decide +kernel
theorem dX11_layNet_166 : decode cX11_layNet 166 = .ok (.imul, 1) := by decide +kernel
theorem dX11_layNet_167 : decode cX11_layNet 167 = .ok (.iload_n 3, 1) := by decide +kernel
theorem dX11_layNet_168 : decode cX11_layNet 168 = .ok (.iadd, 1) := by decide +kernel
theorem dX11_layNet_169 : decode cX11_layNet 169 = .ok (.iaload, 1) := by decide +kernel
theorem dX11_layNet_170 : decode cX11_layNet 170 = .ok (.ldc2_w 196, 3) := by decide +kernel
theorem dX11_layNet_173 : decode cX11_layNet 173 = .ok (.invokevirtual 191, 3) := by decide +kernel
theorem dX11_layNet_176 : decode cX11_layNet 176 = .ok (.aload_n 0, 1) := by decide +kernel
theorem dX11_layNet_177 : decode cX11_layNet 177 = .ok (.bipush 7, 2) := by decide +kernel
theorem dX11_layNet_179 : decode cX11_layNet 179 = .ok (.bipush 10, 2) := by decide +kernel
theorem dX11_layNet_181 : decode cX11_layNet 181 = .ok (.iload_n 2, 1) := by decide +kernel
theorem dX11_layNet_182 : decode cX11_layNet 182 = .ok (.imul, 1) := by decide +kernel
theorem dX11_layNet_183 : decode cX11_layNet 183 = .ok (.iadd, 1) := by decide +kernel
theorem dX11_layNet_184 : decode cX11_layNet 184 = .ok (.iload_n 3, 1) := by decide +kernel
theorem dX11_layNet_185 : decode cX11_layNet 185 = .ok (.iadd, 1) := by decide +kernel
theorem dX11_layNet_186 : decode cX11_layNet 186 = .ok (.bipush 7, 2) := by decide +kernel
theorem dX11_layNet_188 : decode cX11_layNet 188 = .ok (.bipush 10, 2) := by decide +kernel
theorem dX11_layNet_190 : decode cX11_layNet 190 = .ok (.iload_n 2, 1) := by decide +kernel
theorem dX11_layNet_191 : decode cX11_layNet 191 = .ok (.imul, 1) := by decide +kernel
theorem dX11_layNet_192 : decode cX11_layNet 192 = .ok (.iadd, 1) := by decide +kernel
theorem dX11_layNet_193 : decode cX11_layNet 193 = .ok (.iconst 5, 1) := by decide +kernel
theorem dX11_layNet_194 : decode cX11_layNet 194 = .ok (.iadd, 1) := by decide +kernel
theorem dX11_layNet_195 : decode cX11_layNet 195 = .ok (.iload_n 3, 1) := by decide +kernel
theorem dX11_layNet_196 : decode cX11_layNet 196 = .ok (.iadd, 1) := by decide +kernel
theorem dX11_layNet_197 : decode cX11_layNet 197 = .ok (.ldc 195, 2) := by decide +kernel
theorem dX11_layNet_199 : decode cX11_layNet 199 = .ok (.lconst 0, 1) := by decide +kernel
theorem dX11_layNet_200 : decode cX11_layNet 200 = .ok (.invokevirtual 191, 3) := by decide +kernel
theorem dX11_layNet_203 : decode cX11_layNet 203 = .ok (.iinc 3 1, 3) := by decide +kernel
theorem dX11_layNet_206 : decode cX11_layNet 206 = .ok (.goto (-72), 3) := by decide +kernel
theorem dX11_layNet_209 : decode cX11_layNet 209 = .ok (.iinc 2 1, 3) := by decide +kernel
theorem dX11_layNet_212 : decode cX11_layNet 212 = .ok (.goto (-172), 3) := by decide +kernel
theorem dX11_layNet_215 : decode cX11_layNet 215 = .ok (.iconst 0, 1) := by decide +kernel
theorem dX11_layNet_216 : decode cX11_layNet 216 = .ok (.istore_n 2, 1) := by decide +kernel
theorem dX11_layNet_217 : decode cX11_layNet 217 = .ok (.iload_n 2, 1) := by decide +kernel
theorem dX11_layNet_218 : decode cX11_layNet 218 = .ok (.iconst 5, 1) := by decide +kernel
theorem dX11_layNet_219 : decode cX11_layNet 219 = .ok (.if_icmp .ge 47, 3) := by decide +kernel
theorem dX11_layNet_222 : decode cX11_layNet 222 = .ok (.aload_n 0, 1) := by decide +kernel
theorem dX11_layNet_223 : decode cX11_layNet 223 = .ok (.aload_n 0, 1) := by decide +kernel
theorem dX11_layNet_224 : decode cX11_layNet 224 = .ok (.getfield 185, 3) := by decide +kernel
theorem dX11_layNet_227 : decode cX11_layNet 227 = .ok (.ifCond .ne 9, 3) := by decide +kernel
theorem dX11_layNet_230 : decode cX11_layNet 230 = .ok (.iconst 2, 1) := by decide +kernel
theorem dX11_layNet_231 : decode cX11_layNet 231 = .ok (.iload_n 2, 1) := by decide +kernel
theorem dX11_layNet_232 : decode cX11_layNet 232 = .ok (.iadd, 1) := by decide +kernel
theorem dX11_layNet_233 : decode cX11_layNet 233 = .ok (.goto 20, 3) := by decide +kernel
theorem dX11_layNet_236 : decode cX11_layNet 236 = .ok (.bipush 7, 2) := by decide +kernel
theorem dX11_layNet_238 : decode cX11_layNet 238 = .ok (.bipush 10, 2) := by decide +kernel
theorem dX11_layNet_240 : decode cX11_layNet 240 = .ok (.aload_n 0, 1) := by decide +kernel
theorem dX11_layNet_241 : decode cX11_layNet 241 = .ok (.getfield 185, 3) := by decide +kernel
theorem dX11_layNet_244 : decode cX11_layNet 244 = .ok (.imul, 1) := by decide +kernel
theorem dX11_layNet_245 : decode cX11_layNet 245 = .ok (.iadd, 1) := by decide +kernel
theorem dX11_layNet_246 : decode cX11_layNet 246 = .ok (.bipush 10, 2) := by decide +kernel
theorem dX11_layNet_248 : decode cX11_layNet 248 = .ok (.isub, 1) := by decide +kernel
theorem dX11_layNet_249 : decode cX11_layNet 249 = .ok (.iconst 5, 1) := by decide +kernel
theorem dX11_layNet_250 : decode cX11_layNet 250 = .ok (.iadd, 1) := by decide +kernel
theorem dX11_layNet_251 : decode cX11_layNet 251 = .ok (.iload_n 2, 1) := by decide +kernel
theorem dX11_layNet_252 : decode cX11_layNet 252 = .ok (.iadd, 1) := by decide +kernel
theorem dX11_layNet_253 : decode cX11_layNet 253 = .ok (.iconst 1, 1) := by decide +kernel
theorem dX11_layNet_254 : decode cX11_layNet 254 = .ok (.ldc 195, 2) := by decide +kernel
theorem dX11_layNet_256 : decode cX11_layNet 256 = .ok (.lconst 0, 1) := by decide +kernel
theorem dX11_layNet_257 : decode cX11_layNet 257 = .ok (.invokevirtual 191, 3) := by decide +kernel
theorem dX11_layNet_260 : decode cX11_layNet 260 = .ok (.iinc 2 1, 3) := by decide +kernel
theorem dX11_layNet_263 : decode cX11_layNet 263 = .ok (.goto (-46), 3) := by decide +kernel
theorem dX11_layNet_266 : decode cX11_layNet 266 = .ok (.return_, 1) := by decide +kernel
theorem dX11_layFar_0 : decode cX11_layFar 0 = .ok (.bipush 7, 2) := by decide +kernel
theorem dX11_layFar_2 : decode cX11_layFar 2 = .ok (.bipush 10, 2) := by decide +kernel
theorem dX11_layFar_4 : decode cX11_layFar 4 = .ok (.aload_n 0, 1) := by decide +kernel
theorem dX11_layFar_5 : decode cX11_layFar 5 = .ok (.getfield 185, 3) := by decide +kernel
theorem dX11_layFar_8 : decode cX11_layFar 8 = .ok (.imul, 1) := by decide +kernel
theorem dX11_layFar_9 : decode cX11_layFar 9 = .ok (.iadd, 1) := by decide +kernel
theorem dX11_layFar_10 : decode cX11_layFar 10 = .ok (.istore_n 1, 1) := by decide +kernel
theorem dX11_layFar_11 : decode cX11_layFar 11 = .ok (.iconst 0, 1) := by decide +kernel
theorem dX11_layFar_12 : decode cX11_layFar 12 = .ok (.istore_n 2, 1) := by decide +kernel
theorem dX11_layFar_13 : decode cX11_layFar 13 = .ok (.iload_n 2, 1) := by decide +kernel
theorem dX11_layFar_14 : decode cX11_layFar 14 = .ok (.iload_n 1, 1) := by decide +kernel
theorem dX11_layFar_15 : decode cX11_layFar 15 = .ok (.if_icmp .ge 26, 3) := by decide +kernel
theorem dX11_layFar_18 : decode cX11_layFar 18 = .ok (.aload_n 0, 1) := by decide +kernel
theorem dX11_layFar_19 : decode cX11_layFar 19 = .ok (.getfield 75, 3) := by decide +kernel
theorem dX11_layFar_22 : decode cX11_layFar 22 = .ok (.iload_n 2, 1) := by decide +kernel
theorem dX11_layFar_23 : decode cX11_layFar 23 = .ok (.iload_n 2, 1) := by decide +kernel
theorem dX11_layFar_24 : decode cX11_layFar 24 = .ok (.ifCond .ne 7, 3) := by decide +kernel
theorem dX11_layFar_27 : decode cX11_layFar 27 = .ok (.lconst 0, 1) := by decide +kernel
theorem dX11_layFar_28 : decode cX11_layFar 28 = .ok (.goto 6, 3) := by decide +kernel
theorem dX11_layFar_31 : decode cX11_layFar 31 = .ok (.ldc2_w 198, 3) := by decide +kernel
theorem dX11_layFar_34 : decode cX11_layFar 34 = .ok (.lastore, 1) := by decide +kernel
theorem dX11_layFar_35 : decode cX11_layFar 35 = .ok (.iinc 2 1, 3) := by decide +kernel
theorem dX11_layFar_38 : decode cX11_layFar 38 = .ok (.goto (-25), 3) := by decide +kernel
theorem dX11_layFar_41 : decode cX11_layFar 41 = .ok (.iconst 1, 1) := by decide +kernel
theorem dX11_layFar_42 : decode cX11_layFar 42 = .ok (.istore_n 2, 1) := by decide +kernel
theorem dX11_layFar_43 : decode cX11_layFar 43 = .ok (.iload_n 2, 1) := by decide +kernel
theorem dX11_layFar_44 : decode cX11_layFar 44 = .ok (.ifCond .eq 115, 3) := by decide +kernel
theorem dX11_layFar_47 : decode cX11_layFar 47 = .ok (.iconst 0, 1) := by decide +kernel
theorem dX11_layFar_48 : decode cX11_layFar 48 = .ok (.istore_n 2, 1) := by decide +kernel
theorem dX11_layFar_49 : decode cX11_layFar 49 = .ok (.iconst 0, 1) := by decide +kernel
theorem dX11_layFar_50 : decode cX11_layFar 50 = .ok (.istore_n 3, 1) := by decide +kernel
theorem dX11_layFar_51 : decode cX11_layFar 51 = .ok (.iload_n 3, 1) := by decide +kernel
theorem dX11_layFar_52 : decode cX11_layFar 52 = .ok (.aload_n 0, 1) := by decide +kernel
theorem dX11_layFar_53 : decode cX11_layFar 53 = .ok (.getfield 188, 3) := by decide +kernel
theorem dX11_layFar_56 : decode cX11_layFar 56 = .ok (.if_icmp .ge 100, 3) := by decide +kernel
theorem dX11_layFar_59 : decode cX11_layFar 59 = .ok (.aload_n 0, 1) := by decide +kernel
theorem dX11_layFar_60 : decode cX11_layFar 60 = .ok (.getfield 75, 3) := by decide +kernel
theorem dX11_layFar_63 : decode cX11_layFar 63 = .ok (.aload_n 0, 1) := by decide +kernel
theorem dX11_layFar_64 : decode cX11_layFar 64 = .ok (.getfield 62, 3) := by decide +kernel
theorem dX11_layFar_67 : decode cX11_layFar 67 = .ok (.iload_n 3, 1) := by decide +kernel
theorem dX11_layFar_68 : decode cX11_layFar 68 = .ok (.iaload, 1) := by decide +kernel
theorem dX11_layFar_69 : decode cX11_layFar 69 = .ok (.laload, 1) := by decide +kernel
theorem dX11_layFar_70 : decode cX11_layFar 70 = .ok (.aload_n 0, 1) := by decide +kernel
theorem dX11_layFar_71 : decode cX11_layFar 71 = .ok (.getfield 71, 3) := by decide +kernel
theorem dX11_layFar_74 : decode cX11_layFar 74 = .ok (.iload_n 3, 1) := by decide +kernel
theorem dX11_layFar_75 : decode cX11_layFar 75 = .ok (.laload, 1) := by decide +kernel
theorem dX11_layFar_76 : decode cX11_layFar 76 = .ok (.ladd, 1) := by decide +kernel
theorem dX11_layFar_77 : decode cX11_layFar 77 = .ok (.lstore 4, 2) := by decide +kernel
theorem dX11_layFar_79 : decode cX11_layFar 79 = .ok (.aload_n 0, 1) := by decide +kernel
theorem dX11_layFar_80 : decode cX11_layFar 80 = .ok (.getfield 68, 3) := by decide +kernel
theorem dX11_layFar_83 : decode cX11_layFar 83 = .ok (.iload_n 3, 1) := by decide +kernel
theorem dX11_layFar_84 : decode cX11_layFar 84 = .ok (.iaload, 1) := by decide +kernel
theorem dX11_layFar_85 : decode cX11_layFar 85 = .ok (.ifCond .le 65, 3) := by decide +kernel
theorem dX11_layFar_88 : decode cX11_layFar 88 = .ok (.aload_n 0, 1) := by decide +kernel
theorem dX11_layFar_89 : decode cX11_layFar 89 = .ok (.getfield 75, 3) := by decide +kernel
theorem dX11_layFar_92 : decode cX11_layFar 92 = .ok (.aload_n 0, 1) := by decide +kernel
theorem dX11_layFar_93 : decode cX11_layFar 93 = .ok (.getfield 62, 3) := by decide +kernel
theorem dX11_layFar_96 : decode cX11_layFar 96 = .ok (.iload_n 3, 1) := by decide +kernel
theorem dX11_layFar_97 : decode cX11_layFar 97 = .ok (.iaload, 1) := by decide +kernel
theorem dX11_layFar_98 : decode cX11_layFar 98 = .ok (.laload, 1) := by decide +kernel
theorem dX11_layFar_99 : decode cX11_layFar 99 = .ok (.ldc2_w 198, 3) := by decide +kernel
theorem dX11_layFar_102 : decode cX11_layFar 102 = .ok (.lcmp, 1) := by decide +kernel
theorem dX11_layFar_103 : decode cX11_layFar 103 = .ok (.ifCond .ge 47, 3) := by decide +kernel
theorem dX11_layFar_106 : decode cX11_layFar 106 = .ok (.lload 4, 2) := by decide +kernel
theorem dX11_layFar_108 : decode cX11_layFar 108 = .ok (.aload_n 0, 1) := by decide +kernel
theorem dX11_layFar_109 : decode cX11_layFar 109 = .ok (.getfield 75, 3) := by decide +kernel
theorem dX11_layFar_112 : decode cX11_layFar 112 = .ok (.aload_n 0, 1) := by decide +kernel
theorem dX11_layFar_113 : decode cX11_layFar 113 = .ok (.getfield 65, 3) := by decide +kernel
theorem dX11_layFar_116 : decode cX11_layFar 116 = .ok (.iload_n 3, 1) := by decide +kernel
theorem dX11_layFar_117 : decode cX11_layFar 117 = .ok (.iaload, 1) := by decide +kernel
theorem dX11_layFar_118 : decode cX11_layFar 118 = .ok (.laload, 1) := by decide +kernel
theorem dX11_layFar_119 : decode cX11_layFar 119 = .ok (.lcmp, 1) := by decide +kernel
theorem dX11_layFar_120 : decode cX11_layFar 120 = .ok (.ifCond .ge 30, 3) := by decide +kernel
theorem dX11_layFar_123 : decode cX11_layFar 123 = .ok (.aload_n 0, 1) := by decide +kernel
theorem dX11_layFar_124 : decode cX11_layFar 124 = .ok (.getfield 75, 3) := by decide +kernel
theorem dX11_layFar_127 : decode cX11_layFar 127 = .ok (.aload_n 0, 1) := by decide +kernel
theorem dX11_layFar_128 : decode cX11_layFar 128 = .ok (.getfield 65, 3) := by decide +kernel
theorem dX11_layFar_131 : decode cX11_layFar 131 = .ok (.iload_n 3, 1) := by decide +kernel
theorem dX11_layFar_132 : decode cX11_layFar 132 = .ok (.iaload, 1) := by decide +kernel
theorem dX11_layFar_133 : decode cX11_layFar 133 = .ok (.lload 4, 2) := by decide +kernel
theorem dX11_layFar_135 : decode cX11_layFar 135 = .ok (.lastore, 1) := by decide +kernel
theorem dX11_layFar_136 : decode cX11_layFar 136 = .ok (.aload_n 0, 1) := by decide +kernel
theorem dX11_layFar_137 : decode cX11_layFar 137 = .ok (.getfield 78, 3) := by decide +kernel
theorem dX11_layFar_140 : decode cX11_layFar 140 = .ok (.aload_n 0, 1) := by decide +kernel
theorem dX11_layFar_141 : decode cX11_layFar 141 = .ok (.getfield 65, 3) := by decide +kernel
theorem dX11_layFar_144 : decode cX11_layFar 144 = .ok (.iload_n 3, 1) := by decide +kernel
theorem dX11_layFar_145 : decode cX11_layFar 145 = .ok (.iaload, 1) := by decide +kernel
theorem dX11_layFar_146 : decode cX11_layFar 146 = .ok (.iload_n 3, 1) := by decide +kernel
theorem dX11_layFar_147 : decode cX11_layFar 147 = .ok (.iastore, 1) := by decide +kernel
theorem dX11_layFar_148 : decode cX11_layFar 148 = .ok (.iconst 1, 1) := by decide +kernel
theorem dX11_layFar_149 : decode cX11_layFar 149 = .ok (.istore_n 2, 1) := by decide +kernel
theorem dX11_layFar_150 : decode cX11_layFar 150 = .ok (.iinc 3 1, 3) := by decide +kernel
theorem dX11_layFar_153 : decode cX11_layFar 153 = .ok (.goto (-102), 3) := by decide +kernel
theorem dX11_layFar_156 : decode cX11_layFar 156 = .ok (.goto (-113), 3) := by decide +kernel
theorem dX11_layFar_159 : decode cX11_layFar 159 = .ok (.aload_n 0, 1) := by decide +kernel
theorem dX11_layFar_160 : decode cX11_layFar 160 = .ok (.getfield 75, 3) := by decide +kernel
theorem dX11_layFar_163 : decode cX11_layFar 163 = .ok (.iconst 1, 1) := by decide +kernel
theorem dX11_layFar_164 : decode cX11_layFar 164 = .ok (.laload, 1) := by decide +kernel
theorem dX11_layFar_165 : decode cX11_layFar 165 = .ok (.ldc2_w 198, 3) := by decide +kernel
theorem dX11_layFar_168 : decode cX11_layFar 168 = .ok (.lcmp, 1) := by decide +kernel
theorem dX11_layFar_169 : decode cX11_layFar 169 = .ok (.ifCond .ge 7, 3) := by decide +kernel
theorem dX11_layFar_172 : decode cX11_layFar 172 = .ok (.iconst 1, 1) := by decide +kernel
theorem dX11_layFar_173 : decode cX11_layFar 173 = .ok (.goto 4, 3) := by decide +kernel
theorem dX11_layFar_176 : decode cX11_layFar 176 = .ok (.iconst 0, 1) := by decide +kernel
theorem dX11_layFar_177 : decode cX11_layFar 177 = .ok (.ireturn, 1) := by decide +kernel
set_option maxRecDepth 20000 in
theorem ggX11_flow_X11_layFar : GoodIn wsX11_flow wsX11_layFar := goodIn_r _ [10, 11, 5, 12, 13, 4, 14, 2, 15, 3, 16, 17, 18, 19, 20, 21, 22, 23, 24, 25, 26, 27, 28, 29, 30, 31, 32, 33, 34, 35, 36, 37, 38, 39, 40, 41, 42, 43, 44, 45, 46, 47, 48, 49, 50, 51, 52, 53, 54, 55, 56, 57, 58, 59, 60] rfl (by decide +kernel)
set_option maxRecDepth 20000 in
theorem gX11_flow_X11_layFar : GoodIn wsX11_flow (wsV RX11 200 RX11 yX11_layFar wsX11_layFar) := goodIn_app (goodIn_of _ (by decide +kernel)) ggX11_flow_X11_layFar
theorem dX11_flow_0 : decode cX11_flow 0 = .ok (.lconst 0, 1) := by decide +kernel
theorem dX11_flow_1 : decode cX11_flow 1 = .ok (.lstore_n 1, 1) := by decide +kernel
theorem dX11_flow_2 : decode cX11_flow 2 = .ok (.aload_n 0, 1) := by decide +kernel
theorem dX11_flow_3 : decode cX11_flow 3 = .ok (.invokevirtual 200, 3) := by decide +kernel
theorem dX11_flow_6 : decode cX11_flow 6 = .ok (.ifCond .eq 138, 3) := by decide +kernel
theorem dX11_flow_9 : decode cX11_flow 9 = .ok (.ldc 195, 2) := by decide +kernel
theorem dX11_flow_11 : decode cX11_flow 11 = .ok (.istore_n 3, 1) := by decide +kernel
theorem dX11_flow_12 : decode cX11_flow 12 = .ok (.iconst 1, 1) := by decide +kernel
theorem dX11_flow_13 : decode cX11_flow 13 = .ok (.istore 4, 2) := by decide +kernel
theorem dX11_flow_15 : decode cX11_flow 15 = .ok (.iload 4, 2) := by decide +kernel
theorem dX11_flow_17 : decode cX11_flow 17 = .ok (.ifCond .eq 53, 3) := by decide +kernel
theorem dX11_flow_20 : decode cX11_flow 20 = .ok (.aload_n 0, 1) := by decide +kernel
theorem dX11_flow_21 : decode cX11_flow 21 = .ok (.getfield 68, 3) := by decide +kernel
theorem dX11_flow_24 : decode cX11_flow 24 = .ok (.aload_n 0, 1) := by decide +kernel
theorem dX11_flow_25 : decode cX11_flow 25 = .ok (.getfield 78, 3) := by decide +kernel
theorem dX11_flow_28 : decode cX11_flow 28 = .ok (.iload 4, 2) := by decide +kernel
theorem dX11_flow_30 : decode cX11_flow 30 = .ok (.iaload, 1) := by decide +kernel
theorem dX11_flow_31 : decode cX11_flow 31 = .ok (.iaload, 1) := by decide +kernel
theorem dX11_flow_32 : decode cX11_flow 32 = .ok (.iload_n 3, 1) := by decide +kernel
theorem dX11_flow_33 : decode cX11_flow 33 = .ok (.if_icmp .ge 18, 3) := by decide +kernel
theorem dX11_flow_36 : decode cX11_flow 36 = .ok (.aload_n 0, 1) := by decide +kernel
theorem dX11_flow_37 : decode cX11_flow 37 = .ok (.getfield 68, 3) := by decide +kernel
theorem dX11_flow_40 : decode cX11_flow 40 = .ok (.aload_n 0, 1) := by decide +kernel
theorem dX11_flow_41 : decode cX11_flow 41 = .ok (.getfield 78, 3) := by decide +kernel
theorem dX11_flow_44 : decode cX11_flow 44 = .ok (.iload 4, 2) := by decide +kernel
theorem dX11_flow_46 : decode cX11_flow 46 = .ok (.iaload, 1) := by decide +kernel
theorem dX11_flow_47 : decode cX11_flow 47 = .ok (.iaload, 1) := by decide +kernel
theorem dX11_flow_48 : decode cX11_flow 48 = .ok (.goto 4, 3) := by decide +kernel
theorem dX11_flow_51 : decode cX11_flow 51 = .ok (.iload_n 3, 1) := by decide +kernel
theorem dX11_flow_52 : decode cX11_flow 52 = .ok (.istore_n 3, 1) := by decide +kernel
theorem dX11_flow_53 : decode cX11_flow 53 = .ok (.aload_n 0, 1) := by decide +kernel
theorem dX11_flow_54 : decode cX11_flow 54 = .ok (.getfield 62, 3) := by decide +kernel
theorem dX11_flow_57 : decode cX11_flow 57 = .ok (.aload_n 0, 1) := by decide +kernel
theorem dX11_flow_58 : decode cX11_flow 58 = .ok (.getfield 78, 3) := by decide +kernel
theorem dX11_flow_61 : decode cX11_flow 61 = .ok (.iload 4, 2) := by decide +kernel
theorem dX11_flow_63 : decode cX11_flow 63 = .ok (.iaload, 1) := by decide +kernel
theorem dX11_flow_64 : decode cX11_flow 64 = .ok (.iaload, 1) := by decide +kernel
theorem dX11_flow_65 : decode cX11_flow 65 = .ok (.istore 4, 2) := by decide +kernel
theorem dX11_flow_67 : decode cX11_flow 67 = .ok (.goto (-52), 3) := by decide +kernel
theorem dX11_flow_70 : decode cX11_flow 70 = .ok (.iconst 1, 1) := by decide +kernel
theorem dX11_flow_71 : decode cX11_flow 71 = .ok (.istore 4, 2) := by decide +kernel
theorem dX11_flow_73 : decode cX11_flow 73 = .ok (.iload 4, 2) := by decide +kernel
theorem dX11_flow_75 : decode cX11_flow 75 = .ok (.ifCond .eq 54, 3) := by decide +kernel
theorem dX11_flow_78 : decode cX11_flow 78 = .ok (.aload_n 0, 1) := by decide +kernel
theorem dX11_flow_79 : decode cX11_flow 79 = .ok (.getfield 68, 3) := by decide +kernel
theorem dX11_flow_82 : decode cX11_flow 82 = .ok (.aload_n 0, 1) := by decide +kernel
theorem dX11_flow_83 : decode cX11_flow 83 = .ok (.getfield 78, 3) := by decide +kernel
theorem dX11_flow_86 : decode cX11_flow 86 = .ok (.iload 4, 2) := by decide +kernel
theorem dX11_flow_88 : decode cX11_flow 88 = .ok (.iaload, 1) := by decide +kernel
theorem dX11_flow_89 : decode cX11_flow 89 = .ok (.dup2, 1) := by decide +kernel
theorem dX11_flow_90 : decode cX11_flow 90 = .ok (.iaload, 1) := by decide +kernel
theorem dX11_flow_91 : decode cX11_flow 91 = .ok (.iload_n 3, 1) := by decide +kernel
theorem dX11_flow_92 : decode cX11_flow 92 = .ok (.isub, 1) := by decide +kernel
theorem dX11_flow_93 : decode cX11_flow 93 = .ok (.iastore, 1) := by decide +kernel
theorem dX11_flow_94 : decode cX11_flow 94 = .ok (.aload_n 0, 1) := by decide +kernel
theorem dX11_flow_95 : decode cX11_flow 95 = .ok (.getfield 68, 3) := by decide +kernel
theorem dX11_flow_98 : decode cX11_flow 98 = .ok (.aload_n 0, 1) := by decide +kernel
theorem dX11_flow_99 : decode cX11_flow 99 = .ok (.getfield 78, 3) := by decide +kernel
theorem dX11_flow_102 : decode cX11_flow 102 = .ok (.iload 4, 2) := by decide +kernel
theorem dX11_flow_104 : decode cX11_flow 104 = .ok (.iaload, 1) := by decide +kernel
theorem dX11_flow_105 : decode cX11_flow 105 = .ok (.iconst 1, 1) := by decide +kernel
theorem dX11_flow_106 : decode cX11_flow 106 = .ok (.ixor, 1) := by decide +kernel
theorem dX11_flow_107 : decode cX11_flow 107 = .ok (.dup2, 1) := by decide +kernel
theorem dX11_flow_108 : decode cX11_flow 108 = .ok (.iaload, 1) := by decide +kernel
theorem dX11_flow_109 : decode cX11_flow 109 = .ok (.iload_n 3, 1) := by decide +kernel
theorem dX11_flow_110 : decode cX11_flow 110 = .ok (.iadd, 1) := by decide +kernel
theorem dX11_flow_111 : decode cX11_flow 111 = .ok (.iastore, 1) := by decide +kernel
theorem dX11_flow_112 : decode cX11_flow 112 = .ok (.aload_n 0, 1) := by decide +kernel
theorem dX11_flow_113 : decode cX11_flow 113 = .ok (.getfield 62, 3) := by decide +kernel
theorem dX11_flow_116 : decode cX11_flow 116 = .ok (.aload_n 0, 1) := by decide +kernel
theorem dX11_flow_117 : decode cX11_flow 117 = .ok (.getfield 78, 3) := by decide +kernel
theorem dX11_flow_120 : decode cX11_flow 120 = .ok (.iload 4, 2) := by decide +kernel
theorem dX11_flow_122 : decode cX11_flow 122 = .ok (.iaload, 1) := by decide +kernel
theorem dX11_flow_123 : decode cX11_flow 123 = .ok (.iaload, 1) := by decide +kernel
theorem dX11_flow_124 : decode cX11_flow 124 = .ok (.istore 4, 2) := by decide +kernel
theorem dX11_flow_126 : decode cX11_flow 126 = .ok (.goto (-53), 3) := by decide +kernel
theorem dX11_flow_129 : decode cX11_flow 129 = .ok (.lload_n 1, 1) := by decide +kernel
theorem dX11_flow_130 : decode cX11_flow 130 = .ok (.iload_n 3, 1) := by decide +kernel
theorem dX11_flow_131 : decode cX11_flow 131 = .ok (.i2l, 1) := by decide +kernel
theorem dX11_flow_132 : decode cX11_flow 132 = .ok (.aload_n 0, 1) := by decide +kernel
theorem dX11_flow_133 : decode cX11_flow 133 = .ok (.getfield 75, 3) := by decide +kernel
theorem dX11_flow_136 : decode cX11_flow 136 = .ok (.iconst 1, 1) := by decide +kernel
theorem dX11_flow_137 : decode cX11_flow 137 = .ok (.laload, 1) := by decide +kernel
theorem dX11_flow_138 : decode cX11_flow 138 = .ok (.lmul, 1) := by decide +kernel
theorem dX11_flow_139 : decode cX11_flow 139 = .ok (.ladd, 1) := by decide +kernel
theorem dX11_flow_140 : decode cX11_flow 140 = .ok (.lstore_n 1, 1) := by decide +kernel
theorem dX11_flow_141 : decode cX11_flow 141 = .ok (.goto (-139), 3) := by decide +kernel
theorem dX11_flow_144 : decode cX11_flow 144 = .ok (.lload_n 1, 1) := by decide +kernel
theorem dX11_flow_145 : decode cX11_flow 145 = .ok (.lreturn, 1) := by decide +kernel
set_option maxRecDepth 20000 in
theorem ggX11_carriedOf_X11_layDays : GoodIn wsX11_carriedOf wsX11_layDays := goodIn_r _ [7, 8, 9, 10, 11, 12, 13, 1, 14, 15, 44, 45, 46, 47, 48, 49, 50, 51, 52, 53, 54, 55, 56, 57, 58, 59, 60, 61, 62, 63, 64, 65, 66, 67, 68, 69, 70, 71, 72, 73, 74, 75, 76, 77, 78, 79, 80, 81, 82, 83, 84, 85, 86, 87, 88] rfl (by decide +kernel)
set_option maxRecDepth 20000 in
theorem gX11_carriedOf_X11_layDays : GoodIn wsX11_carriedOf (wsV RX11 204 RX11 yX11_layDays wsX11_layDays) := goodIn_app (goodIn_of _ (by decide +kernel)) ggX11_carriedOf_X11_layDays
set_option maxRecDepth 20000 in
theorem ggX11_carriedOf_X11_layNet : GoodIn wsX11_carriedOf wsX11_layNet := goodIn_r _ [19, 20, 21, 8, 22, 23, 1, 24, 25, 26, 27, 6, 28, 29, 30, 31, 32, 44, 45, 46, 47, 48, 49, 50, 51, 52, 53, 54, 55, 56, 57, 58, 59, 60, 61, 62, 63, 64, 65, 66, 67, 68, 69, 70, 71, 72, 73, 74, 75, 76, 77, 78, 79, 80, 81, 82, 83, 84, 85, 86, 87, 88] rfl (by decide +kernel)
set_option maxRecDepth 20000 in
theorem gX11_carriedOf_X11_layNet : GoodIn wsX11_carriedOf (wsV RX11 208 RX11 yX11_layNet wsX11_layNet) := goodIn_app (goodIn_of _ (by decide +kernel)) ggX11_carriedOf_X11_layNet
set_option maxRecDepth 20000 in
theorem ggX11_carriedOf_X11_flow : GoodIn wsX11_carriedOf wsX11_flow := goodIn_r _ [36, 22, 31, 37, 29, 38, 39, 40, 41, 6, 42, 8, 43, 20, 32, 30, 44, 45, 46, 47, 48, 49, 50, 51, 52, 53, 54, 55, 56, 57, 58, 59, 60, 61, 62, 63, 64, 65, 66, 67, 68, 69, 70, 71, 72, 73, 74, 75, 76, 77, 78, 79, 80, 81, 82, 83, 84, 85, 86, 87, 88] rfl (by decide +kernel)
set_option maxRecDepth 20000 in
theorem gX11_carriedOf_X11_flow : GoodIn wsX11_carriedOf (wsV RX11 212 RX11 yX11_flow wsX11_flow) := goodIn_app (goodIn_of _ (by decide +kernel)) ggX11_carriedOf_X11_flow
theorem dX11_carriedOf_0 : decode cX11_carriedOf 0 = .ok (.aload_n 0, 1) := by decide +kernel
theorem dX11_carriedOf_1 : decode cX11_carriedOf 1 = .ok (.iload_n 1, 1) := by decide +kernel
theorem dX11_carriedOf_2 : decode cX11_carriedOf 2 = .ok (.iload_n 2, 1) := by decide +kernel
theorem dX11_carriedOf_3 : decode cX11_carriedOf 3 = .ok (.invokevirtual 204, 3) := by decide +kernel
theorem dX11_carriedOf_6 : decode cX11_carriedOf 6 = .ok (.aload_n 0, 1) := by decide +kernel
theorem dX11_carriedOf_7 : decode cX11_carriedOf 7 = .ok (.iload_n 1, 1) := by decide +kernel
theorem dX11_carriedOf_8 : decode cX11_carriedOf 8 = .ok (.invokevirtual 208, 3) := by decide +kernel
theorem dX11_carriedOf_11 : decode cX11_carriedOf 11 = .ok (.lconst 0, 1) := by decide +kernel
theorem dX11_carriedOf_12 : decode cX11_carriedOf 12 = .ok (.lstore_n 3, 1) := by decide +kernel
theorem dX11_carriedOf_13 : decode cX11_carriedOf 13 = .ok (.iconst 0, 1) := by decide +kernel
theorem dX11_carriedOf_14 : decode cX11_carriedOf 14 = .ok (.istore 5, 2) := by decide +kernel
theorem dX11_carriedOf_16 : decode cX11_carriedOf 16 = .ok (.iload 5, 2) := by decide +kernel
theorem dX11_carriedOf_18 : decode cX11_carriedOf 18 = .ok (.bipush 60, 2) := by decide +kernel
theorem dX11_carriedOf_20 : decode cX11_carriedOf 20 = .ok (.if_icmp .ge 20, 3) := by decide +kernel
theorem dX11_carriedOf_23 : decode cX11_carriedOf 23 = .ok (.lload_n 3, 1) := by decide +kernel
theorem dX11_carriedOf_24 : decode cX11_carriedOf 24 = .ok (.aload_n 0, 1) := by decide +kernel
theorem dX11_carriedOf_25 : decode cX11_carriedOf 25 = .ok (.getfield 59, 3) := by decide +kernel
theorem dX11_carriedOf_28 : decode cX11_carriedOf 28 = .ok (.iload 5, 2) := by decide +kernel
theorem dX11_carriedOf_30 : decode cX11_carriedOf 30 = .ok (.iaload, 1) := by decide +kernel
theorem dX11_carriedOf_31 : decode cX11_carriedOf 31 = .ok (.i2l, 1) := by decide +kernel
theorem dX11_carriedOf_32 : decode cX11_carriedOf 32 = .ok (.ladd, 1) := by decide +kernel
theorem dX11_carriedOf_33 : decode cX11_carriedOf 33 = .ok (.lstore_n 3, 1) := by decide +kernel
theorem dX11_carriedOf_34 : decode cX11_carriedOf 34 = .ok (.iinc 5 1, 3) := by decide +kernel
theorem dX11_carriedOf_37 : decode cX11_carriedOf 37 = .ok (.goto (-21), 3) := by decide +kernel
theorem dX11_carriedOf_40 : decode cX11_carriedOf 40 = .ok (.aload_n 0, 1) := by decide +kernel
theorem dX11_carriedOf_41 : decode cX11_carriedOf 41 = .ok (.invokevirtual 212, 3) := by decide +kernel
theorem dX11_carriedOf_44 : decode cX11_carriedOf 44 = .ok (.ldc2_w 216, 3) := by decide +kernel
theorem dX11_carriedOf_47 : decode cX11_carriedOf 47 = .ok (.lload_n 3, 1) := by decide +kernel
theorem dX11_carriedOf_48 : decode cX11_carriedOf 48 = .ok (.lmul, 1) := by decide +kernel
theorem dX11_carriedOf_49 : decode cX11_carriedOf 49 = .ok (.ladd, 1) := by decide +kernel
theorem dX11_carriedOf_50 : decode cX11_carriedOf 50 = .ok (.lstore 5, 2) := by decide +kernel
theorem dX11_carriedOf_52 : decode cX11_carriedOf 52 = .ok (.lload 5, 2) := by decide +kernel
theorem dX11_carriedOf_54 : decode cX11_carriedOf 54 = .ok (.ldc2_w 216, 3) := by decide +kernel
theorem dX11_carriedOf_57 : decode cX11_carriedOf 57 = .ok (.lcmp, 1) := by decide +kernel
theorem dX11_carriedOf_58 : decode cX11_carriedOf 58 = .ok (.ifCond .lt 8, 3) := by decide +kernel
theorem dX11_carriedOf_61 : decode cX11_carriedOf 61 = .ok (.bipush (-9), 2) := by decide +kernel
theorem dX11_carriedOf_63 : decode cX11_carriedOf 63 = .ok (.goto 6, 3) := by decide +kernel
theorem dX11_carriedOf_66 : decode cX11_carriedOf 66 = .ok (.lload 5, 2) := by decide +kernel
theorem dX11_carriedOf_68 : decode cX11_carriedOf 68 = .ok (.l2i, 1) := by decide +kernel
theorem dX11_carriedOf_69 : decode cX11_carriedOf 69 = .ok (.ireturn, 1) := by decide +kernel
set_option maxRecDepth 20000 in
theorem ggX11_carried_X11_isKind : GoodIn wsX11_carried wsX11_isKind := goodIn_r _ [5, 6, 7, 8, 4, 9, 56, 57, 58, 59, 60, 61, 62, 63, 64, 65, 66, 67, 68, 69, 70, 71, 72, 73, 74, 75, 76, 77, 78, 79, 80, 81, 82, 83, 84, 85, 86, 87, 88, 89, 90, 91, 92, 93, 94, 95, 96, 97, 98, 99, 100] rfl (by decide +kernel)
set_option maxRecDepth 20000 in
theorem gX11_carried_X11_isKind : GoodIn wsX11_carried (wsV RX11 144 RX11 yX11_isKind wsX11_isKind) := goodIn_app (goodIn_of _ (by decide +kernel)) ggX11_carried_X11_isKind
set_option maxRecDepth 20000 in
theorem ggX11_carried_X11_carriedOf : GoodIn wsX11_carried wsX11_carriedOf := goodIn_r _ [13, 14, 15, 16, 17, 18, 4, 19, 20, 21, 22, 23, 24, 25, 26, 27, 28, 29, 30, 31, 32, 33, 34, 35, 36, 37, 38, 39, 40, 41, 42, 43, 44, 45, 46, 47, 48, 49, 50, 51, 52, 53, 54, 55, 56, 57, 58, 59, 60, 61, 62, 63, 64, 65, 66, 67, 68, 69, 70, 71, 72, 73, 74, 75, 76, 77, 78, 79, 80, 81, 82, 83, 84, 85, 86, 87, 88, 89, 90, 91, 92, 93, 94, 95, 96, 97, 98, 99, 100] rfl (by decide +kernel)
set_option maxRecDepth 20000 in
theorem gX11_carried_X11_carriedOf : GoodIn wsX11_carried (wsV RX11 218 RX11 yX11_carriedOf wsX11_carriedOf) := goodIn_app (goodIn_of _ (by decide +kernel)) ggX11_carried_X11_carriedOf
theorem dX11_carried_0 : decode cX11_carried 0 = .ok (.aload_n 0, 1) := by decide +kernel
theorem dX11_carried_1 : decode cX11_carried 1 = .ok (.iload_n 1, 1) := by decide +kernel
theorem dX11_carried_2 : decode cX11_carried 2 = .ok (.invokevirtual 144, 3) := by decide +kernel
theorem dX11_carried_5 : decode cX11_carried 5 = .ok (.ifCond .eq 13, 3) := by decide +kernel
theorem dX11_carried_8 : decode cX11_carried 8 = .ok (.aload_n 0, 1) := by decide +kernel
theorem dX11_carried_9 : decode cX11_carried 9 = .ok (.iload_n 1, 1) := by decide +kernel
theorem dX11_carried_10 : decode cX11_carried 10 = .ok (.bipush (-9), 2) := by decide +kernel
theorem dX11_carried_12 : decode cX11_carried 12 = .ok (.invokevirtual 218, 3) := by decide +kernel
theorem dX11_carried_15 : decode cX11_carried 15 = .ok (.goto 4, 3) := by decide +kernel
theorem dX11_carried_18 : decode cX11_carried 18 = .ok (.iconst (-1), 1) := by decide +kernel
theorem dX11_carried_19 : decode cX11_carried 19 = .ok (.ireturn, 1) := by decide +kernel
set_option maxRecDepth 20000 in
theorem ggX11_inNeed_X11_isKind : GoodIn wsX11_inNeed wsX11_isKind := goodIn_r _ [9, 10, 11, 12, 8, 13, 24, 25, 26, 27, 28, 29, 30, 31, 32, 33, 34, 35, 36, 37, 38, 39, 40, 41, 42, 43, 44, 45, 46, 47, 48, 49, 50, 51, 52, 53, 54, 55, 56, 57, 58, 59, 60, 61, 62, 63, 64, 65, 66, 67, 68] rfl (by decide +kernel)
set_option maxRecDepth 20000 in
theorem gX11_inNeed_X11_isKind : GoodIn wsX11_inNeed (wsV RX11 144 RX11 yX11_isKind wsX11_isKind) := goodIn_app (goodIn_of _ (by decide +kernel)) ggX11_inNeed_X11_isKind
set_option maxRecDepth 20000 in
theorem ggX11_inNeed_X11_layDays : GoodIn wsX11_inNeed wsX11_layDays := goodIn_r _ [17, 2, 18, 19, 20, 4, 21, 3, 22, 23, 24, 25, 26, 27, 28, 29, 30, 31, 32, 33, 34, 35, 36, 37, 38, 39, 40, 41, 42, 43, 44, 45, 46, 47, 48, 49, 50, 51, 52, 53, 54, 55, 56, 57, 58, 59, 60, 61, 62, 63, 64, 65, 66, 67, 68] rfl (by decide +kernel)
set_option maxRecDepth 20000 in
theorem gX11_inNeed_X11_layDays : GoodIn wsX11_inNeed (wsV RX11 204 RX11 yX11_layDays wsX11_layDays) := goodIn_app (goodIn_of _ (by decide +kernel)) ggX11_inNeed_X11_layDays
theorem dX11_inNeed_0 : decode cX11_inNeed 0 = .ok (.aload_n 0, 1) := by decide +kernel
theorem dX11_inNeed_1 : decode cX11_inNeed 1 = .ok (.iload_n 1, 1) := by decide +kernel
theorem dX11_inNeed_2 : decode cX11_inNeed 2 = .ok (.invokevirtual 144, 3) := by decide +kernel
theorem dX11_inNeed_5 : decode cX11_inNeed 5 = .ok (.ifCond .ne 5, 3) := by decide +kernel
theorem dX11_inNeed_8 : decode cX11_inNeed 8 = .ok (.iconst (-1), 1) := by decide +kernel
theorem dX11_inNeed_9 : decode cX11_inNeed 9 = .ok (.ireturn, 1) := by decide +kernel
theorem dX11_inNeed_10 : decode cX11_inNeed 10 = .ok (.aload_n 0, 1) := by decide +kernel
theorem dX11_inNeed_11 : decode cX11_inNeed 11 = .ok (.iload_n 1, 1) := by decide +kernel
theorem dX11_inNeed_12 : decode cX11_inNeed 12 = .ok (.bipush (-9), 2) := by decide +kernel
theorem dX11_inNeed_14 : decode cX11_inNeed 14 = .ok (.invokevirtual 204, 3) := by decide +kernel
theorem dX11_inNeed_17 : decode cX11_inNeed 17 = .ok (.iconst 0, 1) := by decide +kernel
theorem dX11_inNeed_18 : decode cX11_inNeed 18 = .ok (.istore_n 2, 1) := by decide +kernel
theorem dX11_inNeed_19 : decode cX11_inNeed 19 = .ok (.iconst 0, 1) := by decide +kernel
theorem dX11_inNeed_20 : decode cX11_inNeed 20 = .ok (.istore_n 3, 1) := by decide +kernel
theorem dX11_inNeed_21 : decode cX11_inNeed 21 = .ok (.iload_n 3, 1) := by decide +kernel
theorem dX11_inNeed_22 : decode cX11_inNeed 22 = .ok (.iconst 5, 1) := by decide +kernel
theorem dX11_inNeed_23 : decode cX11_inNeed 23 = .ok (.if_icmp .ge 23, 3) := by decide +kernel
theorem dX11_inNeed_26 : decode cX11_inNeed 26 = .ok (.iload_n 2, 1) := by decide +kernel
theorem dX11_inNeed_27 : decode cX11_inNeed 27 = .ok (.aload_n 0, 1) := by decide +kernel
theorem dX11_inNeed_28 : decode cX11_inNeed 28 = .ok (.getfield 16, 3) := by decide +kernel
theorem dX11_inNeed_31 : decode cX11_inNeed 31 = .ok (.bipush 6, 2) := by decide +kernel
theorem dX11_inNeed_33 : decode cX11_inNeed 33 = .ok (.iload_n 3, 1) := by decide +kernel
theorem dX11_inNeed_34 : decode cX11_inNeed 34 = .ok (.imul, 1) := by decide +kernel
theorem dX11_inNeed_35 : decode cX11_inNeed 35 = .ok (.iload_n 1, 1) := by decide +kernel
theorem dX11_inNeed_36 : decode cX11_inNeed 36 = .ok (.iadd, 1) := by decide +kernel
theorem dX11_inNeed_37 : decode cX11_inNeed 37 = .ok (.iaload, 1) := by decide +kernel
theorem dX11_inNeed_38 : decode cX11_inNeed 38 = .ok (.iadd, 1) := by decide +kernel
theorem dX11_inNeed_39 : decode cX11_inNeed 39 = .ok (.istore_n 2, 1) := by decide +kernel
theorem dX11_inNeed_40 : decode cX11_inNeed 40 = .ok (.iinc 3 1, 3) := by decide +kernel
theorem dX11_inNeed_43 : decode cX11_inNeed 43 = .ok (.goto (-22), 3) := by decide +kernel
theorem dX11_inNeed_46 : decode cX11_inNeed 46 = .ok (.iconst 0, 1) := by decide +kernel
theorem dX11_inNeed_47 : decode cX11_inNeed 47 = .ok (.istore_n 3, 1) := by decide +kernel
theorem dX11_inNeed_48 : decode cX11_inNeed 48 = .ok (.iload_n 3, 1) := by decide +kernel
theorem dX11_inNeed_49 : decode cX11_inNeed 49 = .ok (.aload_n 0, 1) := by decide +kernel
theorem dX11_inNeed_50 : decode cX11_inNeed 50 = .ok (.getfield 185, 3) := by decide +kernel
theorem dX11_inNeed_53 : decode cX11_inNeed 53 = .ok (.if_icmp .ge 56, 3) := by decide +kernel
theorem dX11_inNeed_56 : decode cX11_inNeed 56 = .ok (.iconst 0, 1) := by decide +kernel
theorem dX11_inNeed_57 : decode cX11_inNeed 57 = .ok (.istore 4, 2) := by decide +kernel
theorem dX11_inNeed_59 : decode cX11_inNeed 59 = .ok (.iconst 0, 1) := by decide +kernel
theorem dX11_inNeed_60 : decode cX11_inNeed 60 = .ok (.istore 5, 2) := by decide +kernel
theorem dX11_inNeed_62 : decode cX11_inNeed 62 = .ok (.iload 5, 2) := by decide +kernel
theorem dX11_inNeed_64 : decode cX11_inNeed 64 = .ok (.iconst 5, 1) := by decide +kernel
theorem dX11_inNeed_65 : decode cX11_inNeed 65 = .ok (.if_icmp .ge 25, 3) := by decide +kernel
theorem dX11_inNeed_68 : decode cX11_inNeed 68 = .ok (.iload 4, 2) := by decide +kernel
theorem dX11_inNeed_70 : decode cX11_inNeed 70 = .ok (.aload_n 0, 1) := by decide +kernel
theorem dX11_inNeed_71 : decode cX11_inNeed 71 = .ok (.getfield 59, 3) := by decide +kernel
theorem dX11_inNeed_74 : decode cX11_inNeed 74 = .ok (.iconst 5, 1) := by decide +kernel
theorem dX11_inNeed_75 : decode cX11_inNeed 75 = .ok (.iload_n 3, 1) := by decide +kernel
theorem dX11_inNeed_76 : decode cX11_inNeed 76 = .ok (.imul, 1) := by decide +kernel
theorem dX11_inNeed_77 : decode cX11_inNeed 77 = .ok (.iload 5, 2) := by decide +kernel
theorem dX11_inNeed_79 : decode cX11_inNeed 79 = .ok (.iadd, 1) := by decide +kernel
theorem dX11_inNeed_80 : decode cX11_inNeed 80 = .ok (.iaload, 1) := by decide +kernel
theorem dX11_inNeed_81 : decode cX11_inNeed 81 = .ok (.iadd, 1) := by decide +kernel
theorem dX11_inNeed_82 : decode cX11_inNeed 82 = .ok (.istore 4, 2) := by decide +kernel
theorem dX11_inNeed_84 : decode cX11_inNeed 84 = .ok (.iinc 5 1, 3) := by decide +kernel
theorem dX11_inNeed_87 : decode cX11_inNeed 87 = .ok (.goto (-25), 3) := by decide +kernel
theorem dX11_inNeed_90 : decode cX11_inNeed 90 = .ok (.iload 4, 2) := by decide +kernel
theorem dX11_inNeed_92 : decode cX11_inNeed 92 = .ok (.iload_n 2, 1) := by decide +kernel
theorem dX11_inNeed_93 : decode cX11_inNeed 93 = .ok (.if_icmp .le 10, 3) := by decide +kernel
theorem dX11_inNeed_96 : decode cX11_inNeed 96 = .ok (.aload_n 0, 1) := by decide +kernel
theorem dX11_inNeed_97 : decode cX11_inNeed 97 = .ok (.getfield 56, 3) := by decide +kernel
theorem dX11_inNeed_100 : decode cX11_inNeed 100 = .ok (.iload_n 3, 1) := by decide +kernel
theorem dX11_inNeed_101 : decode cX11_inNeed 101 = .ok (.iaload, 1) := by decide +kernel
theorem dX11_inNeed_102 : decode cX11_inNeed 102 = .ok (.ireturn, 1) := by decide +kernel
theorem dX11_inNeed_103 : decode cX11_inNeed 103 = .ok (.iinc 3 1, 3) := by decide +kernel
theorem dX11_inNeed_106 : decode cX11_inNeed 106 = .ok (.goto (-58), 3) := by decide +kernel
theorem dX11_inNeed_109 : decode cX11_inNeed 109 = .ok (.bipush (-9), 2) := by decide +kernel
theorem dX11_inNeed_111 : decode cX11_inNeed 111 = .ok (.ireturn, 1) := by decide +kernel
set_option maxRecDepth 20000 in
theorem ggX11_costs_X11_in : GoodIn wsX11_costs wsX11_in := goodIn_r _ [7] rfl (by decide +kernel)
set_option maxRecDepth 20000 in
theorem gX11_costs_X11_in : GoodIn wsX11_costs (va_wsS RX11 127 yX11_in wsX11_in) := goodIn_app (goodIn_of _ (by decide +kernel)) ggX11_costs_X11_in
set_option maxRecDepth 20000 in
theorem ggX11_costs_X11_carriedOf : GoodIn wsX11_costs wsX11_carriedOf := goodIn_r _ [11, 12, 13, 14, 15, 16, 6, 17, 18, 1, 3, 2, 19, 20, 21, 22, 23, 24, 25, 26, 27, 28, 29, 30, 31, 32, 33, 34, 35, 36, 37, 38, 39, 40, 41, 42, 43, 44, 45, 46, 47, 48, 49, 50, 51, 52, 53, 54, 55, 56, 57, 58, 59, 60, 61, 62, 63, 64, 65, 66, 67, 68, 69, 70, 71, 72, 73, 74, 75, 76, 77, 78, 79, 80, 81, 82, 83, 84, 85, 86, 87, 88, 89, 90, 91, 92, 93, 94, 95] rfl (by decide +kernel)
set_option maxRecDepth 20000 in
theorem gX11_costs_X11_carriedOf : GoodIn wsX11_costs (wsV RX11 218 RX11 yX11_carriedOf wsX11_carriedOf) := goodIn_app (goodIn_of _ (by decide +kernel)) ggX11_costs_X11_carriedOf
theorem dX11_costs_0 : decode cX11_costs 0 = .ok (.iload_n 1, 1) := by decide +kernel
theorem dX11_costs_1 : decode cX11_costs 1 = .ok (.i2l, 1) := by decide +kernel
theorem dX11_costs_2 : decode cX11_costs 2 = .ok (.lconst 0, 1) := by decide +kernel
theorem dX11_costs_3 : decode cX11_costs 3 = .ok (.aload_n 0, 1) := by decide +kernel
theorem dX11_costs_4 : decode cX11_costs 4 = .ok (.getfield 182, 3) := by decide +kernel
theorem dX11_costs_7 : decode cX11_costs 7 = .ok (.iconst 1, 1) := by decide +kernel
theorem dX11_costs_8 : decode cX11_costs 8 = .ok (.isub, 1) := by decide +kernel
theorem dX11_costs_9 : decode cX11_costs 9 = .ok (.i2l, 1) := by decide +kernel
theorem dX11_costs_10 : decode cX11_costs 10 = .ok (.invokestatic 127, 3) := by decide +kernel
theorem dX11_costs_13 : decode cX11_costs 13 = .ok (.ifCond .ne 5, 3) := by decide +kernel
theorem dX11_costs_16 : decode cX11_costs 16 = .ok (.iconst (-1), 1) := by decide +kernel
theorem dX11_costs_17 : decode cX11_costs 17 = .ok (.ireturn, 1) := by decide +kernel
theorem dX11_costs_18 : decode cX11_costs 18 = .ok (.aload_n 0, 1) := by decide +kernel
theorem dX11_costs_19 : decode cX11_costs 19 = .ok (.getfield 53, 3) := by decide +kernel
theorem dX11_costs_22 : decode cX11_costs 22 = .ok (.iload_n 1, 1) := by decide +kernel
theorem dX11_costs_23 : decode cX11_costs 23 = .ok (.baload, 1) := by decide +kernel
theorem dX11_costs_24 : decode cX11_costs 24 = .ok (.ifCond .eq 6, 3) := by decide +kernel
theorem dX11_costs_27 : decode cX11_costs 27 = .ok (.bipush (-3), 2) := by decide +kernel
theorem dX11_costs_29 : decode cX11_costs 29 = .ok (.ireturn, 1) := by decide +kernel
theorem dX11_costs_30 : decode cX11_costs 30 = .ok (.aload_n 0, 1) := by decide +kernel
theorem dX11_costs_31 : decode cX11_costs 31 = .ok (.aload_n 0, 1) := by decide +kernel
theorem dX11_costs_32 : decode cX11_costs 32 = .ok (.getfield 47, 3) := by decide +kernel
theorem dX11_costs_35 : decode cX11_costs 35 = .ok (.iload_n 1, 1) := by decide +kernel
theorem dX11_costs_36 : decode cX11_costs 36 = .ok (.iaload, 1) := by decide +kernel
theorem dX11_costs_37 : decode cX11_costs 37 = .ok (.bipush (-9), 2) := by decide +kernel
theorem dX11_costs_39 : decode cX11_costs 39 = .ok (.invokevirtual 218, 3) := by decide +kernel
theorem dX11_costs_42 : decode cX11_costs 42 = .ok (.istore_n 2, 1) := by decide +kernel
theorem dX11_costs_43 : decode cX11_costs 43 = .ok (.iload_n 2, 1) := by decide +kernel
theorem dX11_costs_44 : decode cX11_costs 44 = .ok (.bipush (-9), 2) := by decide +kernel
theorem dX11_costs_46 : decode cX11_costs 46 = .ok (.if_icmp .ne 8, 3) := by decide +kernel
theorem dX11_costs_49 : decode cX11_costs 49 = .ok (.bipush (-9), 2) := by decide +kernel
theorem dX11_costs_51 : decode cX11_costs 51 = .ok (.goto 16, 3) := by decide +kernel
theorem dX11_costs_54 : decode cX11_costs 54 = .ok (.iload_n 2, 1) := by decide +kernel
theorem dX11_costs_55 : decode cX11_costs 55 = .ok (.aload_n 0, 1) := by decide +kernel
theorem dX11_costs_56 : decode cX11_costs 56 = .ok (.aload_n 0, 1) := by decide +kernel
theorem dX11_costs_57 : decode cX11_costs 57 = .ok (.getfield 47, 3) := by decide +kernel
theorem dX11_costs_60 : decode cX11_costs 60 = .ok (.iload_n 1, 1) := by decide +kernel
theorem dX11_costs_61 : decode cX11_costs 61 = .ok (.iaload, 1) := by decide +kernel
theorem dX11_costs_62 : decode cX11_costs 62 = .ok (.iload_n 1, 1) := by decide +kernel
theorem dX11_costs_63 : decode cX11_costs 63 = .ok (.invokevirtual 218, 3) := by decide +kernel
theorem dX11_costs_66 : decode cX11_costs 66 = .ok (.isub, 1) := by decide +kernel
theorem dX11_costs_67 : decode cX11_costs 67 = .ok (.ireturn, 1) := by decide +kernel
set_option maxRecDepth 20000 in
theorem ggX11_isLot_X11_in : GoodIn wsX11_isLot wsX11_in := goodIn_r _ [5] rfl (by decide +kernel)
set_option maxRecDepth 20000 in
theorem gX11_isLot_X11_in : GoodIn wsX11_isLot (va_wsS RX11 127 yX11_in wsX11_in) := goodIn_app (goodIn_of _ (by decide +kernel)) ggX11_isLot_X11_in
theorem dX11_isLot_0 : decode cX11_isLot 0 = .ok (.iload_n 0, 1) := by decide +kernel
theorem dX11_isLot_1 : decode cX11_isLot 1 = .ok (.i2l, 1) := by decide +kernel
theorem dX11_isLot_2 : decode cX11_isLot 2 = .ok (.lconst 0, 1) := by decide +kernel
theorem dX11_isLot_3 : decode cX11_isLot 3 = .ok (.ldc2_w 222, 3) := by decide +kernel
theorem dX11_isLot_6 : decode cX11_isLot 6 = .ok (.invokestatic 127, 3) := by decide +kernel
theorem dX11_isLot_9 : decode cX11_isLot 9 = .ok (.ireturn, 1) := by decide +kernel
set_option maxRecDepth 20000 in
theorem ggX11_lot_X11_isLot : GoodIn wsX11_lot wsX11_isLot := goodIn_r _ [11, 12, 13, 14, 10, 15] rfl (by decide +kernel)
set_option maxRecDepth 20000 in
theorem gX11_lot_X11_isLot : GoodIn wsX11_lot (va_wsS RX11 224 yX11_isLot wsX11_isLot) := goodIn_app (goodIn_of _ (by decide +kernel)) ggX11_lot_X11_isLot
set_option maxRecDepth 20000 in
theorem ggX11_lot_X11_in : GoodIn wsX11_lot wsX11_in := goodIn_r _ [15] rfl (by decide +kernel)
set_option maxRecDepth 20000 in
theorem gX11_lot_X11_in : GoodIn wsX11_lot (va_wsS RX11 127 yX11_in wsX11_in) := goodIn_app (goodIn_of _ (by decide +kernel)) ggX11_lot_X11_in
theorem dX11_lot_0 : decode cX11_lot 0 = .ok (.iload_n 1, 1) := by decide +kernel
theorem dX11_lot_1 : decode cX11_lot 1 = .ok (.invokestatic 224, 3) := by decide +kernel
theorem dX11_lot_4 : decode cX11_lot 4 = .ok (.ifCond .ne 5, 3) := by decide +kernel
theorem dX11_lot_7 : decode cX11_lot 7 = .ok (.iconst (-1), 1) := by decide +kernel
theorem dX11_lot_8 : decode cX11_lot 8 = .ok (.ireturn, 1) := by decide +kernel
theorem dX11_lot_9 : decode cX11_lot 9 = .ok (.iload_n 2, 1) := by decide +kernel
theorem dX11_lot_10 : decode cX11_lot 10 = .ok (.ifCond .ne 15, 3) := by decide +kernel
theorem dX11_lot_13 : decode cX11_lot 13 = .ok (.iload_n 3, 1) := by decide +kernel
theorem dX11_lot_14 : decode cX11_lot 14 = .ok (.i2l, 1) := by decide +kernel
theorem dX11_lot_15 : decode cX11_lot 15 = .ok (.lconst 0, 1) := by decide +kernel
theorem dX11_lot_16 : decode cX11_lot 16 = .ok (.ldc2_w 227, 3) := by decide +kernel
theorem dX11_lot_19 : decode cX11_lot 19 = .ok (.invokestatic 127, 3) := by decide +kernel
theorem dX11_lot_22 : decode cX11_lot 22 = .ok (.ifCond .ne 57, 3) := by decide +kernel
theorem dX11_lot_25 : decode cX11_lot 25 = .ok (.iload_n 2, 1) := by decide +kernel
theorem dX11_lot_26 : decode cX11_lot 26 = .ok (.iconst 1, 1) := by decide +kernel
theorem dX11_lot_27 : decode cX11_lot 27 = .ok (.if_icmp .ne 15, 3) := by decide +kernel
theorem dX11_lot_30 : decode cX11_lot 30 = .ok (.iload_n 3, 1) := by decide +kernel
theorem dX11_lot_31 : decode cX11_lot 31 = .ok (.i2l, 1) := by decide +kernel
theorem dX11_lot_32 : decode cX11_lot 32 = .ok (.lconst 1, 1) := by decide +kernel
theorem dX11_lot_33 : decode cX11_lot 33 = .ok (.ldc2_w 227, 3) := by decide +kernel
theorem dX11_lot_36 : decode cX11_lot 36 = .ok (.invokestatic 127, 3) := by decide +kernel
theorem dX11_lot_39 : decode cX11_lot 39 = .ok (.ifCond .ne 40, 3) := by decide +kernel
theorem dX11_lot_42 : decode cX11_lot 42 = .ok (.iload_n 2, 1) := by decide +kernel
theorem dX11_lot_43 : decode cX11_lot 43 = .ok (.iconst 2, 1) := by decide +kernel
theorem dX11_lot_44 : decode cX11_lot 44 = .ok (.if_icmp .ne 15, 3) := by decide +kernel
theorem dX11_lot_47 : decode cX11_lot 47 = .ok (.iload_n 3, 1) := by decide +kernel
theorem dX11_lot_48 : decode cX11_lot 48 = .ok (.i2l, 1) := by decide +kernel
theorem dX11_lot_49 : decode cX11_lot 49 = .ok (.lconst 0, 1) := by decide +kernel
theorem dX11_lot_50 : decode cX11_lot 50 = .ok (.ldc2_w 180, 3) := by decide +kernel
theorem dX11_lot_53 : decode cX11_lot 53 = .ok (.invokestatic 127, 3) := by decide +kernel
theorem dX11_lot_56 : decode cX11_lot 56 = .ok (.ifCond .ne 23, 3) := by decide +kernel
theorem dX11_lot_59 : decode cX11_lot 59 = .ok (.iload_n 2, 1) := by decide +kernel
theorem dX11_lot_60 : decode cX11_lot 60 = .ok (.iconst 3, 1) := by decide +kernel
theorem dX11_lot_61 : decode cX11_lot 61 = .ok (.if_icmp .ne 15, 3) := by decide +kernel
theorem dX11_lot_64 : decode cX11_lot 64 = .ok (.iload_n 3, 1) := by decide +kernel
theorem dX11_lot_65 : decode cX11_lot 65 = .ok (.i2l, 1) := by decide +kernel
theorem dX11_lot_66 : decode cX11_lot 66 = .ok (.lconst 0, 1) := by decide +kernel
theorem dX11_lot_67 : decode cX11_lot 67 = .ok (.ldc2_w 229, 3) := by decide +kernel
theorem dX11_lot_70 : decode cX11_lot 70 = .ok (.invokestatic 127, 3) := by decide +kernel
theorem dX11_lot_73 : decode cX11_lot 73 = .ok (.ifCond .ne 6, 3) := by decide +kernel
theorem dX11_lot_76 : decode cX11_lot 76 = .ok (.bipush (-2), 2) := by decide +kernel
theorem dX11_lot_78 : decode cX11_lot 78 = .ok (.ireturn, 1) := by decide +kernel
theorem dX11_lot_79 : decode cX11_lot 79 = .ok (.iload_n 2, 1) := by decide +kernel
theorem dX11_lot_80 : decode cX11_lot 80 = .ok (.ifCond .ne 12, 3) := by decide +kernel
theorem dX11_lot_83 : decode cX11_lot 83 = .ok (.aload_n 0, 1) := by decide +kernel
theorem dX11_lot_84 : decode cX11_lot 84 = .ok (.getfield 81, 3) := by decide +kernel
theorem dX11_lot_87 : decode cX11_lot 87 = .ok (.iload_n 1, 1) := by decide +kernel
theorem dX11_lot_88 : decode cX11_lot 88 = .ok (.iaload, 1) := by decide +kernel
theorem dX11_lot_89 : decode cX11_lot 89 = .ok (.goto 37, 3) := by decide +kernel
theorem dX11_lot_92 : decode cX11_lot 92 = .ok (.iload_n 2, 1) := by decide +kernel
theorem dX11_lot_93 : decode cX11_lot 93 = .ok (.iconst 1, 1) := by decide +kernel
theorem dX11_lot_94 : decode cX11_lot 94 = .ok (.if_icmp .ne 12, 3) := by decide +kernel
theorem dX11_lot_97 : decode cX11_lot 97 = .ok (.aload_n 0, 1) := by decide +kernel
theorem dX11_lot_98 : decode cX11_lot 98 = .ok (.getfield 84, 3) := by decide +kernel
theorem dX11_lot_101 : decode cX11_lot 101 = .ok (.iload_n 1, 1) := by decide +kernel
theorem dX11_lot_102 : decode cX11_lot 102 = .ok (.iaload, 1) := by decide +kernel
theorem dX11_lot_103 : decode cX11_lot 103 = .ok (.goto 23, 3) := by decide +kernel
theorem dX11_lot_106 : decode cX11_lot 106 = .ok (.iload_n 2, 1) := by decide +kernel
theorem dX11_lot_107 : decode cX11_lot 107 = .ok (.iconst 2, 1) := by decide +kernel
theorem dX11_lot_108 : decode cX11_lot 108 = .ok (.if_icmp .ne 12, 3) := by decide +kernel
theorem dX11_lot_111 : decode cX11_lot 111 = .ok (.aload_n 0, 1) := by decide +kernel
theorem dX11_lot_112 : decode cX11_lot 112 = .ok (.getfield 87, 3) := by decide +kernel
theorem dX11_lot_115 : decode cX11_lot 115 = .ok (.iload_n 1, 1) := by decide +kernel
theorem dX11_lot_116 : decode cX11_lot 116 = .ok (.iaload, 1) := by decide +kernel
theorem dX11_lot_117 : decode cX11_lot 117 = .ok (.goto 9, 3) := by decide +kernel
theorem dX11_lot_120 : decode cX11_lot 120 = .ok (.aload_n 0, 1) := by decide +kernel
theorem dX11_lot_121 : decode cX11_lot 121 = .ok (.getfield 90, 3) := by decide +kernel
theorem dX11_lot_124 : decode cX11_lot 124 = .ok (.iload_n 1, 1) := by decide +kernel
theorem dX11_lot_125 : decode cX11_lot 125 = .ok (.iaload, 1) := by decide +kernel
theorem dX11_lot_126 : decode cX11_lot 126 = .ok (.istore 4, 2) := by decide +kernel
theorem dX11_lot_128 : decode cX11_lot 128 = .ok (.aload_n 0, 1) := by decide +kernel
theorem dX11_lot_129 : decode cX11_lot 129 = .ok (.getfield 81, 3) := by decide +kernel
theorem dX11_lot_132 : decode cX11_lot 132 = .ok (.iload_n 1, 1) := by decide +kernel
theorem dX11_lot_133 : decode cX11_lot 133 = .ok (.iload_n 2, 1) := by decide +kernel
theorem dX11_lot_134 : decode cX11_lot 134 = .ok (.ifCond .ne 7, 3) := by decide +kernel
theorem dX11_lot_137 : decode cX11_lot 137 = .ok (.iload_n 3, 1) := by decide +kernel
theorem dX11_lot_138 : decode cX11_lot 138 = .ok (.goto 9, 3) := by decide +kernel
theorem dX11_lot_141 : decode cX11_lot 141 = .ok (.aload_n 0, 1) := by decide +kernel
theorem dX11_lot_142 : decode cX11_lot 142 = .ok (.getfield 81, 3) := by decide +kernel
theorem dX11_lot_145 : decode cX11_lot 145 = .ok (.iload_n 1, 1) := by decide +kernel
theorem dX11_lot_146 : decode cX11_lot 146 = .ok (.iaload, 1) := by decide +kernel
theorem dX11_lot_147 : decode cX11_lot 147 = .ok (.iastore, 1) := by decide +kernel
theorem dX11_lot_148 : decode cX11_lot 148 = .ok (.aload_n 0, 1) := by decide +kernel
theorem dX11_lot_149 : decode cX11_lot 149 = .ok (.getfield 84, 3) := by decide +kernel
theorem dX11_lot_152 : decode cX11_lot 152 = .ok (.iload_n 1, 1) := by decide +kernel
theorem dX11_lot_153 : decode cX11_lot 153 = .ok (.iload_n 2, 1) := by decide +kernel
theorem dX11_lot_154 : decode cX11_lot 154 = .ok (.iconst 1, 1) := by decide +kernel
theorem dX11_lot_155 : decode cX11_lot 155 = .ok (.if_icmp .ne 7, 3) := by decide +kernel
theorem dX11_lot_158 : decode cX11_lot 158 = .ok (.iload_n 3, 1) := by decide +kernel
theorem dX11_lot_159 : decode cX11_lot 159 = .ok (.goto 9, 3) := by decide +kernel
theorem dX11_lot_162 : decode cX11_lot 162 = .ok (.aload_n 0, 1) := by decide +kernel
theorem dX11_lot_163 : decode cX11_lot 163 = .ok (.getfield 84, 3) := by decide +kernel
theorem dX11_lot_166 : decode cX11_lot 166 = .ok (.iload_n 1, 1) := by decide +kernel
theorem dX11_lot_167 : decode cX11_lot 167 = .ok (.iaload, 1) := by decide +kernel
theorem dX11_lot_168 : decode cX11_lot 168 = .ok (.iastore, 1) := by decide +kernel
theorem dX11_lot_169 : decode cX11_lot 169 = .ok (.aload_n 0, 1) := by decide +kernel
theorem dX11_lot_170 : decode cX11_lot 170 = .ok (.getfield 87, 3) := by decide +kernel
theorem dX11_lot_173 : decode cX11_lot 173 = .ok (.iload_n 1, 1) := by decide +kernel
theorem dX11_lot_174 : decode cX11_lot 174 = .ok (.iload_n 2, 1) := by decide +kernel
theorem dX11_lot_175 : decode cX11_lot 175 = .ok (.iconst 2, 1) := by decide +kernel
theorem dX11_lot_176 : decode cX11_lot 176 = .ok (.if_icmp .ne 7, 3) := by decide +kernel
theorem dX11_lot_179 : decode cX11_lot 179 = .ok (.iload_n 3, 1) := by decide +kernel
theorem dX11_lot_180 : decode cX11_lot 180 = .ok (.goto 9, 3) := by decide +kernel
theorem dX11_lot_183 : decode cX11_lot 183 = .ok (.aload_n 0, 1) := by decide +kernel
theorem dX11_lot_184 : decode cX11_lot 184 = .ok (.getfield 87, 3) := by decide +kernel
theorem dX11_lot_187 : decode cX11_lot 187 = .ok (.iload_n 1, 1) := by decide +kernel
theorem dX11_lot_188 : decode cX11_lot 188 = .ok (.iaload, 1) := by decide +kernel
theorem dX11_lot_189 : decode cX11_lot 189 = .ok (.iastore, 1) := by decide +kernel
theorem dX11_lot_190 : decode cX11_lot 190 = .ok (.aload_n 0, 1) := by decide +kernel
theorem dX11_lot_191 : decode cX11_lot 191 = .ok (.getfield 90, 3) := by decide +kernel
theorem dX11_lot_194 : decode cX11_lot 194 = .ok (.iload_n 1, 1) := by decide +kernel
theorem dX11_lot_195 : decode cX11_lot 195 = .ok (.iload_n 2, 1) := by decide +kernel
theorem dX11_lot_196 : decode cX11_lot 196 = .ok (.iconst 3, 1) := by decide +kernel
theorem dX11_lot_197 : decode cX11_lot 197 = .ok (.if_icmp .ne 7, 3) := by decide +kernel
theorem dX11_lot_200 : decode cX11_lot 200 = .ok (.iload_n 3, 1) := by decide +kernel
theorem dX11_lot_201 : decode cX11_lot 201 = .ok (.goto 9, 3) := by decide +kernel
theorem dX11_lot_204 : decode cX11_lot 204 = .ok (.aload_n 0, 1) := by decide +kernel
theorem dX11_lot_205 : decode cX11_lot 205 = .ok (.getfield 90, 3) := by decide +kernel
theorem dX11_lot_208 : decode cX11_lot 208 = .ok (.iload_n 1, 1) := by decide +kernel
theorem dX11_lot_209 : decode cX11_lot 209 = .ok (.iaload, 1) := by decide +kernel
theorem dX11_lot_210 : decode cX11_lot 210 = .ok (.iastore, 1) := by decide +kernel
theorem dX11_lot_211 : decode cX11_lot 211 = .ok (.iload 4, 2) := by decide +kernel
theorem dX11_lot_213 : decode cX11_lot 213 = .ok (.ireturn, 1) := by decide +kernel
set_option maxRecDepth 20000 in
theorem ggX11_crew_X11_in : GoodIn wsX11_crew wsX11_in := goodIn_r _ [6] rfl (by decide +kernel)
set_option maxRecDepth 20000 in
theorem gX11_crew_X11_in : GoodIn wsX11_crew (va_wsS RX11 127 yX11_in wsX11_in) := goodIn_app (goodIn_of _ (by decide +kernel)) ggX11_crew_X11_in
theorem dX11_crew_0 : decode cX11_crew 0 = .ok (.iload_n 1, 1) := by decide +kernel
theorem dX11_crew_1 : decode cX11_crew 1 = .ok (.i2l, 1) := by decide +kernel
theorem dX11_crew_2 : decode cX11_crew 2 = .ok (.lconst 0, 1) := by decide +kernel
theorem dX11_crew_3 : decode cX11_crew 3 = .ok (.ldc2_w 125, 3) := by decide +kernel
theorem dX11_crew_6 : decode cX11_crew 6 = .ok (.invokestatic 127, 3) := by decide +kernel
theorem dX11_crew_9 : decode cX11_crew 9 = .ok (.ifCond .ne 6, 3) := by decide +kernel
theorem dX11_crew_12 : decode cX11_crew 12 = .ok (.bipush (-2), 2) := by decide +kernel
theorem dX11_crew_14 : decode cX11_crew 14 = .ok (.ireturn, 1) := by decide +kernel
theorem dX11_crew_15 : decode cX11_crew 15 = .ok (.aload_n 0, 1) := by decide +kernel
theorem dX11_crew_16 : decode cX11_crew 16 = .ok (.getfield 93, 3) := by decide +kernel
theorem dX11_crew_19 : decode cX11_crew 19 = .ok (.istore_n 2, 1) := by decide +kernel
theorem dX11_crew_20 : decode cX11_crew 20 = .ok (.aload_n 0, 1) := by decide +kernel
theorem dX11_crew_21 : decode cX11_crew 21 = .ok (.iload_n 1, 1) := by decide +kernel
theorem dX11_crew_22 : decode cX11_crew 22 = .ok (.putfield 93, 3) := by decide +kernel
theorem dX11_crew_25 : decode cX11_crew 25 = .ok (.iload_n 2, 1) := by decide +kernel
theorem dX11_crew_26 : decode cX11_crew 26 = .ok (.ireturn, 1) := by decide +kernel
theorem dX11_ones_0 : decode cX11_ones 0 = .ok (.iload_n 0, 1) := by decide +kernel
theorem dX11_ones_1 : decode cX11_ones 1 = .ok (.iconst 1, 1) := by decide +kernel
theorem dX11_ones_2 : decode cX11_ones 2 = .ok (.iand, 1) := by decide +kernel
theorem dX11_ones_3 : decode cX11_ones 3 = .ok (.iload_n 0, 1) := by decide +kernel
theorem dX11_ones_4 : decode cX11_ones 4 = .ok (.iconst 1, 1) := by decide +kernel
theorem dX11_ones_5 : decode cX11_ones 5 = .ok (.ishr, 1) := by decide +kernel
theorem dX11_ones_6 : decode cX11_ones 6 = .ok (.iconst 1, 1) := by decide +kernel
theorem dX11_ones_7 : decode cX11_ones 7 = .ok (.iand, 1) := by decide +kernel
theorem dX11_ones_8 : decode cX11_ones 8 = .ok (.iadd, 1) := by decide +kernel
theorem dX11_ones_9 : decode cX11_ones 9 = .ok (.iload_n 0, 1) := by decide +kernel
theorem dX11_ones_10 : decode cX11_ones 10 = .ok (.iconst 2, 1) := by decide +kernel
theorem dX11_ones_11 : decode cX11_ones 11 = .ok (.ishr, 1) := by decide +kernel
theorem dX11_ones_12 : decode cX11_ones 12 = .ok (.iconst 1, 1) := by decide +kernel
theorem dX11_ones_13 : decode cX11_ones 13 = .ok (.iand, 1) := by decide +kernel
theorem dX11_ones_14 : decode cX11_ones 14 = .ok (.iadd, 1) := by decide +kernel
theorem dX11_ones_15 : decode cX11_ones 15 = .ok (.iload_n 0, 1) := by decide +kernel
theorem dX11_ones_16 : decode cX11_ones 16 = .ok (.iconst 3, 1) := by decide +kernel
theorem dX11_ones_17 : decode cX11_ones 17 = .ok (.ishr, 1) := by decide +kernel
theorem dX11_ones_18 : decode cX11_ones 18 = .ok (.iconst 1, 1) := by decide +kernel
theorem dX11_ones_19 : decode cX11_ones 19 = .ok (.iand, 1) := by decide +kernel
theorem dX11_ones_20 : decode cX11_ones 20 = .ok (.iadd, 1) := by decide +kernel
theorem dX11_ones_21 : decode cX11_ones 21 = .ok (.ireturn, 1) := by decide +kernel
theorem dX11_power9_0 : decode cX11_power9 0 = .ok (.iload_n 0, 1) := by decide +kernel
theorem dX11_power9_1 : decode cX11_power9 1 = .ok (.ifCond .ne 7, 3) := by decide +kernel
theorem dX11_power9_4 : decode cX11_power9 4 = .ok (.iconst 1, 1) := by decide +kernel
theorem dX11_power9_5 : decode cX11_power9 5 = .ok (.goto 26, 3) := by decide +kernel
theorem dX11_power9_8 : decode cX11_power9 8 = .ok (.iload_n 0, 1) := by decide +kernel
theorem dX11_power9_9 : decode cX11_power9 9 = .ok (.iconst 1, 1) := by decide +kernel
theorem dX11_power9_10 : decode cX11_power9 10 = .ok (.if_icmp .ne 8, 3) := by decide +kernel
theorem dX11_power9_13 : decode cX11_power9 13 = .ok (.bipush 9, 2) := by decide +kernel
theorem dX11_power9_15 : decode cX11_power9 15 = .ok (.goto 16, 3) := by decide +kernel
theorem dX11_power9_18 : decode cX11_power9 18 = .ok (.iload_n 0, 1) := by decide +kernel
theorem dX11_power9_19 : decode cX11_power9 19 = .ok (.iconst 2, 1) := by decide +kernel
theorem dX11_power9_20 : decode cX11_power9 20 = .ok (.if_icmp .ne 8, 3) := by decide +kernel
theorem dX11_power9_23 : decode cX11_power9 23 = .ok (.bipush 81, 2) := by decide +kernel
theorem dX11_power9_25 : decode cX11_power9 25 = .ok (.goto 6, 3) := by decide +kernel
theorem dX11_power9_28 : decode cX11_power9 28 = .ok (.sipush 729, 3) := by decide +kernel
theorem dX11_power9_31 : decode cX11_power9 31 = .ok (.ireturn, 1) := by decide +kernel
theorem dX11_isGood_0 : decode cX11_isGood 0 = .ok (.iload_n 3, 1) := by decide +kernel
theorem dX11_isGood_1 : decode cX11_isGood 1 = .ok (.ifCond .ne 9, 3) := by decide +kernel
theorem dX11_isGood_4 : decode cX11_isGood 4 = .ok (.iload_n 2, 1) := by decide +kernel
theorem dX11_isGood_5 : decode cX11_isGood 5 = .ok (.iconst 1, 1) := by decide +kernel
theorem dX11_isGood_6 : decode cX11_isGood 6 = .ok (.iadd, 1) := by decide +kernel
theorem dX11_isGood_7 : decode cX11_isGood 7 = .ok (.goto 8, 3) := by decide +kernel
theorem dX11_isGood_10 : decode cX11_isGood 10 = .ok (.iload_n 2, 1) := by decide +kernel
theorem dX11_isGood_11 : decode cX11_isGood 11 = .ok (.iconst 2, 1) := by decide +kernel
theorem dX11_isGood_12 : decode cX11_isGood 12 = .ok (.iadd, 1) := by decide +kernel
theorem dX11_isGood_13 : decode cX11_isGood 13 = .ok (.iload_n 3, 1) := by decide +kernel
theorem dX11_isGood_14 : decode cX11_isGood 14 = .ok (.isub, 1) := by decide +kernel
theorem dX11_isGood_15 : decode cX11_isGood 15 = .ok (.istore 4, 2) := by decide +kernel
theorem dX11_isGood_17 : decode cX11_isGood 17 = .ok (.iload_n 3, 1) := by decide +kernel
theorem dX11_isGood_18 : decode cX11_isGood 18 = .ok (.ifCond .ne 12, 3) := by decide +kernel
theorem dX11_isGood_21 : decode cX11_isGood 21 = .ok (.aload_n 0, 1) := by decide +kernel
theorem dX11_isGood_22 : decode cX11_isGood 22 = .ok (.getfield 81, 3) := by decide +kernel
theorem dX11_isGood_25 : decode cX11_isGood 25 = .ok (.iload_n 1, 1) := by decide +kernel
theorem dX11_isGood_26 : decode cX11_isGood 26 = .ok (.iaload, 1) := by decide +kernel
theorem dX11_isGood_27 : decode cX11_isGood 27 = .ok (.goto 9, 3) := by decide +kernel
theorem dX11_isGood_30 : decode cX11_isGood 30 = .ok (.aload_n 0, 1) := by decide +kernel
theorem dX11_isGood_31 : decode cX11_isGood 31 = .ok (.getfield 84, 3) := by decide +kernel
theorem dX11_isGood_34 : decode cX11_isGood 34 = .ok (.iload_n 1, 1) := by decide +kernel
theorem dX11_isGood_35 : decode cX11_isGood 35 = .ok (.iaload, 1) := by decide +kernel
theorem dX11_isGood_36 : decode cX11_isGood 36 = .ok (.aload_n 0, 1) := by decide +kernel
theorem dX11_isGood_37 : decode cX11_isGood 37 = .ok (.getfield 87, 3) := by decide +kernel
theorem dX11_isGood_40 : decode cX11_isGood 40 = .ok (.iload_n 1, 1) := by decide +kernel
theorem dX11_isGood_41 : decode cX11_isGood 41 = .ok (.iaload, 1) := by decide +kernel
theorem dX11_isGood_42 : decode cX11_isGood 42 = .ok (.iload 4, 2) := by decide +kernel
theorem dX11_isGood_44 : decode cX11_isGood 44 = .ok (.imul, 1) := by decide +kernel
theorem dX11_isGood_45 : decode cX11_isGood 45 = .ok (.isub, 1) := by decide +kernel
theorem dX11_isGood_46 : decode cX11_isGood 46 = .ok (.istore 5, 2) := by decide +kernel
theorem dX11_isGood_48 : decode cX11_isGood 48 = .ok (.iload 5, 2) := by decide +kernel
theorem dX11_isGood_50 : decode cX11_isGood 50 = .ok (.ifCond .ge 7, 3) := by decide +kernel
theorem dX11_isGood_53 : decode cX11_isGood 53 = .ok (.iconst 0, 1) := by decide +kernel
theorem dX11_isGood_54 : decode cX11_isGood 54 = .ok (.goto 5, 3) := by decide +kernel
theorem dX11_isGood_57 : decode cX11_isGood 57 = .ok (.iload 5, 2) := by decide +kernel
theorem dX11_isGood_59 : decode cX11_isGood 59 = .ok (.aload_n 0, 1) := by decide +kernel
theorem dX11_isGood_60 : decode cX11_isGood 60 = .ok (.getfield 90, 3) := by decide +kernel
theorem dX11_isGood_63 : decode cX11_isGood 63 = .ok (.iload_n 1, 1) := by decide +kernel
theorem dX11_isGood_64 : decode cX11_isGood 64 = .ok (.iaload, 1) := by decide +kernel
theorem dX11_isGood_65 : decode cX11_isGood 65 = .ok (.if_icmp .lt 7, 3) := by decide +kernel
theorem dX11_isGood_68 : decode cX11_isGood 68 = .ok (.iconst 1, 1) := by decide +kernel
theorem dX11_isGood_69 : decode cX11_isGood 69 = .ok (.goto 4, 3) := by decide +kernel
theorem dX11_isGood_72 : decode cX11_isGood 72 = .ok (.iconst 0, 1) := by decide +kernel
theorem dX11_isGood_73 : decode cX11_isGood 73 = .ok (.ireturn, 1) := by decide +kernel
set_option maxRecDepth 20000 in
theorem ggX11_then_X11_power9 : GoodIn wsX11_then wsX11_power9 := goodIn_r _ [4] rfl (by decide +kernel)
set_option maxRecDepth 20000 in
theorem gX11_then_X11_power9 : GoodIn wsX11_then (va_wsS RX11 231 yX11_power9 wsX11_power9) := goodIn_app (goodIn_of _ (by decide +kernel)) ggX11_then_X11_power9
set_option maxRecDepth 20000 in
theorem ggX11_then_X11_isGood : GoodIn wsX11_then wsX11_isGood := goodIn_r _ [8, 9, 10, 11, 12, 13, 14, 15, 16, 17, 18, 19, 20, 21, 22, 23, 24, 25, 26, 27, 28, 29, 30, 31, 32, 33, 34, 35, 36, 37, 38, 39, 40, 41, 42, 43, 44, 45, 46, 47, 48, 49, 50, 51, 52, 53, 54, 55, 56, 57] rfl (by decide +kernel)
set_option maxRecDepth 20000 in
theorem gX11_then_X11_isGood : GoodIn wsX11_then (wsV RX11 235 RX11 yX11_isGood wsX11_isGood) := goodIn_app (goodIn_of _ (by decide +kernel)) ggX11_then_X11_isGood
theorem dX11_then_0 : decode cX11_then 0 = .ok (.iconst 0, 1) := by decide +kernel
theorem dX11_then_1 : decode cX11_then 1 = .ok (.istore 4, 2) := by decide +kernel
theorem dX11_then_3 : decode cX11_then 3 = .ok (.iconst 0, 1) := by decide +kernel
theorem dX11_then_4 : decode cX11_then 4 = .ok (.istore 5, 2) := by decide +kernel
theorem dX11_then_6 : decode cX11_then 6 = .ok (.iload 5, 2) := by decide +kernel
theorem dX11_then_8 : decode cX11_then 8 = .ok (.iconst 4, 1) := by decide +kernel
theorem dX11_then_9 : decode cX11_then 9 = .ok (.if_icmp .ge 65, 3) := by decide +kernel
theorem dX11_then_12 : decode cX11_then 12 = .ok (.iload_n 3, 1) := by decide +kernel
theorem dX11_then_13 : decode cX11_then 13 = .ok (.iload 5, 2) := by decide +kernel
theorem dX11_then_15 : decode cX11_then 15 = .ok (.ishr, 1) := by decide +kernel
theorem dX11_then_16 : decode cX11_then 16 = .ok (.iconst 1, 1) := by decide +kernel
theorem dX11_then_17 : decode cX11_then 17 = .ok (.iand, 1) := by decide +kernel
theorem dX11_then_18 : decode cX11_then 18 = .ok (.iconst 1, 1) := by decide +kernel
theorem dX11_then_19 : decode cX11_then 19 = .ok (.if_icmp .ne 9, 3) := by decide +kernel
theorem dX11_then_22 : decode cX11_then 22 = .ok (.iload_n 2, 1) := by decide +kernel
theorem dX11_then_23 : decode cX11_then 23 = .ok (.iconst 1, 1) := by decide +kernel
theorem dX11_then_24 : decode cX11_then 24 = .ok (.iadd, 1) := by decide +kernel
theorem dX11_then_25 : decode cX11_then 25 = .ok (.goto 13, 3) := by decide +kernel
theorem dX11_then_28 : decode cX11_then 28 = .ok (.iload_n 1, 1) := by decide +kernel
theorem dX11_then_29 : decode cX11_then 29 = .ok (.iload 5, 2) := by decide +kernel
theorem dX11_then_31 : decode cX11_then 31 = .ok (.invokestatic 231, 3) := by decide +kernel
theorem dX11_then_34 : decode cX11_then 34 = .ok (.idiv, 1) := by decide +kernel
theorem dX11_then_35 : decode cX11_then 35 = .ok (.bipush 9, 2) := by decide +kernel
theorem dX11_then_37 : decode cX11_then 37 = .ok (.irem, 1) := by decide +kernel
theorem dX11_then_38 : decode cX11_then 38 = .ok (.istore 6, 2) := by decide +kernel
theorem dX11_then_40 : decode cX11_then 40 = .ok (.aload_n 0, 1) := by decide +kernel
theorem dX11_then_41 : decode cX11_then 41 = .ok (.iload 5, 2) := by decide +kernel
theorem dX11_then_43 : decode cX11_then 43 = .ok (.iload_n 2, 1) := by decide +kernel
theorem dX11_then_44 : decode cX11_then 44 = .ok (.iload 6, 2) := by decide +kernel
theorem dX11_then_46 : decode cX11_then 46 = .ok (.invokevirtual 235, 3) := by decide +kernel
theorem dX11_then_49 : decode cX11_then 49 = .ok (.ifCond .ne 6, 3) := by decide +kernel
theorem dX11_then_52 : decode cX11_then 52 = .ok (.bipush (-9), 2) := by decide +kernel
theorem dX11_then_54 : decode cX11_then 54 = .ok (.ireturn, 1) := by decide +kernel
theorem dX11_then_55 : decode cX11_then 55 = .ok (.iload 4, 2) := by decide +kernel
theorem dX11_then_57 : decode cX11_then 57 = .ok (.iload 6, 2) := by decide +kernel
theorem dX11_then_59 : decode cX11_then 59 = .ok (.iload 5, 2) := by decide +kernel
theorem dX11_then_61 : decode cX11_then 61 = .ok (.invokestatic 231, 3) := by decide +kernel
theorem dX11_then_64 : decode cX11_then 64 = .ok (.imul, 1) := by decide +kernel
theorem dX11_then_65 : decode cX11_then 65 = .ok (.iadd, 1) := by decide +kernel
theorem dX11_then_66 : decode cX11_then 66 = .ok (.istore 4, 2) := by decide +kernel
theorem dX11_then_68 : decode cX11_then 68 = .ok (.iinc 5 1, 3) := by decide +kernel
theorem dX11_then_71 : decode cX11_then 71 = .ok (.goto (-65), 3) := by decide +kernel
theorem dX11_then_74 : decode cX11_then 74 = .ok (.iload 4, 2) := by decide +kernel
theorem dX11_then_76 : decode cX11_then 76 = .ok (.ireturn, 1) := by decide +kernel
set_option maxRecDepth 20000 in
theorem ggX11_layPlan_X11_ones : GoodIn wsX11_layPlan wsX11_ones := goodIn_r _ [7] rfl (by decide +kernel)
set_option maxRecDepth 20000 in
theorem gX11_layPlan_X11_ones : GoodIn wsX11_layPlan (va_wsS RX11 238 yX11_ones wsX11_ones) := goodIn_app (goodIn_of _ (by decide +kernel)) ggX11_layPlan_X11_ones
set_option maxRecDepth 20000 in
theorem ggX11_layPlan_X11_then : GoodIn wsX11_layPlan wsX11_then := goodIn_r _ [11, 12, 13, 6, 14, 15, 16, 17, 18, 19, 20, 21, 22, 23, 24, 25, 26, 27, 28, 29, 30, 31, 32, 33, 34, 35, 36, 37, 38, 39, 40, 41, 42, 43, 44, 45, 46, 47, 48, 49, 50, 51, 52, 53, 54, 55, 56, 57, 58, 59, 60, 61, 62, 63, 64, 65, 66, 67] rfl (by decide +kernel)
set_option maxRecDepth 20000 in
theorem gX11_layPlan_X11_then : GoodIn wsX11_layPlan (wsV RX11 241 RX11 yX11_then wsX11_then) := goodIn_app (goodIn_of _ (by decide +kernel)) ggX11_layPlan_X11_then
theorem dX11_layPlan_0 : decode cX11_layPlan 0 = .ok (.iconst 0, 1) := by decide +kernel
theorem dX11_layPlan_1 : decode cX11_layPlan 1 = .ok (.istore_n 2, 1) := by decide +kernel
theorem dX11_layPlan_2 : decode cX11_layPlan 2 = .ok (.iload_n 2, 1) := by decide +kernel
theorem dX11_layPlan_3 : decode cX11_layPlan 3 = .ok (.sipush 6561, 3) := by decide +kernel
theorem dX11_layPlan_6 : decode cX11_layPlan 6 = .ok (.if_icmp .ge 22, 3) := by decide +kernel
theorem dX11_layPlan_9 : decode cX11_layPlan 9 = .ok (.aload_n 0, 1) := by decide +kernel
theorem dX11_layPlan_10 : decode cX11_layPlan 10 = .ok (.getfield 98, 3) := by decide +kernel
theorem dX11_layPlan_13 : decode cX11_layPlan 13 = .ok (.sipush 6561, 3) := by decide +kernel
theorem dX11_layPlan_16 : decode cX11_layPlan 16 = .ok (.iload_n 1, 1) := by decide +kernel
theorem dX11_layPlan_17 : decode cX11_layPlan 17 = .ok (.imul, 1) := by decide +kernel
theorem dX11_layPlan_18 : decode cX11_layPlan 18 = .ok (.iload_n 2, 1) := by decide +kernel
theorem dX11_layPlan_19 : decode cX11_layPlan 19 = .ok (.iadd, 1) := by decide +kernel
theorem dX11_layPlan_20 : decode cX11_layPlan 20 = .ok (.iconst 0, 1) := by decide +kernel
theorem dX11_layPlan_21 : decode cX11_layPlan 21 = .ok (.iastore, 1) := by decide +kernel
theorem dX11_layPlan_22 : decode cX11_layPlan 22 = .ok (.iinc 2 1, 3) := by decide +kernel
theorem dX11_layPlan_25 : decode cX11_layPlan 25 = .ok (.goto (-23), 3) := by decide +kernel
theorem dX11_layPlan_28 : decode cX11_layPlan 28 = .ok (.iload_n 1, 1) := by decide +kernel
theorem dX11_layPlan_29 : decode cX11_layPlan 29 = .ok (.iconst 1, 1) := by decide +kernel
theorem dX11_layPlan_30 : decode cX11_layPlan 30 = .ok (.isub, 1) := by decide +kernel
theorem dX11_layPlan_31 : decode cX11_layPlan 31 = .ok (.istore_n 2, 1) := by decide +kernel
theorem dX11_layPlan_32 : decode cX11_layPlan 32 = .ok (.iload_n 2, 1) := by decide +kernel
theorem dX11_layPlan_33 : decode cX11_layPlan 33 = .ok (.ifCond .lt 138, 3) := by decide +kernel
theorem dX11_layPlan_36 : decode cX11_layPlan 36 = .ok (.iconst 0, 1) := by decide +kernel
theorem dX11_layPlan_37 : decode cX11_layPlan 37 = .ok (.istore_n 3, 1) := by decide +kernel
theorem dX11_layPlan_38 : decode cX11_layPlan 38 = .ok (.iload_n 3, 1) := by decide +kernel
theorem dX11_layPlan_39 : decode cX11_layPlan 39 = .ok (.sipush 6561, 3) := by decide +kernel
theorem dX11_layPlan_42 : decode cX11_layPlan 42 = .ok (.if_icmp .ge 123, 3) := by decide +kernel
theorem dX11_layPlan_45 : decode cX11_layPlan 45 = .ok (.ldc 195, 2) := by decide +kernel
theorem dX11_layPlan_47 : decode cX11_layPlan 47 = .ok (.istore 4, 2) := by decide +kernel
theorem dX11_layPlan_49 : decode cX11_layPlan 49 = .ok (.iconst 0, 1) := by decide +kernel
theorem dX11_layPlan_50 : decode cX11_layPlan 50 = .ok (.istore 5, 2) := by decide +kernel
theorem dX11_layPlan_52 : decode cX11_layPlan 52 = .ok (.iload 5, 2) := by decide +kernel
theorem dX11_layPlan_54 : decode cX11_layPlan 54 = .ok (.bipush 16, 2) := by decide +kernel
theorem dX11_layPlan_56 : decode cX11_layPlan 56 = .ok (.if_icmp .ge 89, 3) := by decide +kernel
theorem dX11_layPlan_59 : decode cX11_layPlan 59 = .ok (.iload 5, 2) := by decide +kernel
theorem dX11_layPlan_61 : decode cX11_layPlan 61 = .ok (.invokestatic 238, 3) := by decide +kernel
theorem dX11_layPlan_64 : decode cX11_layPlan 64 = .ok (.aload_n 0, 1) := by decide +kernel
theorem dX11_layPlan_65 : decode cX11_layPlan 65 = .ok (.getfield 93, 3) := by decide +kernel
theorem dX11_layPlan_68 : decode cX11_layPlan 68 = .ok (.if_icmp .gt 14, 3) := by decide +kernel
theorem dX11_layPlan_71 : decode cX11_layPlan 71 = .ok (.aload_n 0, 1) := by decide +kernel
theorem dX11_layPlan_72 : decode cX11_layPlan 72 = .ok (.iload_n 3, 1) := by decide +kernel
theorem dX11_layPlan_73 : decode cX11_layPlan 73 = .ok (.iload_n 2, 1) := by decide +kernel
theorem dX11_layPlan_74 : decode cX11_layPlan 74 = .ok (.iload 5, 2) := by decide +kernel
theorem dX11_layPlan_76 : decode cX11_layPlan 76 = .ok (.invokevirtual 241, 3) := by decide +kernel
theorem dX11_layPlan_79 : decode cX11_layPlan 79 = .ok (.goto 5, 3) := by decide +kernel
theorem dX11_layPlan_82 : decode cX11_layPlan 82 = .ok (.bipush (-9), 2) := by decide +kernel
theorem dX11_layPlan_84 : decode cX11_layPlan 84 = .ok (.istore 6, 2) := by decide +kernel
theorem dX11_layPlan_86 : decode cX11_layPlan 86 = .ok (.iload 6, 2) := by decide +kernel
theorem dX11_layPlan_88 : decode cX11_layPlan 88 = .ok (.bipush (-9), 2) := by decide +kernel
theorem dX11_layPlan_90 : decode cX11_layPlan 90 = .ok (.if_icmp .ne 8, 3) := by decide +kernel
theorem dX11_layPlan_93 : decode cX11_layPlan 93 = .ok (.ldc 195, 2) := by decide +kernel
theorem dX11_layPlan_95 : decode cX11_layPlan 95 = .ok (.goto 26, 3) := by decide +kernel
theorem dX11_layPlan_98 : decode cX11_layPlan 98 = .ok (.iload 5, 2) := by decide +kernel
theorem dX11_layPlan_100 : decode cX11_layPlan 100 = .ok (.invokestatic 238, 3) := by decide +kernel
theorem dX11_layPlan_103 : decode cX11_layPlan 103 = .ok (.aload_n 0, 1) := by decide +kernel
theorem dX11_layPlan_104 : decode cX11_layPlan 104 = .ok (.getfield 98, 3) := by decide +kernel
theorem dX11_layPlan_107 : decode cX11_layPlan 107 = .ok (.sipush 6561, 3) := by decide +kernel
theorem dX11_layPlan_110 : decode cX11_layPlan 110 = .ok (.iload_n 2, 1) := by decide +kernel
theorem dX11_layPlan_111 : decode cX11_layPlan 111 = .ok (.imul, 1) := by decide +kernel
theorem dX11_layPlan_112 : decode cX11_layPlan 112 = .ok (.sipush 6561, 3) := by decide +kernel
theorem dX11_layPlan_115 : decode cX11_layPlan 115 = .ok (.iadd, 1) := by decide +kernel
theorem dX11_layPlan_116 : decode cX11_layPlan 116 = .ok (.iload 6, 2) := by decide +kernel
theorem dX11_layPlan_118 : decode cX11_layPlan 118 = .ok (.iadd, 1) := by decide +kernel
theorem dX11_layPlan_119 : decode cX11_layPlan 119 = .ok (.iaload, 1) := by decide +kernel
theorem dX11_layPlan_120 : decode cX11_layPlan 120 = .ok (.iadd, 1) := by decide +kernel
theorem dX11_layPlan_121 : decode cX11_layPlan 121 = .ok (.istore 7, 2) := by decide +kernel
theorem dX11_layPlan_123 : decode cX11_layPlan 123 = .ok (.iload 7, 2) := by decide +kernel
theorem dX11_layPlan_125 : decode cX11_layPlan 125 = .ok (.iload 4, 2) := by decide +kernel
theorem dX11_layPlan_127 : decode cX11_layPlan 127 = .ok (.if_icmp .ge 8, 3) := by decide +kernel
theorem dX11_layPlan_130 : decode cX11_layPlan 130 = .ok (.iload 7, 2) := by decide +kernel
theorem dX11_layPlan_132 : decode cX11_layPlan 132 = .ok (.goto 5, 3) := by decide +kernel
theorem dX11_layPlan_135 : decode cX11_layPlan 135 = .ok (.iload 4, 2) := by decide +kernel
theorem dX11_layPlan_137 : decode cX11_layPlan 137 = .ok (.istore 4, 2) := by decide +kernel
theorem dX11_layPlan_139 : decode cX11_layPlan 139 = .ok (.iinc 5 1, 3) := by decide +kernel
theorem dX11_layPlan_142 : decode cX11_layPlan 142 = .ok (.goto (-90), 3) := by decide +kernel
theorem dX11_layPlan_145 : decode cX11_layPlan 145 = .ok (.aload_n 0, 1) := by decide +kernel
theorem dX11_layPlan_146 : decode cX11_layPlan 146 = .ok (.getfield 98, 3) := by decide +kernel
theorem dX11_layPlan_149 : decode cX11_layPlan 149 = .ok (.sipush 6561, 3) := by decide +kernel
theorem dX11_layPlan_152 : decode cX11_layPlan 152 = .ok (.iload_n 2, 1) := by decide +kernel
theorem dX11_layPlan_153 : decode cX11_layPlan 153 = .ok (.imul, 1) := by decide +kernel
theorem dX11_layPlan_154 : decode cX11_layPlan 154 = .ok (.iload_n 3, 1) := by decide +kernel
theorem dX11_layPlan_155 : decode cX11_layPlan 155 = .ok (.iadd, 1) := by decide +kernel
theorem dX11_layPlan_156 : decode cX11_layPlan 156 = .ok (.iload 4, 2) := by decide +kernel
theorem dX11_layPlan_158 : decode cX11_layPlan 158 = .ok (.iastore, 1) := by decide +kernel
theorem dX11_layPlan_159 : decode cX11_layPlan 159 = .ok (.iinc 3 1, 3) := by decide +kernel
theorem dX11_layPlan_162 : decode cX11_layPlan 162 = .ok (.goto (-124), 3) := by decide +kernel
theorem dX11_layPlan_165 : decode cX11_layPlan 165 = .ok (.iinc 2 (-1), 3) := by decide +kernel
theorem dX11_layPlan_168 : decode cX11_layPlan 168 = .ok (.goto (-136), 3) := by decide +kernel
theorem dX11_layPlan_171 : decode cX11_layPlan 171 = .ok (.return_, 1) := by decide +kernel
set_option maxRecDepth 20000 in
theorem ggX11_plan_X11_in : GoodIn wsX11_plan wsX11_in := goodIn_r _ [7] rfl (by decide +kernel)
set_option maxRecDepth 20000 in
theorem gX11_plan_X11_in : GoodIn wsX11_plan (va_wsS RX11 127 yX11_in wsX11_in) := goodIn_app (goodIn_of _ (by decide +kernel)) ggX11_plan_X11_in
set_option maxRecDepth 20000 in
theorem ggX11_plan_X11_layPlan : GoodIn wsX11_plan wsX11_layPlan := goodIn_r _ [11, 2, 3, 12, 13, 14, 6, 15, 16, 17, 18, 19, 20, 21, 22, 23, 24, 25, 26, 27, 28, 29, 30, 31, 32, 33, 34, 35, 36, 37, 38, 39, 40, 41, 42, 43, 44, 45, 46, 47, 48, 49, 50, 51, 52, 53, 54, 55, 56, 57, 58, 59, 60, 61, 62, 63, 64, 65, 66, 67, 68, 69, 70, 71, 72, 73, 74, 75] rfl (by decide +kernel)
set_option maxRecDepth 20000 in
theorem gX11_plan_X11_layPlan : GoodIn wsX11_plan (wsV RX11 247 RX11 yX11_layPlan wsX11_layPlan) := goodIn_app (goodIn_of _ (by decide +kernel)) ggX11_plan_X11_layPlan
theorem dX11_plan_0 : decode cX11_plan 0 = .ok (.iload_n 1, 1) := by decide +kernel
theorem dX11_plan_1 : decode cX11_plan 1 = .ok (.i2l, 1) := by decide +kernel
theorem dX11_plan_2 : decode cX11_plan 2 = .ok (.lconst 1, 1) := by decide +kernel
theorem dX11_plan_3 : decode cX11_plan 3 = .ok (.ldc2_w 245, 3) := by decide +kernel
theorem dX11_plan_6 : decode cX11_plan 6 = .ok (.invokestatic 127, 3) := by decide +kernel
theorem dX11_plan_9 : decode cX11_plan 9 = .ok (.ifCond .ne 6, 3) := by decide +kernel
theorem dX11_plan_12 : decode cX11_plan 12 = .ok (.bipush (-2), 2) := by decide +kernel
theorem dX11_plan_14 : decode cX11_plan 14 = .ok (.ireturn, 1) := by decide +kernel
theorem dX11_plan_15 : decode cX11_plan 15 = .ok (.aload_n 0, 1) := by decide +kernel
theorem dX11_plan_16 : decode cX11_plan 16 = .ok (.iload_n 1, 1) := by decide +kernel
theorem dX11_plan_17 : decode cX11_plan 17 = .ok (.invokevirtual 247, 3) := by decide +kernel
theorem dX11_plan_20 : decode cX11_plan 20 = .ok (.aload_n 0, 1) := by decide +kernel
theorem dX11_plan_21 : decode cX11_plan 21 = .ok (.getfield 98, 3) := by decide +kernel
theorem dX11_plan_24 : decode cX11_plan 24 = .ok (.iconst 0, 1) := by decide +kernel
theorem dX11_plan_25 : decode cX11_plan 25 = .ok (.iaload, 1) := by decide +kernel
theorem dX11_plan_26 : decode cX11_plan 26 = .ok (.ldc 195, 2) := by decide +kernel
theorem dX11_plan_28 : decode cX11_plan 28 = .ok (.if_icmp .lt 8, 3) := by decide +kernel
theorem dX11_plan_31 : decode cX11_plan 31 = .ok (.bipush (-9), 2) := by decide +kernel
theorem dX11_plan_33 : decode cX11_plan 33 = .ok (.goto 9, 3) := by decide +kernel
theorem dX11_plan_36 : decode cX11_plan 36 = .ok (.aload_n 0, 1) := by decide +kernel
theorem dX11_plan_37 : decode cX11_plan 37 = .ok (.getfield 98, 3) := by decide +kernel
theorem dX11_plan_40 : decode cX11_plan 40 = .ok (.iconst 0, 1) := by decide +kernel
theorem dX11_plan_41 : decode cX11_plan 41 = .ok (.iaload, 1) := by decide +kernel
theorem dX11_plan_42 : decode cX11_plan 42 = .ok (.ireturn, 1) := by decide +kernel
set_option maxRecDepth 20000 in
theorem ggX11_planned_X11_in : GoodIn wsX11_planned wsX11_in := goodIn_r _ [8] rfl (by decide +kernel)
set_option maxRecDepth 20000 in
theorem gX11_planned_X11_in : GoodIn wsX11_planned (va_wsS RX11 127 yX11_in wsX11_in) := goodIn_app (goodIn_of _ (by decide +kernel)) ggX11_planned_X11_in
set_option maxRecDepth 20000 in
theorem ggX11_planned_X11_layPlan : GoodIn wsX11_planned wsX11_layPlan := goodIn_r _ [12, 2, 3, 4, 13, 14, 7, 15, 16, 17, 18, 19, 20, 21, 22, 23, 24, 25, 26, 27, 28, 29, 30, 31, 32, 33, 34, 35, 36, 37, 38, 39, 40, 41, 42, 43, 44, 45, 46, 47, 48, 49, 50, 51, 52, 53, 54, 55, 56, 57, 58, 59, 60, 61, 62, 63, 64, 65, 66, 67, 68, 69, 70, 71, 72, 73, 74, 75] rfl (by decide +kernel)
set_option maxRecDepth 20000 in
theorem gX11_planned_X11_layPlan : GoodIn wsX11_planned (wsV RX11 247 RX11 yX11_layPlan wsX11_layPlan) := goodIn_app (goodIn_of _ (by decide +kernel)) ggX11_planned_X11_layPlan
set_option maxRecDepth 20000 in
theorem ggX11_planned_X11_ones : GoodIn wsX11_planned wsX11_ones := goodIn_r _ [15] rfl (by decide +kernel)
set_option maxRecDepth 20000 in
theorem gX11_planned_X11_ones : GoodIn wsX11_planned (va_wsS RX11 238 yX11_ones wsX11_ones) := goodIn_app (goodIn_of _ (by decide +kernel)) ggX11_planned_X11_ones
set_option maxRecDepth 20000 in
theorem ggX11_planned_X11_then : GoodIn wsX11_planned wsX11_then := goodIn_r _ [19, 20, 21, 7, 22, 23, 24, 25, 26, 27, 28, 29, 30, 31, 32, 33, 34, 35, 36, 37, 38, 39, 40, 41, 42, 43, 44, 45, 46, 47, 48, 49, 50, 51, 52, 53, 54, 55, 56, 57, 58, 59, 60, 61, 62, 63, 64, 65, 66, 67, 68, 69, 70, 71, 72, 73, 74, 75] rfl (by decide +kernel)
set_option maxRecDepth 20000 in
theorem gX11_planned_X11_then : GoodIn wsX11_planned (wsV RX11 241 RX11 yX11_then wsX11_then) := goodIn_app (goodIn_of _ (by decide +kernel)) ggX11_planned_X11_then
theorem dX11_planned_0 : decode cX11_planned 0 = .ok (.iload_n 1, 1) := by decide +kernel
theorem dX11_planned_1 : decode cX11_planned 1 = .ok (.i2l, 1) := by decide +kernel
theorem dX11_planned_2 : decode cX11_planned 2 = .ok (.lconst 1, 1) := by decide +kernel
theorem dX11_planned_3 : decode cX11_planned 3 = .ok (.ldc2_w 245, 3) := by decide +kernel
theorem dX11_planned_6 : decode cX11_planned 6 = .ok (.invokestatic 127, 3) := by decide +kernel
theorem dX11_planned_9 : decode cX11_planned 9 = .ok (.ifCond .eq 16, 3) := by decide +kernel
theorem dX11_planned_12 : decode cX11_planned 12 = .ok (.iload_n 2, 1) := by decide +kernel
theorem dX11_planned_13 : decode cX11_planned 13 = .ok (.i2l, 1) := by decide +kernel
theorem dX11_planned_14 : decode cX11_planned 14 = .ok (.lconst 0, 1) := by decide +kernel
theorem dX11_planned_15 : decode cX11_planned 15 = .ok (.iload_n 1, 1) := by decide +kernel
theorem dX11_planned_16 : decode cX11_planned 16 = .ok (.iconst 1, 1) := by decide +kernel
theorem dX11_planned_17 : decode cX11_planned 17 = .ok (.isub, 1) := by decide +kernel
theorem dX11_planned_18 : decode cX11_planned 18 = .ok (.i2l, 1) := by decide +kernel
theorem dX11_planned_19 : decode cX11_planned 19 = .ok (.invokestatic 127, 3) := by decide +kernel
theorem dX11_planned_22 : decode cX11_planned 22 = .ok (.ifCond .ne 6, 3) := by decide +kernel
theorem dX11_planned_25 : decode cX11_planned 25 = .ok (.bipush (-2), 2) := by decide +kernel
theorem dX11_planned_27 : decode cX11_planned 27 = .ok (.ireturn, 1) := by decide +kernel
theorem dX11_planned_28 : decode cX11_planned 28 = .ok (.aload_n 0, 1) := by decide +kernel
theorem dX11_planned_29 : decode cX11_planned 29 = .ok (.iload_n 1, 1) := by decide +kernel
theorem dX11_planned_30 : decode cX11_planned 30 = .ok (.invokevirtual 247, 3) := by decide +kernel
theorem dX11_planned_33 : decode cX11_planned 33 = .ok (.aload_n 0, 1) := by decide +kernel
theorem dX11_planned_34 : decode cX11_planned 34 = .ok (.getfield 98, 3) := by decide +kernel
theorem dX11_planned_37 : decode cX11_planned 37 = .ok (.iconst 0, 1) := by decide +kernel
theorem dX11_planned_38 : decode cX11_planned 38 = .ok (.iaload, 1) := by decide +kernel
theorem dX11_planned_39 : decode cX11_planned 39 = .ok (.ldc 195, 2) := by decide +kernel
theorem dX11_planned_41 : decode cX11_planned 41 = .ok (.if_icmp .lt 6, 3) := by decide +kernel
theorem dX11_planned_44 : decode cX11_planned 44 = .ok (.bipush (-9), 2) := by decide +kernel
theorem dX11_planned_46 : decode cX11_planned 46 = .ok (.ireturn, 1) := by decide +kernel
theorem dX11_planned_47 : decode cX11_planned 47 = .ok (.iconst 0, 1) := by decide +kernel
theorem dX11_planned_48 : decode cX11_planned 48 = .ok (.istore_n 3, 1) := by decide +kernel
theorem dX11_planned_49 : decode cX11_planned 49 = .ok (.iconst 0, 1) := by decide +kernel
theorem dX11_planned_50 : decode cX11_planned 50 = .ok (.istore 4, 2) := by decide +kernel
theorem dX11_planned_52 : decode cX11_planned 52 = .ok (.iconst 0, 1) := by decide +kernel
theorem dX11_planned_53 : decode cX11_planned 53 = .ok (.istore 5, 2) := by decide +kernel
theorem dX11_planned_55 : decode cX11_planned 55 = .ok (.iload 5, 2) := by decide +kernel
theorem dX11_planned_57 : decode cX11_planned 57 = .ok (.iload_n 2, 1) := by decide +kernel
theorem dX11_planned_58 : decode cX11_planned 58 = .ok (.if_icmp .gt 124, 3) := by decide +kernel
theorem dX11_planned_61 : decode cX11_planned 61 = .ok (.iconst 0, 1) := by decide +kernel
theorem dX11_planned_62 : decode cX11_planned 62 = .ok (.istore 4, 2) := by decide +kernel
theorem dX11_planned_64 : decode cX11_planned 64 = .ok (.iload 4, 2) := by decide +kernel
theorem dX11_planned_66 : decode cX11_planned 66 = .ok (.invokestatic 238, 3) := by decide +kernel
theorem dX11_planned_69 : decode cX11_planned 69 = .ok (.aload_n 0, 1) := by decide +kernel
theorem dX11_planned_70 : decode cX11_planned 70 = .ok (.getfield 93, 3) := by decide +kernel
theorem dX11_planned_73 : decode cX11_planned 73 = .ok (.if_icmp .gt 15, 3) := by decide +kernel
theorem dX11_planned_76 : decode cX11_planned 76 = .ok (.aload_n 0, 1) := by decide +kernel
theorem dX11_planned_77 : decode cX11_planned 77 = .ok (.iload_n 3, 1) := by decide +kernel
theorem dX11_planned_78 : decode cX11_planned 78 = .ok (.iload 5, 2) := by decide +kernel
theorem dX11_planned_80 : decode cX11_planned 80 = .ok (.iload 4, 2) := by decide +kernel
theorem dX11_planned_82 : decode cX11_planned 82 = .ok (.invokevirtual 241, 3) := by decide +kernel
theorem dX11_planned_85 : decode cX11_planned 85 = .ok (.goto 5, 3) := by decide +kernel
theorem dX11_planned_88 : decode cX11_planned 88 = .ok (.bipush (-9), 2) := by decide +kernel
theorem dX11_planned_90 : decode cX11_planned 90 = .ok (.istore 6, 2) := by decide +kernel
theorem dX11_planned_92 : decode cX11_planned 92 = .ok (.iload 6, 2) := by decide +kernel
theorem dX11_planned_94 : decode cX11_planned 94 = .ok (.bipush (-9), 2) := by decide +kernel
theorem dX11_planned_96 : decode cX11_planned 96 = .ok (.if_icmp .eq 43, 3) := by decide +kernel
theorem dX11_planned_99 : decode cX11_planned 99 = .ok (.iload 4, 2) := by decide +kernel
theorem dX11_planned_101 : decode cX11_planned 101 = .ok (.invokestatic 238, 3) := by decide +kernel
theorem dX11_planned_104 : decode cX11_planned 104 = .ok (.aload_n 0, 1) := by decide +kernel
theorem dX11_planned_105 : decode cX11_planned 105 = .ok (.getfield 98, 3) := by decide +kernel
theorem dX11_planned_108 : decode cX11_planned 108 = .ok (.sipush 6561, 3) := by decide +kernel
theorem dX11_planned_111 : decode cX11_planned 111 = .ok (.iload 5, 2) := by decide +kernel
theorem dX11_planned_113 : decode cX11_planned 113 = .ok (.imul, 1) := by decide +kernel
theorem dX11_planned_114 : decode cX11_planned 114 = .ok (.sipush 6561, 3) := by decide +kernel
theorem dX11_planned_117 : decode cX11_planned 117 = .ok (.iadd, 1) := by decide +kernel
theorem dX11_planned_118 : decode cX11_planned 118 = .ok (.iload 6, 2) := by decide +kernel
theorem dX11_planned_120 : decode cX11_planned 120 = .ok (.iadd, 1) := by decide +kernel
theorem dX11_planned_121 : decode cX11_planned 121 = .ok (.iaload, 1) := by decide +kernel
theorem dX11_planned_122 : decode cX11_planned 122 = .ok (.iadd, 1) := by decide +kernel
theorem dX11_planned_123 : decode cX11_planned 123 = .ok (.aload_n 0, 1) := by decide +kernel
theorem dX11_planned_124 : decode cX11_planned 124 = .ok (.getfield 98, 3) := by decide +kernel
theorem dX11_planned_127 : decode cX11_planned 127 = .ok (.sipush 6561, 3) := by decide +kernel
theorem dX11_planned_130 : decode cX11_planned 130 = .ok (.iload 5, 2) := by decide +kernel
theorem dX11_planned_132 : decode cX11_planned 132 = .ok (.imul, 1) := by decide +kernel
theorem dX11_planned_133 : decode cX11_planned 133 = .ok (.iload_n 3, 1) := by decide +kernel
theorem dX11_planned_134 : decode cX11_planned 134 = .ok (.iadd, 1) := by decide +kernel
theorem dX11_planned_135 : decode cX11_planned 135 = .ok (.iaload, 1) := by decide +kernel
theorem dX11_planned_136 : decode cX11_planned 136 = .ok (.if_icmp .eq 37, 3) := by decide +kernel
theorem dX11_planned_139 : decode cX11_planned 139 = .ok (.iinc 4 1, 3) := by decide +kernel
theorem dX11_planned_142 : decode cX11_planned 142 = .ok (.iload 4, 2) := by decide +kernel
theorem dX11_planned_144 : decode cX11_planned 144 = .ok (.invokestatic 238, 3) := by decide +kernel
theorem dX11_planned_147 : decode cX11_planned 147 = .ok (.aload_n 0, 1) := by decide +kernel
theorem dX11_planned_148 : decode cX11_planned 148 = .ok (.getfield 93, 3) := by decide +kernel
theorem dX11_planned_151 : decode cX11_planned 151 = .ok (.if_icmp .gt 15, 3) := by decide +kernel
theorem dX11_planned_154 : decode cX11_planned 154 = .ok (.aload_n 0, 1) := by decide +kernel
theorem dX11_planned_155 : decode cX11_planned 155 = .ok (.iload_n 3, 1) := by decide +kernel
theorem dX11_planned_156 : decode cX11_planned 156 = .ok (.iload 5, 2) := by decide +kernel
theorem dX11_planned_158 : decode cX11_planned 158 = .ok (.iload 4, 2) := by decide +kernel
theorem dX11_planned_160 : decode cX11_planned 160 = .ok (.invokevirtual 241, 3) := by decide +kernel
theorem dX11_planned_163 : decode cX11_planned 163 = .ok (.goto 5, 3) := by decide +kernel
theorem dX11_planned_166 : decode cX11_planned 166 = .ok (.bipush (-9), 2) := by decide +kernel
theorem dX11_planned_168 : decode cX11_planned 168 = .ok (.istore 6, 2) := by decide +kernel
theorem dX11_planned_170 : decode cX11_planned 170 = .ok (.goto (-78), 3) := by decide +kernel
theorem dX11_planned_173 : decode cX11_planned 173 = .ok (.iload 6, 2) := by decide +kernel
theorem dX11_planned_175 : decode cX11_planned 175 = .ok (.istore_n 3, 1) := by decide +kernel
theorem dX11_planned_176 : decode cX11_planned 176 = .ok (.iinc 5 1, 3) := by decide +kernel
theorem dX11_planned_179 : decode cX11_planned 179 = .ok (.goto (-124), 3) := by decide +kernel
theorem dX11_planned_182 : decode cX11_planned 182 = .ok (.iload 4, 2) := by decide +kernel
theorem dX11_planned_184 : decode cX11_planned 184 = .ok (.ireturn, 1) := by decide +kernel
set_option maxRecDepth 20000 in
theorem ggX11_month_X11_in : GoodIn wsX11_month wsX11_in := goodIn_r _ [10] rfl (by decide +kernel)
set_option maxRecDepth 20000 in
theorem gX11_month_X11_in : GoodIn wsX11_month (va_wsS RX11 127 yX11_in wsX11_in) := goodIn_app (goodIn_of _ (by decide +kernel)) ggX11_month_X11_in
set_option maxRecDepth 20000 in
theorem ggX11_month_X11_ones : GoodIn wsX11_month wsX11_ones := goodIn_r _ [13] rfl (by decide +kernel)
set_option maxRecDepth 20000 in
theorem gX11_month_X11_ones : GoodIn wsX11_month (va_wsS RX11 238 yX11_ones wsX11_ones) := goodIn_app (goodIn_of _ (by decide +kernel)) ggX11_month_X11_ones
theorem dX11_month_0 : decode cX11_month 0 = .ok (.iload_n 1, 1) := by decide +kernel
theorem dX11_month_1 : decode cX11_month 1 = .ok (.i2l, 1) := by decide +kernel
theorem dX11_month_2 : decode cX11_month 2 = .ok (.lconst 0, 1) := by decide +kernel
theorem dX11_month_3 : decode cX11_month 3 = .ok (.ldc2_w 250, 3) := by decide +kernel
theorem dX11_month_6 : decode cX11_month 6 = .ok (.invokestatic 127, 3) := by decide +kernel
theorem dX11_month_9 : decode cX11_month 9 = .ok (.ifCond .ne 6, 3) := by decide +kernel
theorem dX11_month_12 : decode cX11_month 12 = .ok (.bipush (-2), 2) := by decide +kernel
theorem dX11_month_14 : decode cX11_month 14 = .ok (.ireturn, 1) := by decide +kernel
theorem dX11_month_15 : decode cX11_month 15 = .ok (.iload_n 1, 1) := by decide +kernel
theorem dX11_month_16 : decode cX11_month 16 = .ok (.invokestatic 238, 3) := by decide +kernel
theorem dX11_month_19 : decode cX11_month 19 = .ok (.aload_n 0, 1) := by decide +kernel
theorem dX11_month_20 : decode cX11_month 20 = .ok (.getfield 93, 3) := by decide +kernel
theorem dX11_month_23 : decode cX11_month 23 = .ok (.if_icmp .le 6, 3) := by decide +kernel
theorem dX11_month_26 : decode cX11_month 26 = .ok (.bipush (-3), 2) := by decide +kernel
theorem dX11_month_28 : decode cX11_month 28 = .ok (.ireturn, 1) := by decide +kernel
theorem dX11_month_29 : decode cX11_month 29 = .ok (.iconst 0, 1) := by decide +kernel
theorem dX11_month_30 : decode cX11_month 30 = .ok (.istore_n 2, 1) := by decide +kernel
theorem dX11_month_31 : decode cX11_month 31 = .ok (.iconst 0, 1) := by decide +kernel
theorem dX11_month_32 : decode cX11_month 32 = .ok (.istore_n 3, 1) := by decide +kernel
theorem dX11_month_33 : decode cX11_month 33 = .ok (.iload_n 3, 1) := by decide +kernel
theorem dX11_month_34 : decode cX11_month 34 = .ok (.iconst 4, 1) := by decide +kernel
theorem dX11_month_35 : decode cX11_month 35 = .ok (.if_icmp .ge 82, 3) := by decide +kernel
theorem dX11_month_38 : decode cX11_month 38 = .ok (.iload_n 1, 1) := by decide +kernel
theorem dX11_month_39 : decode cX11_month 39 = .ok (.iload_n 3, 1) := by decide +kernel
theorem dX11_month_40 : decode cX11_month 40 = .ok (.ishr, 1) := by decide +kernel
theorem dX11_month_41 : decode cX11_month 41 = .ok (.iconst 1, 1) := by decide +kernel
theorem dX11_month_42 : decode cX11_month 42 = .ok (.iand, 1) := by decide +kernel
theorem dX11_month_43 : decode cX11_month 43 = .ok (.iconst 1, 1) := by decide +kernel
theorem dX11_month_44 : decode cX11_month 44 = .ok (.if_icmp .ne 12, 3) := by decide +kernel
theorem dX11_month_47 : decode cX11_month 47 = .ok (.aload_n 0, 1) := by decide +kernel
theorem dX11_month_48 : decode cX11_month 48 = .ok (.getfield 84, 3) := by decide +kernel
theorem dX11_month_51 : decode cX11_month 51 = .ok (.iload_n 3, 1) := by decide +kernel
theorem dX11_month_52 : decode cX11_month 52 = .ok (.iaload, 1) := by decide +kernel
theorem dX11_month_53 : decode cX11_month 53 = .ok (.goto 9, 3) := by decide +kernel
theorem dX11_month_56 : decode cX11_month 56 = .ok (.aload_n 0, 1) := by decide +kernel
theorem dX11_month_57 : decode cX11_month 57 = .ok (.getfield 81, 3) := by decide +kernel
theorem dX11_month_60 : decode cX11_month 60 = .ok (.iload_n 3, 1) := by decide +kernel
theorem dX11_month_61 : decode cX11_month 61 = .ok (.iaload, 1) := by decide +kernel
theorem dX11_month_62 : decode cX11_month 62 = .ok (.aload_n 0, 1) := by decide +kernel
theorem dX11_month_63 : decode cX11_month 63 = .ok (.getfield 87, 3) := by decide +kernel
theorem dX11_month_66 : decode cX11_month 66 = .ok (.iload_n 3, 1) := by decide +kernel
theorem dX11_month_67 : decode cX11_month 67 = .ok (.iaload, 1) := by decide +kernel
theorem dX11_month_68 : decode cX11_month 68 = .ok (.isub, 1) := by decide +kernel
theorem dX11_month_69 : decode cX11_month 69 = .ok (.istore 4, 2) := by decide +kernel
theorem dX11_month_71 : decode cX11_month 71 = .ok (.aload_n 0, 1) := by decide +kernel
theorem dX11_month_72 : decode cX11_month 72 = .ok (.getfield 81, 3) := by decide +kernel
theorem dX11_month_75 : decode cX11_month 75 = .ok (.iload_n 3, 1) := by decide +kernel
theorem dX11_month_76 : decode cX11_month 76 = .ok (.iload 4, 2) := by decide +kernel
theorem dX11_month_78 : decode cX11_month 78 = .ok (.ifCond .ge 7, 3) := by decide +kernel
theorem dX11_month_81 : decode cX11_month 81 = .ok (.iconst 0, 1) := by decide +kernel
theorem dX11_month_82 : decode cX11_month 82 = .ok (.goto 5, 3) := by decide +kernel
theorem dX11_month_85 : decode cX11_month 85 = .ok (.iload 4, 2) := by decide +kernel
theorem dX11_month_87 : decode cX11_month 87 = .ok (.iastore, 1) := by decide +kernel
theorem dX11_month_88 : decode cX11_month 88 = .ok (.iload_n 2, 1) := by decide +kernel
theorem dX11_month_89 : decode cX11_month 89 = .ok (.aload_n 0, 1) := by decide +kernel
theorem dX11_month_90 : decode cX11_month 90 = .ok (.getfield 81, 3) := by decide +kernel
theorem dX11_month_93 : decode cX11_month 93 = .ok (.iload_n 3, 1) := by decide +kernel
theorem dX11_month_94 : decode cX11_month 94 = .ok (.iaload, 1) := by decide +kernel
theorem dX11_month_95 : decode cX11_month 95 = .ok (.aload_n 0, 1) := by decide +kernel
theorem dX11_month_96 : decode cX11_month 96 = .ok (.getfield 90, 3) := by decide +kernel
theorem dX11_month_99 : decode cX11_month 99 = .ok (.iload_n 3, 1) := by decide +kernel
theorem dX11_month_100 : decode cX11_month 100 = .ok (.iaload, 1) := by decide +kernel
theorem dX11_month_101 : decode cX11_month 101 = .ok (.if_icmp .ge 7, 3) := by decide +kernel
theorem dX11_month_104 : decode cX11_month 104 = .ok (.iconst 1, 1) := by decide +kernel
theorem dX11_month_105 : decode cX11_month 105 = .ok (.goto 4, 3) := by decide +kernel
theorem dX11_month_108 : decode cX11_month 108 = .ok (.iconst 0, 1) := by decide +kernel
theorem dX11_month_109 : decode cX11_month 109 = .ok (.iadd, 1) := by decide +kernel
theorem dX11_month_110 : decode cX11_month 110 = .ok (.istore_n 2, 1) := by decide +kernel
theorem dX11_month_111 : decode cX11_month 111 = .ok (.iinc 3 1, 3) := by decide +kernel
theorem dX11_month_114 : decode cX11_month 114 = .ok (.goto (-81), 3) := by decide +kernel
theorem dX11_month_117 : decode cX11_month 117 = .ok (.iload_n 2, 1) := by decide +kernel
theorem dX11_month_118 : decode cX11_month 118 = .ok (.ireturn, 1) := by decide +kernel
set_option maxRecDepth 20000 in
theorem ggX11_match_X11_isLot : GoodIn wsX11_match wsX11_isLot := goodIn_r _ [6, 7, 8, 9, 5, 10] rfl (by decide +kernel)
set_option maxRecDepth 20000 in
theorem gX11_match_X11_isLot : GoodIn wsX11_match (va_wsS RX11 224 yX11_isLot wsX11_isLot) := goodIn_app (goodIn_of _ (by decide +kernel)) ggX11_match_X11_isLot
set_option maxRecDepth 20000 in
theorem ggX11_match_X11_in : GoodIn wsX11_match wsX11_in := goodIn_r _ [10] rfl (by decide +kernel)
set_option maxRecDepth 20000 in
theorem gX11_match_X11_in : GoodIn wsX11_match (va_wsS RX11 127 yX11_in wsX11_in) := goodIn_app (goodIn_of _ (by decide +kernel)) ggX11_match_X11_in
theorem dX11_match_0 : decode cX11_match 0 = .ok (.iload_n 1, 1) := by decide +kernel
theorem dX11_match_1 : decode cX11_match 1 = .ok (.invokestatic 224, 3) := by decide +kernel
theorem dX11_match_4 : decode cX11_match 4 = .ok (.ifCond .eq 10, 3) := by decide +kernel
theorem dX11_match_7 : decode cX11_match 7 = .ok (.iload_n 2, 1) := by decide +kernel
theorem dX11_match_8 : decode cX11_match 8 = .ok (.invokestatic 224, 3) := by decide +kernel
theorem dX11_match_11 : decode cX11_match 11 = .ok (.ifCond .ne 5, 3) := by decide +kernel
theorem dX11_match_14 : decode cX11_match 14 = .ok (.iconst (-1), 1) := by decide +kernel
theorem dX11_match_15 : decode cX11_match 15 = .ok (.ireturn, 1) := by decide +kernel
theorem dX11_match_16 : decode cX11_match 16 = .ok (.iload_n 3, 1) := by decide +kernel
theorem dX11_match_17 : decode cX11_match 17 = .ok (.i2l, 1) := by decide +kernel
theorem dX11_match_18 : decode cX11_match 18 = .ok (.lconst 0, 1) := by decide +kernel
theorem dX11_match_19 : decode cX11_match 19 = .ok (.ldc2_w 227, 3) := by decide +kernel
theorem dX11_match_22 : decode cX11_match 22 = .ok (.invokestatic 127, 3) := by decide +kernel
theorem dX11_match_25 : decode cX11_match 25 = .ok (.ifCond .ne 6, 3) := by decide +kernel
theorem dX11_match_28 : decode cX11_match 28 = .ok (.bipush (-2), 2) := by decide +kernel
theorem dX11_match_30 : decode cX11_match 30 = .ok (.ireturn, 1) := by decide +kernel
theorem dX11_match_31 : decode cX11_match 31 = .ok (.aload_n 0, 1) := by decide +kernel
theorem dX11_match_32 : decode cX11_match 32 = .ok (.getfield 81, 3) := by decide +kernel
theorem dX11_match_35 : decode cX11_match 35 = .ok (.iload_n 1, 1) := by decide +kernel
theorem dX11_match_36 : decode cX11_match 36 = .ok (.iaload, 1) := by decide +kernel
theorem dX11_match_37 : decode cX11_match 37 = .ok (.aload_n 0, 1) := by decide +kernel
theorem dX11_match_38 : decode cX11_match 38 = .ok (.getfield 81, 3) := by decide +kernel
theorem dX11_match_41 : decode cX11_match 41 = .ok (.iload_n 2, 1) := by decide +kernel
theorem dX11_match_42 : decode cX11_match 42 = .ok (.iaload, 1) := by decide +kernel
theorem dX11_match_43 : decode cX11_match 43 = .ok (.isub, 1) := by decide +kernel
theorem dX11_match_44 : decode cX11_match 44 = .ok (.istore 4, 2) := by decide +kernel
theorem dX11_match_46 : decode cX11_match 46 = .ok (.iload 4, 2) := by decide +kernel
theorem dX11_match_48 : decode cX11_match 48 = .ok (.iload_n 3, 1) := by decide +kernel
theorem dX11_match_49 : decode cX11_match 49 = .ok (.if_icmp .gt 14, 3) := by decide +kernel
theorem dX11_match_52 : decode cX11_match 52 = .ok (.iload 4, 2) := by decide +kernel
theorem dX11_match_54 : decode cX11_match 54 = .ok (.ineg, 1) := by decide +kernel
theorem dX11_match_55 : decode cX11_match 55 = .ok (.iload_n 3, 1) := by decide +kernel
theorem dX11_match_56 : decode cX11_match 56 = .ok (.if_icmp .gt 7, 3) := by decide +kernel
theorem dX11_match_59 : decode cX11_match 59 = .ok (.iconst 1, 1) := by decide +kernel
theorem dX11_match_60 : decode cX11_match 60 = .ok (.goto 4, 3) := by decide +kernel
theorem dX11_match_63 : decode cX11_match 63 = .ok (.iconst 0, 1) := by decide +kernel
theorem dX11_match_64 : decode cX11_match 64 = .ok (.ireturn, 1) := by decide +kernel
set_option maxRecDepth 20000 in
theorem ggX11_isSign_X11_in : GoodIn wsX11_isSign wsX11_in := goodIn_r _ [5] rfl (by decide +kernel)
set_option maxRecDepth 20000 in
theorem gX11_isSign_X11_in : GoodIn wsX11_isSign (va_wsS RX11 127 yX11_in wsX11_in) := goodIn_app (goodIn_of _ (by decide +kernel)) ggX11_isSign_X11_in
theorem dX11_isSign_0 : decode cX11_isSign 0 = .ok (.iload_n 0, 1) := by decide +kernel
theorem dX11_isSign_1 : decode cX11_isSign 1 = .ok (.bipush (-9), 2) := by decide +kernel
theorem dX11_isSign_3 : decode cX11_isSign 3 = .ok (.if_icmp .eq 15, 3) := by decide +kernel
theorem dX11_isSign_6 : decode cX11_isSign 6 = .ok (.iload_n 0, 1) := by decide +kernel
theorem dX11_isSign_7 : decode cX11_isSign 7 = .ok (.i2l, 1) := by decide +kernel
theorem dX11_isSign_8 : decode cX11_isSign 8 = .ok (.lconst 0, 1) := by decide +kernel
theorem dX11_isSign_9 : decode cX11_isSign 9 = .ok (.ldc2_w 252, 3) := by decide +kernel
theorem dX11_isSign_12 : decode cX11_isSign 12 = .ok (.invokestatic 127, 3) := by decide +kernel
theorem dX11_isSign_15 : decode cX11_isSign 15 = .ok (.ifCond .eq 7, 3) := by decide +kernel
theorem dX11_isSign_18 : decode cX11_isSign 18 = .ok (.iconst 1, 1) := by decide +kernel
theorem dX11_isSign_19 : decode cX11_isSign 19 = .ok (.goto 4, 3) := by decide +kernel
theorem dX11_isSign_22 : decode cX11_isSign 22 = .ok (.iconst 0, 1) := by decide +kernel
theorem dX11_isSign_23 : decode cX11_isSign 23 = .ok (.ireturn, 1) := by decide +kernel
set_option maxRecDepth 20000 in
theorem ggX11_mark_X11_isSign : GoodIn wsX11_mark wsX11_isSign := goodIn_r _ [8, 9, 10, 11, 7, 12] rfl (by decide +kernel)
set_option maxRecDepth 20000 in
theorem gX11_mark_X11_isSign : GoodIn wsX11_mark (va_wsS RX11 254 yX11_isSign wsX11_isSign) := goodIn_app (goodIn_of _ (by decide +kernel)) ggX11_mark_X11_isSign
set_option maxRecDepth 20000 in
theorem ggX11_mark_X11_in : GoodIn wsX11_mark wsX11_in := goodIn_r _ [12] rfl (by decide +kernel)
set_option maxRecDepth 20000 in
theorem gX11_mark_X11_in : GoodIn wsX11_mark (va_wsS RX11 127 yX11_in wsX11_in) := goodIn_app (goodIn_of _ (by decide +kernel)) ggX11_mark_X11_in
theorem dX11_mark_0 : decode cX11_mark 0 = .ok (.iload_n 2, 1) := by decide +kernel
theorem dX11_mark_1 : decode cX11_mark 1 = .ok (.invokestatic 254, 3) := by decide +kernel
theorem dX11_mark_4 : decode cX11_mark 4 = .ok (.ifCond .eq 31, 3) := by decide +kernel
theorem dX11_mark_7 : decode cX11_mark 7 = .ok (.iload_n 3, 1) := by decide +kernel
theorem dX11_mark_8 : decode cX11_mark 8 = .ok (.invokestatic 254, 3) := by decide +kernel
theorem dX11_mark_11 : decode cX11_mark 11 = .ok (.ifCond .eq 24, 3) := by decide +kernel
theorem dX11_mark_14 : decode cX11_mark 14 = .ok (.iload 4, 2) := by decide +kernel
theorem dX11_mark_16 : decode cX11_mark 16 = .ok (.invokestatic 254, 3) := by decide +kernel
theorem dX11_mark_19 : decode cX11_mark 19 = .ok (.ifCond .eq 16, 3) := by decide +kernel
theorem dX11_mark_22 : decode cX11_mark 22 = .ok (.iload 5, 2) := by decide +kernel
theorem dX11_mark_24 : decode cX11_mark 24 = .ok (.i2l, 1) := by decide +kernel
theorem dX11_mark_25 : decode cX11_mark 25 = .ok (.lconst 1, 1) := by decide +kernel
theorem dX11_mark_26 : decode cX11_mark 26 = .ok (.ldc2_w 138, 3) := by decide +kernel
theorem dX11_mark_29 : decode cX11_mark 29 = .ok (.invokestatic 127, 3) := by decide +kernel
theorem dX11_mark_32 : decode cX11_mark 32 = .ok (.ifCond .ne 6, 3) := by decide +kernel
theorem dX11_mark_35 : decode cX11_mark 35 = .ok (.bipush (-2), 2) := by decide +kernel
theorem dX11_mark_37 : decode cX11_mark 37 = .ok (.ireturn, 1) := by decide +kernel
theorem dX11_mark_38 : decode cX11_mark 38 = .ok (.iload_n 1, 1) := by decide +kernel
theorem dX11_mark_39 : decode cX11_mark 39 = .ok (.ifCond .eq 7, 3) := by decide +kernel
theorem dX11_mark_42 : decode cX11_mark 42 = .ok (.iconst 1, 1) := by decide +kernel
theorem dX11_mark_43 : decode cX11_mark 43 = .ok (.goto 4, 3) := by decide +kernel
theorem dX11_mark_46 : decode cX11_mark 46 = .ok (.iconst 0, 1) := by decide +kernel
theorem dX11_mark_47 : decode cX11_mark 47 = .ok (.istore 6, 2) := by decide +kernel
theorem dX11_mark_49 : decode cX11_mark 49 = .ok (.aload_n 0, 1) := by decide +kernel
theorem dX11_mark_50 : decode cX11_mark 50 = .ok (.getfield 101, 3) := by decide +kernel
theorem dX11_mark_53 : decode cX11_mark 53 = .ok (.iload 6, 2) := by decide +kernel
theorem dX11_mark_55 : decode cX11_mark 55 = .ok (.iaload, 1) := by decide +kernel
theorem dX11_mark_56 : decode cX11_mark 56 = .ok (.bipush 8, 2) := by decide +kernel
theorem dX11_mark_58 : decode cX11_mark 58 = .ok (.if_icmp .ne 6, 3) := by decide +kernel
theorem dX11_mark_61 : decode cX11_mark 61 = .ok (.bipush (-4), 2) := by decide +kernel
theorem dX11_mark_63 : decode cX11_mark 63 = .ok (.ireturn, 1) := by decide +kernel
theorem dX11_mark_64 : decode cX11_mark 64 = .ok (.bipush 8, 2) := by decide +kernel
theorem dX11_mark_66 : decode cX11_mark 66 = .ok (.iload 6, 2) := by decide +kernel
theorem dX11_mark_68 : decode cX11_mark 68 = .ok (.imul, 1) := by decide +kernel
theorem dX11_mark_69 : decode cX11_mark 69 = .ok (.aload_n 0, 1) := by decide +kernel
theorem dX11_mark_70 : decode cX11_mark 70 = .ok (.getfield 101, 3) := by decide +kernel
theorem dX11_mark_73 : decode cX11_mark 73 = .ok (.iload 6, 2) := by decide +kernel
theorem dX11_mark_75 : decode cX11_mark 75 = .ok (.iaload, 1) := by decide +kernel
theorem dX11_mark_76 : decode cX11_mark 76 = .ok (.iadd, 1) := by decide +kernel
theorem dX11_mark_77 : decode cX11_mark 77 = .ok (.istore 7, 2) := by decide +kernel
theorem dX11_mark_79 : decode cX11_mark 79 = .ok (.aload_n 0, 1) := by decide +kernel
theorem dX11_mark_80 : decode cX11_mark 80 = .ok (.getfield 104, 3) := by decide +kernel
theorem dX11_mark_83 : decode cX11_mark 83 = .ok (.iconst 3, 1) := by decide +kernel
theorem dX11_mark_84 : decode cX11_mark 84 = .ok (.iload 7, 2) := by decide +kernel
theorem dX11_mark_86 : decode cX11_mark 86 = .ok (.imul, 1) := by decide +kernel
theorem dX11_mark_87 : decode cX11_mark 87 = .ok (.iload_n 2, 1) := by decide +kernel
theorem dX11_mark_88 : decode cX11_mark 88 = .ok (.iastore, 1) := by decide +kernel
theorem dX11_mark_89 : decode cX11_mark 89 = .ok (.aload_n 0, 1) := by decide +kernel
theorem dX11_mark_90 : decode cX11_mark 90 = .ok (.getfield 104, 3) := by decide +kernel
theorem dX11_mark_93 : decode cX11_mark 93 = .ok (.iconst 3, 1) := by decide +kernel
theorem dX11_mark_94 : decode cX11_mark 94 = .ok (.iload 7, 2) := by decide +kernel
theorem dX11_mark_96 : decode cX11_mark 96 = .ok (.imul, 1) := by decide +kernel
theorem dX11_mark_97 : decode cX11_mark 97 = .ok (.iconst 1, 1) := by decide +kernel
theorem dX11_mark_98 : decode cX11_mark 98 = .ok (.iadd, 1) := by decide +kernel
theorem dX11_mark_99 : decode cX11_mark 99 = .ok (.iload_n 3, 1) := by decide +kernel
theorem dX11_mark_100 : decode cX11_mark 100 = .ok (.iastore, 1) := by decide +kernel
theorem dX11_mark_101 : decode cX11_mark 101 = .ok (.aload_n 0, 1) := by decide +kernel
theorem dX11_mark_102 : decode cX11_mark 102 = .ok (.getfield 104, 3) := by decide +kernel
theorem dX11_mark_105 : decode cX11_mark 105 = .ok (.iconst 3, 1) := by decide +kernel
theorem dX11_mark_106 : decode cX11_mark 106 = .ok (.iload 7, 2) := by decide +kernel
theorem dX11_mark_108 : decode cX11_mark 108 = .ok (.imul, 1) := by decide +kernel
theorem dX11_mark_109 : decode cX11_mark 109 = .ok (.iconst 2, 1) := by decide +kernel
theorem dX11_mark_110 : decode cX11_mark 110 = .ok (.iadd, 1) := by decide +kernel
theorem dX11_mark_111 : decode cX11_mark 111 = .ok (.iload 4, 2) := by decide +kernel
theorem dX11_mark_113 : decode cX11_mark 113 = .ok (.iastore, 1) := by decide +kernel
theorem dX11_mark_114 : decode cX11_mark 114 = .ok (.aload_n 0, 1) := by decide +kernel
theorem dX11_mark_115 : decode cX11_mark 115 = .ok (.getfield 107, 3) := by decide +kernel
theorem dX11_mark_118 : decode cX11_mark 118 = .ok (.iload 7, 2) := by decide +kernel
theorem dX11_mark_120 : decode cX11_mark 120 = .ok (.iload 5, 2) := by decide +kernel
theorem dX11_mark_122 : decode cX11_mark 122 = .ok (.iastore, 1) := by decide +kernel
theorem dX11_mark_123 : decode cX11_mark 123 = .ok (.aload_n 0, 1) := by decide +kernel
theorem dX11_mark_124 : decode cX11_mark 124 = .ok (.getfield 101, 3) := by decide +kernel
theorem dX11_mark_127 : decode cX11_mark 127 = .ok (.iload 6, 2) := by decide +kernel
theorem dX11_mark_129 : decode cX11_mark 129 = .ok (.dup2, 1) := by decide +kernel
theorem dX11_mark_130 : decode cX11_mark 130 = .ok (.iaload, 1) := by decide +kernel
theorem dX11_mark_131 : decode cX11_mark 131 = .ok (.iconst 1, 1) := by decide +kernel
theorem dX11_mark_132 : decode cX11_mark 132 = .ok (.iadd, 1) := by decide +kernel
theorem dX11_mark_133 : decode cX11_mark 133 = .ok (.iastore, 1) := by decide +kernel
theorem dX11_mark_134 : decode cX11_mark 134 = .ok (.aload_n 0, 1) := by decide +kernel
theorem dX11_mark_135 : decode cX11_mark 135 = .ok (.getfield 101, 3) := by decide +kernel
theorem dX11_mark_138 : decode cX11_mark 138 = .ok (.iload 6, 2) := by decide +kernel
theorem dX11_mark_140 : decode cX11_mark 140 = .ok (.iaload, 1) := by decide +kernel
theorem dX11_mark_141 : decode cX11_mark 141 = .ok (.iconst 1, 1) := by decide +kernel
theorem dX11_mark_142 : decode cX11_mark 142 = .ok (.isub, 1) := by decide +kernel
theorem dX11_mark_143 : decode cX11_mark 143 = .ok (.ireturn, 1) := by decide +kernel
theorem dX11_clear_0 : decode cX11_clear 0 = .ok (.aload_n 0, 1) := by decide +kernel
theorem dX11_clear_1 : decode cX11_clear 1 = .ok (.getfield 101, 3) := by decide +kernel
theorem dX11_clear_4 : decode cX11_clear 4 = .ok (.iconst 0, 1) := by decide +kernel
theorem dX11_clear_5 : decode cX11_clear 5 = .ok (.iaload, 1) := by decide +kernel
theorem dX11_clear_6 : decode cX11_clear 6 = .ok (.aload_n 0, 1) := by decide +kernel
theorem dX11_clear_7 : decode cX11_clear 7 = .ok (.getfield 101, 3) := by decide +kernel
theorem dX11_clear_10 : decode cX11_clear 10 = .ok (.iconst 1, 1) := by decide +kernel
theorem dX11_clear_11 : decode cX11_clear 11 = .ok (.iaload, 1) := by decide +kernel
theorem dX11_clear_12 : decode cX11_clear 12 = .ok (.iadd, 1) := by decide +kernel
theorem dX11_clear_13 : decode cX11_clear 13 = .ok (.istore_n 1, 1) := by decide +kernel
theorem dX11_clear_14 : decode cX11_clear 14 = .ok (.aload_n 0, 1) := by decide +kernel
theorem dX11_clear_15 : decode cX11_clear 15 = .ok (.getfield 101, 3) := by decide +kernel
theorem dX11_clear_18 : decode cX11_clear 18 = .ok (.iconst 0, 1) := by decide +kernel
theorem dX11_clear_19 : decode cX11_clear 19 = .ok (.iconst 0, 1) := by decide +kernel
theorem dX11_clear_20 : decode cX11_clear 20 = .ok (.iastore, 1) := by decide +kernel
theorem dX11_clear_21 : decode cX11_clear 21 = .ok (.aload_n 0, 1) := by decide +kernel
theorem dX11_clear_22 : decode cX11_clear 22 = .ok (.getfield 101, 3) := by decide +kernel
theorem dX11_clear_25 : decode cX11_clear 25 = .ok (.iconst 1, 1) := by decide +kernel
theorem dX11_clear_26 : decode cX11_clear 26 = .ok (.iconst 0, 1) := by decide +kernel
theorem dX11_clear_27 : decode cX11_clear 27 = .ok (.iastore, 1) := by decide +kernel
theorem dX11_clear_28 : decode cX11_clear 28 = .ok (.iload_n 1, 1) := by decide +kernel
theorem dX11_clear_29 : decode cX11_clear 29 = .ok (.ireturn, 1) := by decide +kernel
theorem dX11_costOf_0 : decode cX11_costOf 0 = .ok (.aload_n 0, 1) := by decide +kernel
theorem dX11_costOf_1 : decode cX11_costOf 1 = .ok (.getfield 107, 3) := by decide +kernel
theorem dX11_costOf_4 : decode cX11_costOf 4 = .ok (.iload_n 1, 1) := by decide +kernel
theorem dX11_costOf_5 : decode cX11_costOf 5 = .ok (.iaload, 1) := by decide +kernel
theorem dX11_costOf_6 : decode cX11_costOf 6 = .ok (.aload_n 0, 1) := by decide +kernel
theorem dX11_costOf_7 : decode cX11_costOf 7 = .ok (.getfield 107, 3) := by decide +kernel
theorem dX11_costOf_10 : decode cX11_costOf 10 = .ok (.bipush 8, 2) := by decide +kernel
theorem dX11_costOf_12 : decode cX11_costOf 12 = .ok (.iload_n 2, 1) := by decide +kernel
theorem dX11_costOf_13 : decode cX11_costOf 13 = .ok (.iadd, 1) := by decide +kernel
theorem dX11_costOf_14 : decode cX11_costOf 14 = .ok (.iaload, 1) := by decide +kernel
theorem dX11_costOf_15 : decode cX11_costOf 15 = .ok (.isub, 1) := by decide +kernel
theorem dX11_costOf_16 : decode cX11_costOf 16 = .ok (.istore_n 3, 1) := by decide +kernel
theorem dX11_costOf_17 : decode cX11_costOf 17 = .ok (.iload_n 3, 1) := by decide +kernel
theorem dX11_costOf_18 : decode cX11_costOf 18 = .ok (.ifCond .ge 8, 3) := by decide +kernel
theorem dX11_costOf_21 : decode cX11_costOf 21 = .ok (.iload_n 3, 1) := by decide +kernel
theorem dX11_costOf_22 : decode cX11_costOf 22 = .ok (.ineg, 1) := by decide +kernel
theorem dX11_costOf_23 : decode cX11_costOf 23 = .ok (.goto 4, 3) := by decide +kernel
theorem dX11_costOf_26 : decode cX11_costOf 26 = .ok (.iload_n 3, 1) := by decide +kernel
theorem dX11_costOf_27 : decode cX11_costOf 27 = .ok (.istore 4, 2) := by decide +kernel
theorem dX11_costOf_29 : decode cX11_costOf 29 = .ok (.iload 4, 2) := by decide +kernel
theorem dX11_costOf_31 : decode cX11_costOf 31 = .ok (.bipush 20, 2) := by decide +kernel
theorem dX11_costOf_33 : decode cX11_costOf 33 = .ok (.if_icmp .le 6, 3) := by decide +kernel
theorem dX11_costOf_36 : decode cX11_costOf 36 = .ok (.bipush (-9), 2) := by decide +kernel
theorem dX11_costOf_38 : decode cX11_costOf 38 = .ok (.ireturn, 1) := by decide +kernel
theorem dX11_costOf_39 : decode cX11_costOf 39 = .ok (.iconst 0, 1) := by decide +kernel
theorem dX11_costOf_40 : decode cX11_costOf 40 = .ok (.istore 5, 2) := by decide +kernel
theorem dX11_costOf_42 : decode cX11_costOf 42 = .ok (.iload 5, 2) := by decide +kernel
theorem dX11_costOf_44 : decode cX11_costOf 44 = .ok (.iconst 3, 1) := by decide +kernel
theorem dX11_costOf_45 : decode cX11_costOf 45 = .ok (.if_icmp .ge 68, 3) := by decide +kernel
theorem dX11_costOf_48 : decode cX11_costOf 48 = .ok (.aload_n 0, 1) := by decide +kernel
theorem dX11_costOf_49 : decode cX11_costOf 49 = .ok (.getfield 104, 3) := by decide +kernel
theorem dX11_costOf_52 : decode cX11_costOf 52 = .ok (.iconst 3, 1) := by decide +kernel
theorem dX11_costOf_53 : decode cX11_costOf 53 = .ok (.iload_n 1, 1) := by decide +kernel
theorem dX11_costOf_54 : decode cX11_costOf 54 = .ok (.imul, 1) := by decide +kernel
theorem dX11_costOf_55 : decode cX11_costOf 55 = .ok (.iload 5, 2) := by decide +kernel
theorem dX11_costOf_57 : decode cX11_costOf 57 = .ok (.iadd, 1) := by decide +kernel
theorem dX11_costOf_58 : decode cX11_costOf 58 = .ok (.iaload, 1) := by decide +kernel
theorem dX11_costOf_59 : decode cX11_costOf 59 = .ok (.istore 6, 2) := by decide +kernel
theorem dX11_costOf_61 : decode cX11_costOf 61 = .ok (.aload_n 0, 1) := by decide +kernel
theorem dX11_costOf_62 : decode cX11_costOf 62 = .ok (.getfield 104, 3) := by decide +kernel
theorem dX11_costOf_65 : decode cX11_costOf 65 = .ok (.bipush 24, 2) := by decide +kernel
theorem dX11_costOf_67 : decode cX11_costOf 67 = .ok (.iconst 3, 1) := by decide +kernel
theorem dX11_costOf_68 : decode cX11_costOf 68 = .ok (.iload_n 2, 1) := by decide +kernel
theorem dX11_costOf_69 : decode cX11_costOf 69 = .ok (.imul, 1) := by decide +kernel
theorem dX11_costOf_70 : decode cX11_costOf 70 = .ok (.iadd, 1) := by decide +kernel
theorem dX11_costOf_71 : decode cX11_costOf 71 = .ok (.iload 5, 2) := by decide +kernel
theorem dX11_costOf_73 : decode cX11_costOf 73 = .ok (.iadd, 1) := by decide +kernel
theorem dX11_costOf_74 : decode cX11_costOf 74 = .ok (.iaload, 1) := by decide +kernel
theorem dX11_costOf_75 : decode cX11_costOf 75 = .ok (.istore 7, 2) := by decide +kernel
theorem dX11_costOf_77 : decode cX11_costOf 77 = .ok (.iload 6, 2) := by decide +kernel
theorem dX11_costOf_79 : decode cX11_costOf 79 = .ok (.bipush (-9), 2) := by decide +kernel
theorem dX11_costOf_81 : decode cX11_costOf 81 = .ok (.if_icmp .eq 10, 3) := by decide +kernel
theorem dX11_costOf_84 : decode cX11_costOf 84 = .ok (.iload 7, 2) := by decide +kernel
theorem dX11_costOf_86 : decode cX11_costOf 86 = .ok (.bipush (-9), 2) := by decide +kernel
theorem dX11_costOf_88 : decode cX11_costOf 88 = .ok (.if_icmp .ne 9, 3) := by decide +kernel
theorem dX11_costOf_91 : decode cX11_costOf 91 = .ok (.iinc 4 10, 3) := by decide +kernel
theorem dX11_costOf_94 : decode cX11_costOf 94 = .ok (.goto 13, 3) := by decide +kernel
theorem dX11_costOf_97 : decode cX11_costOf 97 = .ok (.iload 6, 2) := by decide +kernel
theorem dX11_costOf_99 : decode cX11_costOf 99 = .ok (.iload 7, 2) := by decide +kernel
theorem dX11_costOf_101 : decode cX11_costOf 101 = .ok (.if_icmp .eq 6, 3) := by decide +kernel
theorem dX11_costOf_104 : decode cX11_costOf 104 = .ok (.bipush (-9), 2) := by decide +kernel
theorem dX11_costOf_106 : decode cX11_costOf 106 = .ok (.ireturn, 1) := by decide +kernel
theorem dX11_costOf_107 : decode cX11_costOf 107 = .ok (.iinc 5 1, 3) := by decide +kernel
theorem dX11_costOf_110 : decode cX11_costOf 110 = .ok (.goto (-68), 3) := by decide +kernel
theorem dX11_costOf_113 : decode cX11_costOf 113 = .ok (.iload 4, 2) := by decide +kernel
theorem dX11_costOf_115 : decode cX11_costOf 115 = .ok (.ireturn, 1) := by decide +kernel
set_option maxRecDepth 20000 in
theorem ggX11_cost_X11_in : GoodIn wsX11_cost wsX11_in := goodIn_r _ [5] rfl (by decide +kernel)
set_option maxRecDepth 20000 in
theorem gX11_cost_X11_in : GoodIn wsX11_cost (va_wsS RX11 127 yX11_in wsX11_in) := goodIn_app (goodIn_of _ (by decide +kernel)) ggX11_cost_X11_in
set_option maxRecDepth 20000 in
theorem ggX11_cost_X11_costOf : GoodIn wsX11_cost wsX11_costOf := goodIn_r _ [9, 10, 11, 12, 13, 14, 15, 16, 17, 18, 19, 20, 21, 22, 23, 24, 25, 26, 27, 28, 29, 30, 31, 32, 33, 34, 35, 36, 37, 38, 39, 40, 41, 42, 43, 44, 45, 46, 47, 48, 49, 50, 51, 52, 53, 54, 55, 56] rfl (by decide +kernel)
set_option maxRecDepth 20000 in
theorem gX11_cost_X11_costOf : GoodIn wsX11_cost (wsV RX11 257 RX11 yX11_costOf wsX11_costOf) := goodIn_app (goodIn_of _ (by decide +kernel)) ggX11_cost_X11_costOf
theorem dX11_cost_0 : decode cX11_cost 0 = .ok (.iload_n 1, 1) := by decide +kernel
theorem dX11_cost_1 : decode cX11_cost 1 = .ok (.i2l, 1) := by decide +kernel
theorem dX11_cost_2 : decode cX11_cost 2 = .ok (.lconst 0, 1) := by decide +kernel
theorem dX11_cost_3 : decode cX11_cost 3 = .ok (.aload_n 0, 1) := by decide +kernel
theorem dX11_cost_4 : decode cX11_cost 4 = .ok (.getfield 101, 3) := by decide +kernel
theorem dX11_cost_7 : decode cX11_cost 7 = .ok (.iconst 0, 1) := by decide +kernel
theorem dX11_cost_8 : decode cX11_cost 8 = .ok (.iaload, 1) := by decide +kernel
theorem dX11_cost_9 : decode cX11_cost 9 = .ok (.iconst 1, 1) := by decide +kernel
theorem dX11_cost_10 : decode cX11_cost 10 = .ok (.isub, 1) := by decide +kernel
theorem dX11_cost_11 : decode cX11_cost 11 = .ok (.i2l, 1) := by decide +kernel
theorem dX11_cost_12 : decode cX11_cost 12 = .ok (.invokestatic 127, 3) := by decide +kernel
theorem dX11_cost_15 : decode cX11_cost 15 = .ok (.ifCond .eq 30, 3) := by decide +kernel
theorem dX11_cost_18 : decode cX11_cost 18 = .ok (.iload_n 2, 1) := by decide +kernel
theorem dX11_cost_19 : decode cX11_cost 19 = .ok (.i2l, 1) := by decide +kernel
theorem dX11_cost_20 : decode cX11_cost 20 = .ok (.lconst 0, 1) := by decide +kernel
theorem dX11_cost_21 : decode cX11_cost 21 = .ok (.aload_n 0, 1) := by decide +kernel
theorem dX11_cost_22 : decode cX11_cost 22 = .ok (.getfield 101, 3) := by decide +kernel
theorem dX11_cost_25 : decode cX11_cost 25 = .ok (.iconst 1, 1) := by decide +kernel
theorem dX11_cost_26 : decode cX11_cost 26 = .ok (.iaload, 1) := by decide +kernel
theorem dX11_cost_27 : decode cX11_cost 27 = .ok (.iconst 1, 1) := by decide +kernel
theorem dX11_cost_28 : decode cX11_cost 28 = .ok (.isub, 1) := by decide +kernel
theorem dX11_cost_29 : decode cX11_cost 29 = .ok (.i2l, 1) := by decide +kernel
theorem dX11_cost_30 : decode cX11_cost 30 = .ok (.invokestatic 127, 3) := by decide +kernel
theorem dX11_cost_33 : decode cX11_cost 33 = .ok (.ifCond .eq 12, 3) := by decide +kernel
theorem dX11_cost_36 : decode cX11_cost 36 = .ok (.aload_n 0, 1) := by decide +kernel
theorem dX11_cost_37 : decode cX11_cost 37 = .ok (.iload_n 1, 1) := by decide +kernel
theorem dX11_cost_38 : decode cX11_cost 38 = .ok (.iload_n 2, 1) := by decide +kernel
theorem dX11_cost_39 : decode cX11_cost 39 = .ok (.invokevirtual 257, 3) := by decide +kernel
theorem dX11_cost_42 : decode cX11_cost 42 = .ok (.goto 4, 3) := by decide +kernel
theorem dX11_cost_45 : decode cX11_cost 45 = .ok (.iconst (-1), 1) := by decide +kernel
theorem dX11_cost_46 : decode cX11_cost 46 = .ok (.ireturn, 1) := by decide +kernel
set_option maxRecDepth 20000 in
theorem ggX11_layJoin_X11_costOf : GoodIn wsX11_layJoin wsX11_costOf := goodIn_r _ [8, 9, 10, 11, 12, 13, 14, 15, 16, 17, 18, 19, 20, 21, 22, 23, 24, 25, 26, 27, 28, 29, 30, 31, 32, 33, 34, 35, 36, 37, 38, 39, 40, 41, 42, 43, 44, 45, 46, 47, 48, 49, 50, 51, 52, 53, 54, 55] rfl (by decide +kernel)
set_option maxRecDepth 20000 in
theorem gX11_layJoin_X11_costOf : GoodIn wsX11_layJoin (wsV RX11 257 RX11 yX11_costOf wsX11_costOf) := goodIn_app (goodIn_of _ (by decide +kernel)) ggX11_layJoin_X11_costOf
theorem dX11_layJoin_0 : decode cX11_layJoin 0 = .ok (.aload_n 0, 1) := by decide +kernel
theorem dX11_layJoin_1 : decode cX11_layJoin 1 = .ok (.getfield 101, 3) := by decide +kernel
theorem dX11_layJoin_4 : decode cX11_layJoin 4 = .ok (.iconst 0, 1) := by decide +kernel
theorem dX11_layJoin_5 : decode cX11_layJoin 5 = .ok (.iaload, 1) := by decide +kernel
theorem dX11_layJoin_6 : decode cX11_layJoin 6 = .ok (.istore_n 3, 1) := by decide +kernel
theorem dX11_layJoin_7 : decode cX11_layJoin 7 = .ok (.iconst 0, 1) := by decide +kernel
theorem dX11_layJoin_8 : decode cX11_layJoin 8 = .ok (.istore 4, 2) := by decide +kernel
theorem dX11_layJoin_10 : decode cX11_layJoin 10 = .ok (.iload 4, 2) := by decide +kernel
theorem dX11_layJoin_12 : decode cX11_layJoin 12 = .ok (.sipush 256, 3) := by decide +kernel
theorem dX11_layJoin_15 : decode cX11_layJoin 15 = .ok (.if_icmp .ge 23, 3) := by decide +kernel
theorem dX11_layJoin_18 : decode cX11_layJoin 18 = .ok (.aload_n 0, 1) := by decide +kernel
theorem dX11_layJoin_19 : decode cX11_layJoin 19 = .ok (.getfield 110, 3) := by decide +kernel
theorem dX11_layJoin_22 : decode cX11_layJoin 22 = .ok (.sipush 256, 3) := by decide +kernel
theorem dX11_layJoin_25 : decode cX11_layJoin 25 = .ok (.iload_n 3, 1) := by decide +kernel
theorem dX11_layJoin_26 : decode cX11_layJoin 26 = .ok (.imul, 1) := by decide +kernel
theorem dX11_layJoin_27 : decode cX11_layJoin 27 = .ok (.iload 4, 2) := by decide +kernel
theorem dX11_layJoin_29 : decode cX11_layJoin 29 = .ok (.iadd, 1) := by decide +kernel
theorem dX11_layJoin_30 : decode cX11_layJoin 30 = .ok (.iconst 0, 1) := by decide +kernel
theorem dX11_layJoin_31 : decode cX11_layJoin 31 = .ok (.iastore, 1) := by decide +kernel
theorem dX11_layJoin_32 : decode cX11_layJoin 32 = .ok (.iinc 4 1, 3) := by decide +kernel
theorem dX11_layJoin_35 : decode cX11_layJoin 35 = .ok (.goto (-25), 3) := by decide +kernel
theorem dX11_layJoin_38 : decode cX11_layJoin 38 = .ok (.iload_n 3, 1) := by decide +kernel
theorem dX11_layJoin_39 : decode cX11_layJoin 39 = .ok (.iconst 1, 1) := by decide +kernel
theorem dX11_layJoin_40 : decode cX11_layJoin 40 = .ok (.isub, 1) := by decide +kernel
theorem dX11_layJoin_41 : decode cX11_layJoin 41 = .ok (.istore 4, 2) := by decide +kernel
theorem dX11_layJoin_43 : decode cX11_layJoin 43 = .ok (.iload 4, 2) := by decide +kernel
theorem dX11_layJoin_45 : decode cX11_layJoin 45 = .ok (.ifCond .lt 208, 3) := by decide +kernel
theorem dX11_layJoin_48 : decode cX11_layJoin 48 = .ok (.iconst 0, 1) := by decide +kernel
theorem dX11_layJoin_49 : decode cX11_layJoin 49 = .ok (.istore 5, 2) := by decide +kernel
theorem dX11_layJoin_51 : decode cX11_layJoin 51 = .ok (.iload 5, 2) := by decide +kernel
theorem dX11_layJoin_53 : decode cX11_layJoin 53 = .ok (.sipush 256, 3) := by decide +kernel
theorem dX11_layJoin_56 : decode cX11_layJoin 56 = .ok (.if_icmp .ge 191, 3) := by decide +kernel
theorem dX11_layJoin_59 : decode cX11_layJoin 59 = .ok (.iload 4, 2) := by decide +kernel
theorem dX11_layJoin_61 : decode cX11_layJoin 61 = .ok (.iload_n 1, 1) := by decide +kernel
theorem dX11_layJoin_62 : decode cX11_layJoin 62 = .ok (.if_icmp .ne 14, 3) := by decide +kernel
theorem dX11_layJoin_65 : decode cX11_layJoin 65 = .ok (.iload_n 2, 1) := by decide +kernel
theorem dX11_layJoin_66 : decode cX11_layJoin 66 = .ok (.bipush 8, 2) := by decide +kernel
theorem dX11_layJoin_68 : decode cX11_layJoin 68 = .ok (.if_icmp .ge 8, 3) := by decide +kernel
theorem dX11_layJoin_71 : decode cX11_layJoin 71 = .ok (.ldc 195, 2) := by decide +kernel
theorem dX11_layJoin_73 : decode cX11_layJoin 73 = .ok (.goto 21, 3) := by decide +kernel
theorem dX11_layJoin_76 : decode cX11_layJoin 76 = .ok (.aload_n 0, 1) := by decide +kernel
theorem dX11_layJoin_77 : decode cX11_layJoin 77 = .ok (.getfield 110, 3) := by decide +kernel
theorem dX11_layJoin_80 : decode cX11_layJoin 80 = .ok (.sipush 256, 3) := by decide +kernel
theorem dX11_layJoin_83 : decode cX11_layJoin 83 = .ok (.iload 4, 2) := by decide +kernel
theorem dX11_layJoin_85 : decode cX11_layJoin 85 = .ok (.imul, 1) := by decide +kernel
theorem dX11_layJoin_86 : decode cX11_layJoin 86 = .ok (.sipush 256, 3) := by decide +kernel
theorem dX11_layJoin_89 : decode cX11_layJoin 89 = .ok (.iadd, 1) := by decide +kernel
theorem dX11_layJoin_90 : decode cX11_layJoin 90 = .ok (.iload 5, 2) := by decide +kernel
theorem dX11_layJoin_92 : decode cX11_layJoin 92 = .ok (.iadd, 1) := by decide +kernel
theorem dX11_layJoin_93 : decode cX11_layJoin 93 = .ok (.iaload, 1) := by decide +kernel
theorem dX11_layJoin_94 : decode cX11_layJoin 94 = .ok (.istore 6, 2) := by decide +kernel
theorem dX11_layJoin_96 : decode cX11_layJoin 96 = .ok (.iconst 0, 1) := by decide +kernel
theorem dX11_layJoin_97 : decode cX11_layJoin 97 = .ok (.istore 7, 2) := by decide +kernel
theorem dX11_layJoin_99 : decode cX11_layJoin 99 = .ok (.iload 7, 2) := by decide +kernel
theorem dX11_layJoin_101 : decode cX11_layJoin 101 = .ok (.aload_n 0, 1) := by decide +kernel
theorem dX11_layJoin_102 : decode cX11_layJoin 102 = .ok (.getfield 101, 3) := by decide +kernel
theorem dX11_layJoin_105 : decode cX11_layJoin 105 = .ok (.iconst 1, 1) := by decide +kernel
theorem dX11_layJoin_106 : decode cX11_layJoin 106 = .ok (.iaload, 1) := by decide +kernel
theorem dX11_layJoin_107 : decode cX11_layJoin 107 = .ok (.if_icmp .ge 118, 3) := by decide +kernel
theorem dX11_layJoin_110 : decode cX11_layJoin 110 = .ok (.iload 5, 2) := by decide +kernel
theorem dX11_layJoin_112 : decode cX11_layJoin 112 = .ok (.iload 7, 2) := by decide +kernel
theorem dX11_layJoin_114 : decode cX11_layJoin 114 = .ok (.ishr, 1) := by decide +kernel
theorem dX11_layJoin_115 : decode cX11_layJoin 115 = .ok (.iconst 1, 1) := by decide +kernel
theorem dX11_layJoin_116 : decode cX11_layJoin 116 = .ok (.iand, 1) := by decide +kernel
theorem dX11_layJoin_117 : decode cX11_layJoin 117 = .ok (.ifCond .ne 19, 3) := by decide +kernel
theorem dX11_layJoin_120 : decode cX11_layJoin 120 = .ok (.iload 4, 2) := by decide +kernel
theorem dX11_layJoin_122 : decode cX11_layJoin 122 = .ok (.iload_n 1, 1) := by decide +kernel
theorem dX11_layJoin_123 : decode cX11_layJoin 123 = .ok (.if_icmp .ne 9, 3) := by decide +kernel
theorem dX11_layJoin_126 : decode cX11_layJoin 126 = .ok (.iload_n 2, 1) := by decide +kernel
theorem dX11_layJoin_127 : decode cX11_layJoin 127 = .ok (.iload 7, 2) := by decide +kernel
theorem dX11_layJoin_129 : decode cX11_layJoin 129 = .ok (.if_icmp .ne 7, 3) := by decide +kernel
theorem dX11_layJoin_132 : decode cX11_layJoin 132 = .ok (.iconst 1, 1) := by decide +kernel
theorem dX11_layJoin_133 : decode cX11_layJoin 133 = .ok (.goto 4, 3) := by decide +kernel
theorem dX11_layJoin_136 : decode cX11_layJoin 136 = .ok (.iconst 0, 1) := by decide +kernel
theorem dX11_layJoin_137 : decode cX11_layJoin 137 = .ok (.istore 8, 2) := by decide +kernel
theorem dX11_layJoin_139 : decode cX11_layJoin 139 = .ok (.iload 8, 2) := by decide +kernel
theorem dX11_layJoin_141 : decode cX11_layJoin 141 = .ok (.ifCond .eq 14, 3) := by decide +kernel
theorem dX11_layJoin_144 : decode cX11_layJoin 144 = .ok (.aload_n 0, 1) := by decide +kernel
theorem dX11_layJoin_145 : decode cX11_layJoin 145 = .ok (.iload 4, 2) := by decide +kernel
theorem dX11_layJoin_147 : decode cX11_layJoin 147 = .ok (.iload 7, 2) := by decide +kernel
theorem dX11_layJoin_149 : decode cX11_layJoin 149 = .ok (.invokevirtual 257, 3) := by decide +kernel
theorem dX11_layJoin_152 : decode cX11_layJoin 152 = .ok (.goto 5, 3) := by decide +kernel
theorem dX11_layJoin_155 : decode cX11_layJoin 155 = .ok (.bipush (-9), 2) := by decide +kernel
theorem dX11_layJoin_157 : decode cX11_layJoin 157 = .ok (.istore 9, 2) := by decide +kernel
theorem dX11_layJoin_159 : decode cX11_layJoin 159 = .ok (.iload 9, 2) := by decide +kernel
theorem dX11_layJoin_161 : decode cX11_layJoin 161 = .ok (.bipush (-9), 2) := by decide +kernel
theorem dX11_layJoin_163 : decode cX11_layJoin 163 = .ok (.if_icmp .ne 8, 3) := by decide +kernel
theorem dX11_layJoin_166 : decode cX11_layJoin 166 = .ok (.ldc 195, 2) := by decide +kernel
theorem dX11_layJoin_168 : decode cX11_layJoin 168 = .ok (.goto 33, 3) := by decide +kernel
theorem dX11_layJoin_171 : decode cX11_layJoin 171 = .ok (.iload 9, 2) := by decide +kernel
theorem dX11_layJoin_173 : decode cX11_layJoin 173 = .ok (.sipush 1000, 3) := by decide +kernel
theorem dX11_layJoin_176 : decode cX11_layJoin 176 = .ok (.isub, 1) := by decide +kernel
theorem dX11_layJoin_177 : decode cX11_layJoin 177 = .ok (.aload_n 0, 1) := by decide +kernel
theorem dX11_layJoin_178 : decode cX11_layJoin 178 = .ok (.getfield 110, 3) := by decide +kernel
theorem dX11_layJoin_181 : decode cX11_layJoin 181 = .ok (.sipush 256, 3) := by decide +kernel
theorem dX11_layJoin_184 : decode cX11_layJoin 184 = .ok (.iload 4, 2) := by decide +kernel
theorem dX11_layJoin_186 : decode cX11_layJoin 186 = .ok (.imul, 1) := by decide +kernel
theorem dX11_layJoin_187 : decode cX11_layJoin 187 = .ok (.sipush 256, 3) := by decide +kernel
theorem dX11_layJoin_190 : decode cX11_layJoin 190 = .ok (.iadd, 1) := by decide +kernel
theorem dX11_layJoin_191 : decode cX11_layJoin 191 = .ok (.iload 5, 2) := by decide +kernel
theorem dX11_layJoin_193 : decode cX11_layJoin 193 = .ok (.iconst 1, 1) := by decide +kernel
theorem dX11_layJoin_194 : decode cX11_layJoin 194 = .ok (.iload 7, 2) := by decide +kernel
theorem dX11_layJoin_196 : decode cX11_layJoin 196 = .ok (.ishl, 1) := by decide +kernel
theorem dX11_layJoin_197 : decode cX11_layJoin 197 = .ok (.ior, 1) := by decide +kernel
theorem dX11_layJoin_198 : decode cX11_layJoin 198 = .ok (.iadd, 1) := by decide +kernel
theorem dX11_layJoin_199 : decode cX11_layJoin 199 = .ok (.iaload, 1) := by decide +kernel
theorem dX11_layJoin_200 : decode cX11_layJoin 200 = .ok (.iadd, 1) := by decide +kernel
theorem dX11_layJoin_201 : decode cX11_layJoin 201 = .ok (.istore 10, 2) := by decide +kernel
theorem dX11_layJoin_203 : decode cX11_layJoin 203 = .ok (.iload 10, 2) := by decide +kernel
theorem dX11_layJoin_205 : decode cX11_layJoin 205 = .ok (.iload 6, 2) := by decide +kernel
theorem dX11_layJoin_207 : decode cX11_layJoin 207 = .ok (.if_icmp .ge 8, 3) := by decide +kernel
theorem dX11_layJoin_210 : decode cX11_layJoin 210 = .ok (.iload 10, 2) := by decide +kernel
theorem dX11_layJoin_212 : decode cX11_layJoin 212 = .ok (.goto 5, 3) := by decide +kernel
theorem dX11_layJoin_215 : decode cX11_layJoin 215 = .ok (.iload 6, 2) := by decide +kernel
theorem dX11_layJoin_217 : decode cX11_layJoin 217 = .ok (.istore 6, 2) := by decide +kernel
theorem dX11_layJoin_219 : decode cX11_layJoin 219 = .ok (.iinc 7 1, 3) := by decide +kernel
theorem dX11_layJoin_222 : decode cX11_layJoin 222 = .ok (.goto (-123), 3) := by decide +kernel
theorem dX11_layJoin_225 : decode cX11_layJoin 225 = .ok (.aload_n 0, 1) := by decide +kernel
theorem dX11_layJoin_226 : decode cX11_layJoin 226 = .ok (.getfield 110, 3) := by decide +kernel
theorem dX11_layJoin_229 : decode cX11_layJoin 229 = .ok (.sipush 256, 3) := by decide +kernel
theorem dX11_layJoin_232 : decode cX11_layJoin 232 = .ok (.iload 4, 2) := by decide +kernel
theorem dX11_layJoin_234 : decode cX11_layJoin 234 = .ok (.imul, 1) := by decide +kernel
theorem dX11_layJoin_235 : decode cX11_layJoin 235 = .ok (.iload 5, 2) := by decide +kernel
theorem dX11_layJoin_237 : decode cX11_layJoin 237 = .ok (.iadd, 1) := by decide +kernel
theorem dX11_layJoin_238 : decode cX11_layJoin 238 = .ok (.iload 6, 2) := by decide +kernel
theorem dX11_layJoin_240 : decode cX11_layJoin 240 = .ok (.iastore, 1) := by decide +kernel
theorem dX11_layJoin_241 : decode cX11_layJoin 241 = .ok (.iinc 5 1, 3) := by decide +kernel
theorem dX11_layJoin_244 : decode cX11_layJoin 244 = .ok (.goto (-193), 3) := by decide +kernel
theorem dX11_layJoin_247 : decode cX11_layJoin 247 = .ok (.iinc 4 (-1), 3) := by decide +kernel
theorem dX11_layJoin_250 : decode cX11_layJoin 250 = .ok (.goto (-207), 3) := by decide +kernel
theorem dX11_layJoin_253 : decode cX11_layJoin 253 = .ok (.aload_n 0, 1) := by decide +kernel
theorem dX11_layJoin_254 : decode cX11_layJoin 254 = .ok (.getfield 110, 3) := by decide +kernel
theorem dX11_layJoin_257 : decode cX11_layJoin 257 = .ok (.iconst 0, 1) := by decide +kernel
theorem dX11_layJoin_258 : decode cX11_layJoin 258 = .ok (.iaload, 1) := by decide +kernel
theorem dX11_layJoin_259 : decode cX11_layJoin 259 = .ok (.ireturn, 1) := by decide +kernel
theorem dX11_pairsOf_0 : decode cX11_pairsOf 0 = .ok (.iload_n 0, 1) := by decide +kernel
theorem dX11_pairsOf_1 : decode cX11_pairsOf 1 = .ok (.ineg, 1) := by decide +kernel
theorem dX11_pairsOf_2 : decode cX11_pairsOf 2 = .ok (.sipush 999, 3) := by decide +kernel
theorem dX11_pairsOf_5 : decode cX11_pairsOf 5 = .ok (.iadd, 1) := by decide +kernel
theorem dX11_pairsOf_6 : decode cX11_pairsOf 6 = .ok (.sipush 1000, 3) := by decide +kernel
theorem dX11_pairsOf_9 : decode cX11_pairsOf 9 = .ok (.idiv, 1) := by decide +kernel
theorem dX11_pairsOf_10 : decode cX11_pairsOf 10 = .ok (.ireturn, 1) := by decide +kernel
set_option maxRecDepth 20000 in
theorem ggX11_join_X11_layJoin : GoodIn wsX11_join wsX11_layJoin := goodIn_r _ [5, 6, 7, 8, 9, 10, 11, 4, 12, 13, 14, 18, 19, 20, 21, 22, 23, 24, 25, 26, 27, 28, 29, 30, 31, 32, 33, 34, 35, 36, 37, 38, 39, 40, 41, 42, 43, 44, 45, 46, 47, 48, 49, 50, 51, 52, 53, 54, 55, 56, 57, 58, 59, 60, 61, 62] rfl (by decide +kernel)
set_option maxRecDepth 20000 in
theorem gX11_join_X11_layJoin : GoodIn wsX11_join (wsV RX11 260 RX11 yX11_layJoin wsX11_layJoin) := goodIn_app (goodIn_of _ (by decide +kernel)) ggX11_join_X11_layJoin
set_option maxRecDepth 20000 in
theorem ggX11_join_X11_pairsOf : GoodIn wsX11_join wsX11_pairsOf := goodIn_r _ [17] rfl (by decide +kernel)
set_option maxRecDepth 20000 in
theorem gX11_join_X11_pairsOf : GoodIn wsX11_join (va_wsS RX11 263 yX11_pairsOf wsX11_pairsOf) := goodIn_app (goodIn_of _ (by decide +kernel)) ggX11_join_X11_pairsOf
theorem dX11_join_0 : decode cX11_join 0 = .ok (.aload_n 0, 1) := by decide +kernel
theorem dX11_join_1 : decode cX11_join 1 = .ok (.bipush (-9), 2) := by decide +kernel
theorem dX11_join_3 : decode cX11_join 3 = .ok (.bipush (-9), 2) := by decide +kernel
theorem dX11_join_5 : decode cX11_join 5 = .ok (.invokevirtual 260, 3) := by decide +kernel
theorem dX11_join_8 : decode cX11_join 8 = .ok (.istore_n 2, 1) := by decide +kernel
theorem dX11_join_9 : decode cX11_join 9 = .ok (.iload_n 1, 1) := by decide +kernel
theorem dX11_join_10 : decode cX11_join 10 = .ok (.ifCond .eq 16, 3) := by decide +kernel
theorem dX11_join_13 : decode cX11_join 13 = .ok (.iload_n 2, 1) := by decide +kernel
theorem dX11_join_14 : decode cX11_join 14 = .ok (.sipush 1000, 3) := by decide +kernel
theorem dX11_join_17 : decode cX11_join 17 = .ok (.iload_n 2, 1) := by decide +kernel
theorem dX11_join_18 : decode cX11_join 18 = .ok (.invokestatic 263, 3) := by decide +kernel
theorem dX11_join_21 : decode cX11_join 21 = .ok (.imul, 1) := by decide +kernel
theorem dX11_join_22 : decode cX11_join 22 = .ok (.iadd, 1) := by decide +kernel
theorem dX11_join_23 : decode cX11_join 23 = .ok (.goto 7, 3) := by decide +kernel
theorem dX11_join_26 : decode cX11_join 26 = .ok (.iload_n 2, 1) := by decide +kernel
theorem dX11_join_27 : decode cX11_join 27 = .ok (.invokestatic 263, 3) := by decide +kernel
theorem dX11_join_30 : decode cX11_join 30 = .ok (.ireturn, 1) := by decide +kernel
set_option maxRecDepth 20000 in
theorem ggX11_joined_X11_in : GoodIn wsX11_joined wsX11_in := goodIn_r _ [6] rfl (by decide +kernel)
set_option maxRecDepth 20000 in
theorem gX11_joined_X11_in : GoodIn wsX11_joined (va_wsS RX11 127 yX11_in wsX11_in) := goodIn_app (goodIn_of _ (by decide +kernel)) ggX11_joined_X11_in
set_option maxRecDepth 20000 in
theorem ggX11_joined_X11_layJoin : GoodIn wsX11_joined wsX11_layJoin := goodIn_r _ [10, 1, 2, 11, 12, 13, 14, 5, 15, 16, 17, 18, 19, 20, 21, 22, 23, 24, 25, 26, 27, 28, 29, 30, 31, 32, 33, 34, 35, 36, 37, 38, 39, 40, 41, 42, 43, 44, 45, 46, 47, 48, 49, 50, 51, 52, 53, 54, 55, 56, 57, 58, 59, 60, 61, 62] rfl (by decide +kernel)
set_option maxRecDepth 20000 in
theorem gX11_joined_X11_layJoin : GoodIn wsX11_joined (wsV RX11 260 RX11 yX11_layJoin wsX11_layJoin) := goodIn_app (goodIn_of _ (by decide +kernel)) ggX11_joined_X11_layJoin
set_option maxRecDepth 20000 in
theorem ggX11_joined_X11_costOf : GoodIn wsX11_joined wsX11_costOf := goodIn_r _ [15, 16, 17, 18, 19, 20, 21, 22, 23, 24, 25, 26, 27, 28, 29, 30, 31, 32, 33, 34, 35, 36, 37, 38, 39, 40, 41, 42, 43, 44, 45, 46, 47, 48, 49, 50, 51, 52, 53, 54, 55, 56, 57, 58, 59, 60, 61, 62] rfl (by decide +kernel)
set_option maxRecDepth 20000 in
theorem gX11_joined_X11_costOf : GoodIn wsX11_joined (wsV RX11 257 RX11 yX11_costOf wsX11_costOf) := goodIn_app (goodIn_of _ (by decide +kernel)) ggX11_joined_X11_costOf
theorem dX11_joined_0 : decode cX11_joined 0 = .ok (.iload_n 1, 1) := by decide +kernel
theorem dX11_joined_1 : decode cX11_joined 1 = .ok (.i2l, 1) := by decide +kernel
theorem dX11_joined_2 : decode cX11_joined 2 = .ok (.lconst 0, 1) := by decide +kernel
theorem dX11_joined_3 : decode cX11_joined 3 = .ok (.aload_n 0, 1) := by decide +kernel
theorem dX11_joined_4 : decode cX11_joined 4 = .ok (.getfield 101, 3) := by decide +kernel
theorem dX11_joined_7 : decode cX11_joined 7 = .ok (.iconst 0, 1) := by decide +kernel
theorem dX11_joined_8 : decode cX11_joined 8 = .ok (.iaload, 1) := by decide +kernel
theorem dX11_joined_9 : decode cX11_joined 9 = .ok (.iconst 1, 1) := by decide +kernel
theorem dX11_joined_10 : decode cX11_joined 10 = .ok (.isub, 1) := by decide +kernel
theorem dX11_joined_11 : decode cX11_joined 11 = .ok (.i2l, 1) := by decide +kernel
theorem dX11_joined_12 : decode cX11_joined 12 = .ok (.invokestatic 127, 3) := by decide +kernel
theorem dX11_joined_15 : decode cX11_joined 15 = .ok (.ifCond .ne 5, 3) := by decide +kernel
theorem dX11_joined_18 : decode cX11_joined 18 = .ok (.iconst (-1), 1) := by decide +kernel
theorem dX11_joined_19 : decode cX11_joined 19 = .ok (.ireturn, 1) := by decide +kernel
theorem dX11_joined_20 : decode cX11_joined 20 = .ok (.aload_n 0, 1) := by decide +kernel
theorem dX11_joined_21 : decode cX11_joined 21 = .ok (.bipush (-9), 2) := by decide +kernel
theorem dX11_joined_23 : decode cX11_joined 23 = .ok (.bipush (-9), 2) := by decide +kernel
theorem dX11_joined_25 : decode cX11_joined 25 = .ok (.invokevirtual 260, 3) := by decide +kernel
theorem dX11_joined_28 : decode cX11_joined 28 = .ok (.istore_n 2, 1) := by decide +kernel
theorem dX11_joined_29 : decode cX11_joined 29 = .ok (.iconst 0, 1) := by decide +kernel
theorem dX11_joined_30 : decode cX11_joined 30 = .ok (.istore_n 3, 1) := by decide +kernel
theorem dX11_joined_31 : decode cX11_joined 31 = .ok (.bipush (-9), 2) := by decide +kernel
theorem dX11_joined_33 : decode cX11_joined 33 = .ok (.istore 4, 2) := by decide +kernel
theorem dX11_joined_35 : decode cX11_joined 35 = .ok (.iconst 0, 1) := by decide +kernel
theorem dX11_joined_36 : decode cX11_joined 36 = .ok (.istore 5, 2) := by decide +kernel
theorem dX11_joined_38 : decode cX11_joined 38 = .ok (.iload 5, 2) := by decide +kernel
theorem dX11_joined_40 : decode cX11_joined 40 = .ok (.iload_n 1, 1) := by decide +kernel
theorem dX11_joined_41 : decode cX11_joined 41 = .ok (.if_icmp .gt 143, 3) := by decide +kernel
theorem dX11_joined_44 : decode cX11_joined 44 = .ok (.bipush (-9), 2) := by decide +kernel
theorem dX11_joined_46 : decode cX11_joined 46 = .ok (.istore 4, 2) := by decide +kernel
theorem dX11_joined_48 : decode cX11_joined 48 = .ok (.aload_n 0, 1) := by decide +kernel
theorem dX11_joined_49 : decode cX11_joined 49 = .ok (.getfield 101, 3) := by decide +kernel
theorem dX11_joined_52 : decode cX11_joined 52 = .ok (.iconst 1, 1) := by decide +kernel
theorem dX11_joined_53 : decode cX11_joined 53 = .ok (.iaload, 1) := by decide +kernel
theorem dX11_joined_54 : decode cX11_joined 54 = .ok (.iconst 1, 1) := by decide +kernel
theorem dX11_joined_55 : decode cX11_joined 55 = .ok (.isub, 1) := by decide +kernel
theorem dX11_joined_56 : decode cX11_joined 56 = .ok (.istore 6, 2) := by decide +kernel
theorem dX11_joined_58 : decode cX11_joined 58 = .ok (.iload 6, 2) := by decide +kernel
theorem dX11_joined_60 : decode cX11_joined 60 = .ok (.ifCond .lt 82, 3) := by decide +kernel
theorem dX11_joined_63 : decode cX11_joined 63 = .ok (.iload_n 3, 1) := by decide +kernel
theorem dX11_joined_64 : decode cX11_joined 64 = .ok (.iload 6, 2) := by decide +kernel
theorem dX11_joined_66 : decode cX11_joined 66 = .ok (.ishr, 1) := by decide +kernel
theorem dX11_joined_67 : decode cX11_joined 67 = .ok (.iconst 1, 1) := by decide +kernel
theorem dX11_joined_68 : decode cX11_joined 68 = .ok (.iand, 1) := by decide +kernel
theorem dX11_joined_69 : decode cX11_joined 69 = .ok (.ifCond .ne 14, 3) := by decide +kernel
theorem dX11_joined_72 : decode cX11_joined 72 = .ok (.aload_n 0, 1) := by decide +kernel
theorem dX11_joined_73 : decode cX11_joined 73 = .ok (.iload 5, 2) := by decide +kernel
theorem dX11_joined_75 : decode cX11_joined 75 = .ok (.iload 6, 2) := by decide +kernel
theorem dX11_joined_77 : decode cX11_joined 77 = .ok (.invokevirtual 257, 3) := by decide +kernel
theorem dX11_joined_80 : decode cX11_joined 80 = .ok (.goto 5, 3) := by decide +kernel
theorem dX11_joined_83 : decode cX11_joined 83 = .ok (.bipush (-9), 2) := by decide +kernel
theorem dX11_joined_85 : decode cX11_joined 85 = .ok (.istore 7, 2) := by decide +kernel
theorem dX11_joined_87 : decode cX11_joined 87 = .ok (.iload 7, 2) := by decide +kernel
theorem dX11_joined_89 : decode cX11_joined 89 = .ok (.bipush (-9), 2) := by decide +kernel
theorem dX11_joined_91 : decode cX11_joined 91 = .ok (.if_icmp .eq 41, 3) := by decide +kernel
theorem dX11_joined_94 : decode cX11_joined 94 = .ok (.iload 7, 2) := by decide +kernel
theorem dX11_joined_96 : decode cX11_joined 96 = .ok (.sipush 1000, 3) := by decide +kernel
theorem dX11_joined_99 : decode cX11_joined 99 = .ok (.isub, 1) := by decide +kernel
theorem dX11_joined_100 : decode cX11_joined 100 = .ok (.aload_n 0, 1) := by decide +kernel
theorem dX11_joined_101 : decode cX11_joined 101 = .ok (.getfield 110, 3) := by decide +kernel
theorem dX11_joined_104 : decode cX11_joined 104 = .ok (.sipush 256, 3) := by decide +kernel
theorem dX11_joined_107 : decode cX11_joined 107 = .ok (.iload 5, 2) := by decide +kernel
theorem dX11_joined_109 : decode cX11_joined 109 = .ok (.imul, 1) := by decide +kernel
theorem dX11_joined_110 : decode cX11_joined 110 = .ok (.sipush 256, 3) := by decide +kernel
theorem dX11_joined_113 : decode cX11_joined 113 = .ok (.iadd, 1) := by decide +kernel
theorem dX11_joined_114 : decode cX11_joined 114 = .ok (.iload_n 3, 1) := by decide +kernel
theorem dX11_joined_115 : decode cX11_joined 115 = .ok (.iconst 1, 1) := by decide +kernel
theorem dX11_joined_116 : decode cX11_joined 116 = .ok (.iload 6, 2) := by decide +kernel
theorem dX11_joined_118 : decode cX11_joined 118 = .ok (.ishl, 1) := by decide +kernel
theorem dX11_joined_119 : decode cX11_joined 119 = .ok (.ior, 1) := by decide +kernel
theorem dX11_joined_120 : decode cX11_joined 120 = .ok (.iadd, 1) := by decide +kernel
theorem dX11_joined_121 : decode cX11_joined 121 = .ok (.iaload, 1) := by decide +kernel
theorem dX11_joined_122 : decode cX11_joined 122 = .ok (.iadd, 1) := by decide +kernel
theorem dX11_joined_123 : decode cX11_joined 123 = .ok (.iload_n 2, 1) := by decide +kernel
theorem dX11_joined_124 : decode cX11_joined 124 = .ok (.if_icmp .ne 8, 3) := by decide +kernel
theorem dX11_joined_127 : decode cX11_joined 127 = .ok (.iload 6, 2) := by decide +kernel
theorem dX11_joined_129 : decode cX11_joined 129 = .ok (.goto 5, 3) := by decide +kernel
theorem dX11_joined_132 : decode cX11_joined 132 = .ok (.iload 4, 2) := by decide +kernel
theorem dX11_joined_134 : decode cX11_joined 134 = .ok (.istore 4, 2) := by decide +kernel
theorem dX11_joined_136 : decode cX11_joined 136 = .ok (.iinc 6 (-1), 3) := by decide +kernel
theorem dX11_joined_139 : decode cX11_joined 139 = .ok (.goto (-81), 3) := by decide +kernel
theorem dX11_joined_142 : decode cX11_joined 142 = .ok (.iload_n 3, 1) := by decide +kernel
theorem dX11_joined_143 : decode cX11_joined 143 = .ok (.iload 4, 2) := by decide +kernel
theorem dX11_joined_145 : decode cX11_joined 145 = .ok (.bipush (-9), 2) := by decide +kernel
theorem dX11_joined_147 : decode cX11_joined 147 = .ok (.if_icmp .ne 7, 3) := by decide +kernel
theorem dX11_joined_150 : decode cX11_joined 150 = .ok (.iconst 0, 1) := by decide +kernel
theorem dX11_joined_151 : decode cX11_joined 151 = .ok (.goto 7, 3) := by decide +kernel
theorem dX11_joined_154 : decode cX11_joined 154 = .ok (.iconst 1, 1) := by decide +kernel
theorem dX11_joined_155 : decode cX11_joined 155 = .ok (.iload 4, 2) := by decide +kernel
theorem dX11_joined_157 : decode cX11_joined 157 = .ok (.ishl, 1) := by decide +kernel
theorem dX11_joined_158 : decode cX11_joined 158 = .ok (.ior, 1) := by decide +kernel
theorem dX11_joined_159 : decode cX11_joined 159 = .ok (.istore_n 3, 1) := by decide +kernel
theorem dX11_joined_160 : decode cX11_joined 160 = .ok (.aload_n 0, 1) := by decide +kernel
theorem dX11_joined_161 : decode cX11_joined 161 = .ok (.getfield 110, 3) := by decide +kernel
theorem dX11_joined_164 : decode cX11_joined 164 = .ok (.sipush 256, 3) := by decide +kernel
theorem dX11_joined_167 : decode cX11_joined 167 = .ok (.iload 5, 2) := by decide +kernel
theorem dX11_joined_169 : decode cX11_joined 169 = .ok (.imul, 1) := by decide +kernel
theorem dX11_joined_170 : decode cX11_joined 170 = .ok (.sipush 256, 3) := by decide +kernel
theorem dX11_joined_173 : decode cX11_joined 173 = .ok (.iadd, 1) := by decide +kernel
theorem dX11_joined_174 : decode cX11_joined 174 = .ok (.iload_n 3, 1) := by decide +kernel
theorem dX11_joined_175 : decode cX11_joined 175 = .ok (.iadd, 1) := by decide +kernel
theorem dX11_joined_176 : decode cX11_joined 176 = .ok (.iaload, 1) := by decide +kernel
theorem dX11_joined_177 : decode cX11_joined 177 = .ok (.istore_n 2, 1) := by decide +kernel
theorem dX11_joined_178 : decode cX11_joined 178 = .ok (.iinc 5 1, 3) := by decide +kernel
theorem dX11_joined_181 : decode cX11_joined 181 = .ok (.goto (-143), 3) := by decide +kernel
theorem dX11_joined_184 : decode cX11_joined 184 = .ok (.iload 4, 2) := by decide +kernel
theorem dX11_joined_186 : decode cX11_joined 186 = .ok (.ireturn, 1) := by decide +kernel
set_option maxRecDepth 20000 in
theorem ggX11_certain_X11_in : GoodIn wsX11_certain wsX11_in := goodIn_r _ [5] rfl (by decide +kernel)
set_option maxRecDepth 20000 in
theorem gX11_certain_X11_in : GoodIn wsX11_certain (va_wsS RX11 127 yX11_in wsX11_in) := goodIn_app (goodIn_of _ (by decide +kernel)) ggX11_certain_X11_in
set_option maxRecDepth 20000 in
theorem ggX11_certain_X11_layJoin : GoodIn wsX11_certain wsX11_layJoin := goodIn_r _ [9, 1, 10, 11, 12, 13, 14, 4, 15, 16, 17, 18, 19, 20, 21, 22, 23, 24, 25, 26, 27, 28, 29, 30, 31, 32, 33, 34, 35, 36, 37, 38, 39, 40, 41, 42, 43, 44, 45, 46, 47, 48, 49, 50, 51, 52, 53, 54, 55, 56, 57, 58, 59, 60, 61, 62] rfl (by decide +kernel)
set_option maxRecDepth 20000 in
theorem gX11_certain_X11_layJoin : GoodIn wsX11_certain (wsV RX11 260 RX11 yX11_layJoin wsX11_layJoin) := goodIn_app (goodIn_of _ (by decide +kernel)) ggX11_certain_X11_layJoin
theorem dX11_certain_0 : decode cX11_certain 0 = .ok (.iload_n 1, 1) := by decide +kernel
theorem dX11_certain_1 : decode cX11_certain 1 = .ok (.i2l, 1) := by decide +kernel
theorem dX11_certain_2 : decode cX11_certain 2 = .ok (.lconst 0, 1) := by decide +kernel
theorem dX11_certain_3 : decode cX11_certain 3 = .ok (.aload_n 0, 1) := by decide +kernel
theorem dX11_certain_4 : decode cX11_certain 4 = .ok (.getfield 101, 3) := by decide +kernel
theorem dX11_certain_7 : decode cX11_certain 7 = .ok (.iconst 0, 1) := by decide +kernel
theorem dX11_certain_8 : decode cX11_certain 8 = .ok (.iaload, 1) := by decide +kernel
theorem dX11_certain_9 : decode cX11_certain 9 = .ok (.iconst 1, 1) := by decide +kernel
theorem dX11_certain_10 : decode cX11_certain 10 = .ok (.isub, 1) := by decide +kernel
theorem dX11_certain_11 : decode cX11_certain 11 = .ok (.i2l, 1) := by decide +kernel
theorem dX11_certain_12 : decode cX11_certain 12 = .ok (.invokestatic 127, 3) := by decide +kernel
theorem dX11_certain_15 : decode cX11_certain 15 = .ok (.ifCond .ne 5, 3) := by decide +kernel
theorem dX11_certain_18 : decode cX11_certain 18 = .ok (.iconst (-1), 1) := by decide +kernel
theorem dX11_certain_19 : decode cX11_certain 19 = .ok (.ireturn, 1) := by decide +kernel
theorem dX11_certain_20 : decode cX11_certain 20 = .ok (.aload_n 0, 1) := by decide +kernel
theorem dX11_certain_21 : decode cX11_certain 21 = .ok (.bipush (-9), 2) := by decide +kernel
theorem dX11_certain_23 : decode cX11_certain 23 = .ok (.bipush (-9), 2) := by decide +kernel
theorem dX11_certain_25 : decode cX11_certain 25 = .ok (.invokevirtual 260, 3) := by decide +kernel
theorem dX11_certain_28 : decode cX11_certain 28 = .ok (.istore_n 2, 1) := by decide +kernel
theorem dX11_certain_29 : decode cX11_certain 29 = .ok (.iconst 0, 1) := by decide +kernel
theorem dX11_certain_30 : decode cX11_certain 30 = .ok (.istore_n 3, 1) := by decide +kernel
theorem dX11_certain_31 : decode cX11_certain 31 = .ok (.iconst 0, 1) := by decide +kernel
theorem dX11_certain_32 : decode cX11_certain 32 = .ok (.istore 4, 2) := by decide +kernel
theorem dX11_certain_34 : decode cX11_certain 34 = .ok (.iload 4, 2) := by decide +kernel
theorem dX11_certain_36 : decode cX11_certain 36 = .ok (.bipush 8, 2) := by decide +kernel
theorem dX11_certain_38 : decode cX11_certain 38 = .ok (.if_icmp .gt 46, 3) := by decide +kernel
theorem dX11_certain_41 : decode cX11_certain 41 = .ok (.iload_n 3, 1) := by decide +kernel
theorem dX11_certain_42 : decode cX11_certain 42 = .ok (.iload 4, 2) := by decide +kernel
theorem dX11_certain_44 : decode cX11_certain 44 = .ok (.bipush 8, 2) := by decide +kernel
theorem dX11_certain_46 : decode cX11_certain 46 = .ok (.if_icmp .eq 14, 3) := by decide +kernel
theorem dX11_certain_49 : decode cX11_certain 49 = .ok (.iload 4, 2) := by decide +kernel
theorem dX11_certain_51 : decode cX11_certain 51 = .ok (.aload_n 0, 1) := by decide +kernel
theorem dX11_certain_52 : decode cX11_certain 52 = .ok (.getfield 101, 3) := by decide +kernel
theorem dX11_certain_55 : decode cX11_certain 55 = .ok (.iconst 1, 1) := by decide +kernel
theorem dX11_certain_56 : decode cX11_certain 56 = .ok (.iaload, 1) := by decide +kernel
theorem dX11_certain_57 : decode cX11_certain 57 = .ok (.if_icmp .ge 18, 3) := by decide +kernel
theorem dX11_certain_60 : decode cX11_certain 60 = .ok (.aload_n 0, 1) := by decide +kernel
theorem dX11_certain_61 : decode cX11_certain 61 = .ok (.iload_n 1, 1) := by decide +kernel
theorem dX11_certain_62 : decode cX11_certain 62 = .ok (.iload 4, 2) := by decide +kernel
theorem dX11_certain_64 : decode cX11_certain 64 = .ok (.invokevirtual 260, 3) := by decide +kernel
theorem dX11_certain_67 : decode cX11_certain 67 = .ok (.iload_n 2, 1) := by decide +kernel
theorem dX11_certain_68 : decode cX11_certain 68 = .ok (.if_icmp .ne 7, 3) := by decide +kernel
theorem dX11_certain_71 : decode cX11_certain 71 = .ok (.iconst 1, 1) := by decide +kernel
theorem dX11_certain_72 : decode cX11_certain 72 = .ok (.goto 4, 3) := by decide +kernel
theorem dX11_certain_75 : decode cX11_certain 75 = .ok (.iconst 0, 1) := by decide +kernel
theorem dX11_certain_76 : decode cX11_certain 76 = .ok (.iadd, 1) := by decide +kernel
theorem dX11_certain_77 : decode cX11_certain 77 = .ok (.istore_n 3, 1) := by decide +kernel
theorem dX11_certain_78 : decode cX11_certain 78 = .ok (.iinc 4 1, 3) := by decide +kernel
theorem dX11_certain_81 : decode cX11_certain 81 = .ok (.goto (-47), 3) := by decide +kernel
theorem dX11_certain_84 : decode cX11_certain 84 = .ok (.iload_n 3, 1) := by decide +kernel
theorem dX11_certain_85 : decode cX11_certain 85 = .ok (.iconst 1, 1) := by decide +kernel
theorem dX11_certain_86 : decode cX11_certain 86 = .ok (.if_icmp .ne 7, 3) := by decide +kernel
theorem dX11_certain_89 : decode cX11_certain 89 = .ok (.iconst 1, 1) := by decide +kernel
theorem dX11_certain_90 : decode cX11_certain 90 = .ok (.goto 4, 3) := by decide +kernel
theorem dX11_certain_93 : decode cX11_certain 93 = .ok (.iconst 0, 1) := by decide +kernel
theorem dX11_certain_94 : decode cX11_certain 94 = .ok (.ireturn, 1) := by decide +kernel
set_option maxRecDepth 20000 in
theorem ggX11_areBags_X11_in : GoodIn wsX11_areBags wsX11_in := goodIn_r _ [5] rfl (by decide +kernel)
set_option maxRecDepth 20000 in
theorem gX11_areBags_X11_in : GoodIn wsX11_areBags (va_wsS RX11 127 yX11_in wsX11_in) := goodIn_app (goodIn_of _ (by decide +kernel)) ggX11_areBags_X11_in
theorem dX11_areBags_0 : decode cX11_areBags 0 = .ok (.iload_n 0, 1) := by decide +kernel
theorem dX11_areBags_1 : decode cX11_areBags 1 = .ok (.i2l, 1) := by decide +kernel
theorem dX11_areBags_2 : decode cX11_areBags 2 = .ok (.lconst 1, 1) := by decide +kernel
theorem dX11_areBags_3 : decode cX11_areBags 3 = .ok (.ldc2_w 266, 3) := by decide +kernel
theorem dX11_areBags_6 : decode cX11_areBags 6 = .ok (.invokestatic 127, 3) := by decide +kernel
theorem dX11_areBags_9 : decode cX11_areBags 9 = .ok (.ifCond .eq 29, 3) := by decide +kernel
theorem dX11_areBags_12 : decode cX11_areBags 12 = .ok (.iload_n 1, 1) := by decide +kernel
theorem dX11_areBags_13 : decode cX11_areBags 13 = .ok (.i2l, 1) := by decide +kernel
theorem dX11_areBags_14 : decode cX11_areBags 14 = .ok (.lconst 1, 1) := by decide +kernel
theorem dX11_areBags_15 : decode cX11_areBags 15 = .ok (.iload_n 0, 1) := by decide +kernel
theorem dX11_areBags_16 : decode cX11_areBags 16 = .ok (.i2l, 1) := by decide +kernel
theorem dX11_areBags_17 : decode cX11_areBags 17 = .ok (.invokestatic 127, 3) := by decide +kernel
theorem dX11_areBags_20 : decode cX11_areBags 20 = .ok (.ifCond .eq 18, 3) := by decide +kernel
theorem dX11_areBags_23 : decode cX11_areBags 23 = .ok (.iload_n 2, 1) := by decide +kernel
theorem dX11_areBags_24 : decode cX11_areBags 24 = .ok (.i2l, 1) := by decide +kernel
theorem dX11_areBags_25 : decode cX11_areBags 25 = .ok (.lconst 0, 1) := by decide +kernel
theorem dX11_areBags_26 : decode cX11_areBags 26 = .ok (.iload_n 1, 1) := by decide +kernel
theorem dX11_areBags_27 : decode cX11_areBags 27 = .ok (.i2l, 1) := by decide +kernel
theorem dX11_areBags_28 : decode cX11_areBags 28 = .ok (.invokestatic 127, 3) := by decide +kernel
theorem dX11_areBags_31 : decode cX11_areBags 31 = .ok (.ifCond .eq 7, 3) := by decide +kernel
theorem dX11_areBags_34 : decode cX11_areBags 34 = .ok (.iconst 1, 1) := by decide +kernel
theorem dX11_areBags_35 : decode cX11_areBags 35 = .ok (.goto 4, 3) := by decide +kernel
theorem dX11_areBags_38 : decode cX11_areBags 38 = .ok (.iconst 0, 1) := by decide +kernel
theorem dX11_areBags_39 : decode cX11_areBags 39 = .ok (.ireturn, 1) := by decide +kernel
theorem dX11_waysOf_0 : decode cX11_waysOf 0 = .ok (.iload_n 3, 1) := by decide +kernel
theorem dX11_waysOf_1 : decode cX11_waysOf 1 = .ok (.iload 4, 2) := by decide +kernel
theorem dX11_waysOf_3 : decode cX11_waysOf 3 = .ok (.if_icmp .gt 13, 3) := by decide +kernel
theorem dX11_waysOf_6 : decode cX11_waysOf 6 = .ok (.iload_n 2, 1) := by decide +kernel
theorem dX11_waysOf_7 : decode cX11_waysOf 7 = .ok (.iload_n 3, 1) := by decide +kernel
theorem dX11_waysOf_8 : decode cX11_waysOf 8 = .ok (.isub, 1) := by decide +kernel
theorem dX11_waysOf_9 : decode cX11_waysOf 9 = .ok (.iload_n 1, 1) := by decide +kernel
theorem dX11_waysOf_10 : decode cX11_waysOf 10 = .ok (.iload 4, 2) := by decide +kernel
theorem dX11_waysOf_12 : decode cX11_waysOf 12 = .ok (.isub, 1) := by decide +kernel
theorem dX11_waysOf_13 : decode cX11_waysOf 13 = .ok (.if_icmp .le 7, 3) := by decide +kernel
theorem dX11_waysOf_16 : decode cX11_waysOf 16 = .ok (.lconst 0, 1) := by decide +kernel
theorem dX11_waysOf_17 : decode cX11_waysOf 17 = .ok (.goto 32, 3) := by decide +kernel
theorem dX11_waysOf_20 : decode cX11_waysOf 20 = .ok (.aload_n 0, 1) := by decide +kernel
theorem dX11_waysOf_21 : decode cX11_waysOf 21 = .ok (.getfield 113, 3) := by decide +kernel
theorem dX11_waysOf_24 : decode cX11_waysOf 24 = .ok (.bipush 61, 2) := by decide +kernel
theorem dX11_waysOf_26 : decode cX11_waysOf 26 = .ok (.iload 4, 2) := by decide +kernel
theorem dX11_waysOf_28 : decode cX11_waysOf 28 = .ok (.imul, 1) := by decide +kernel
theorem dX11_waysOf_29 : decode cX11_waysOf 29 = .ok (.iload_n 3, 1) := by decide +kernel
theorem dX11_waysOf_30 : decode cX11_waysOf 30 = .ok (.iadd, 1) := by decide +kernel
theorem dX11_waysOf_31 : decode cX11_waysOf 31 = .ok (.laload, 1) := by decide +kernel
theorem dX11_waysOf_32 : decode cX11_waysOf 32 = .ok (.aload_n 0, 1) := by decide +kernel
theorem dX11_waysOf_33 : decode cX11_waysOf 33 = .ok (.getfield 113, 3) := by decide +kernel
theorem dX11_waysOf_36 : decode cX11_waysOf 36 = .ok (.bipush 61, 2) := by decide +kernel
theorem dX11_waysOf_38 : decode cX11_waysOf 38 = .ok (.iload_n 1, 1) := by decide +kernel
theorem dX11_waysOf_39 : decode cX11_waysOf 39 = .ok (.iload 4, 2) := by decide +kernel
theorem dX11_waysOf_41 : decode cX11_waysOf 41 = .ok (.isub, 1) := by decide +kernel
theorem dX11_waysOf_42 : decode cX11_waysOf 42 = .ok (.imul, 1) := by decide +kernel
theorem dX11_waysOf_43 : decode cX11_waysOf 43 = .ok (.iload_n 2, 1) := by decide +kernel
theorem dX11_waysOf_44 : decode cX11_waysOf 44 = .ok (.iadd, 1) := by decide +kernel
theorem dX11_waysOf_45 : decode cX11_waysOf 45 = .ok (.iload_n 3, 1) := by decide +kernel
theorem dX11_waysOf_46 : decode cX11_waysOf 46 = .ok (.isub, 1) := by decide +kernel
theorem dX11_waysOf_47 : decode cX11_waysOf 47 = .ok (.laload, 1) := by decide +kernel
theorem dX11_waysOf_48 : decode cX11_waysOf 48 = .ok (.lmul, 1) := by decide +kernel
theorem dX11_waysOf_49 : decode cX11_waysOf 49 = .ok (.lreturn, 1) := by decide +kernel
set_option maxRecDepth 20000 in
theorem ggX11_isDoubted_X11_waysOf : GoodIn wsX11_isDoubted wsX11_waysOf := goodIn_r _ [7, 1, 8, 9, 10, 11, 12, 13, 14, 15, 16, 17, 18, 19, 20, 21, 22, 23, 24, 25, 26, 27, 28, 29, 30, 31, 32, 33, 34, 35, 36, 37, 38, 39, 40, 41, 42, 43, 44, 45, 46, 47, 48, 49, 50, 51, 52] rfl (by decide +kernel)
set_option maxRecDepth 20000 in
theorem gX11_isDoubted_X11_waysOf : GoodIn wsX11_isDoubted (wsV RX11 268 RX11 yX11_waysOf wsX11_waysOf) := goodIn_app (goodIn_of _ (by decide +kernel)) ggX11_isDoubted_X11_waysOf
theorem dX11_isDoubted_0 : decode cX11_isDoubted 0 = .ok (.lconst 0, 1) := by decide +kernel
theorem dX11_isDoubted_1 : decode cX11_isDoubted 1 = .ok (.lstore 5, 2) := by decide +kernel
theorem dX11_isDoubted_3 : decode cX11_isDoubted 3 = .ok (.lconst 0, 1) := by decide +kernel
theorem dX11_isDoubted_4 : decode cX11_isDoubted 4 = .ok (.lstore 7, 2) := by decide +kernel
theorem dX11_isDoubted_6 : decode cX11_isDoubted 6 = .ok (.iconst 0, 1) := by decide +kernel
theorem dX11_isDoubted_7 : decode cX11_isDoubted 7 = .ok (.istore 9, 2) := by decide +kernel
theorem dX11_isDoubted_9 : decode cX11_isDoubted 9 = .ok (.iload 9, 2) := by decide +kernel
theorem dX11_isDoubted_11 : decode cX11_isDoubted 11 = .ok (.iload_n 2, 1) := by decide +kernel
theorem dX11_isDoubted_12 : decode cX11_isDoubted 12 = .ok (.if_icmp .gt 59, 3) := by decide +kernel
theorem dX11_isDoubted_15 : decode cX11_isDoubted 15 = .ok (.lload 5, 2) := by decide +kernel
theorem dX11_isDoubted_17 : decode cX11_isDoubted 17 = .ok (.iload 9, 2) := by decide +kernel
theorem dX11_isDoubted_19 : decode cX11_isDoubted 19 = .ok (.iload_n 3, 1) := by decide +kernel
theorem dX11_isDoubted_20 : decode cX11_isDoubted 20 = .ok (.if_icmp .gt 16, 3) := by decide +kernel
theorem dX11_isDoubted_23 : decode cX11_isDoubted 23 = .ok (.aload_n 0, 1) := by decide +kernel
theorem dX11_isDoubted_24 : decode cX11_isDoubted 24 = .ok (.iload_n 1, 1) := by decide +kernel
theorem dX11_isDoubted_25 : decode cX11_isDoubted 25 = .ok (.iload_n 2, 1) := by decide +kernel
theorem dX11_isDoubted_26 : decode cX11_isDoubted 26 = .ok (.iload 9, 2) := by decide +kernel
theorem dX11_isDoubted_28 : decode cX11_isDoubted 28 = .ok (.iload 4, 2) := by decide +kernel
theorem dX11_isDoubted_30 : decode cX11_isDoubted 30 = .ok (.invokevirtual 268, 3) := by decide +kernel
theorem dX11_isDoubted_33 : decode cX11_isDoubted 33 = .ok (.goto 4, 3) := by decide +kernel
theorem dX11_isDoubted_36 : decode cX11_isDoubted 36 = .ok (.lconst 0, 1) := by decide +kernel
theorem dX11_isDoubted_37 : decode cX11_isDoubted 37 = .ok (.ladd, 1) := by decide +kernel
theorem dX11_isDoubted_38 : decode cX11_isDoubted 38 = .ok (.lstore 5, 2) := by decide +kernel
theorem dX11_isDoubted_40 : decode cX11_isDoubted 40 = .ok (.lload 7, 2) := by decide +kernel
theorem dX11_isDoubted_42 : decode cX11_isDoubted 42 = .ok (.iload 9, 2) := by decide +kernel
theorem dX11_isDoubted_44 : decode cX11_isDoubted 44 = .ok (.iload_n 3, 1) := by decide +kernel
theorem dX11_isDoubted_45 : decode cX11_isDoubted 45 = .ok (.if_icmp .lt 16, 3) := by decide +kernel
theorem dX11_isDoubted_48 : decode cX11_isDoubted 48 = .ok (.aload_n 0, 1) := by decide +kernel
theorem dX11_isDoubted_49 : decode cX11_isDoubted 49 = .ok (.iload_n 1, 1) := by decide +kernel
theorem dX11_isDoubted_50 : decode cX11_isDoubted 50 = .ok (.iload_n 2, 1) := by decide +kernel
theorem dX11_isDoubted_51 : decode cX11_isDoubted 51 = .ok (.iload 9, 2) := by decide +kernel
theorem dX11_isDoubted_53 : decode cX11_isDoubted 53 = .ok (.iload 4, 2) := by decide +kernel
theorem dX11_isDoubted_55 : decode cX11_isDoubted 55 = .ok (.invokevirtual 268, 3) := by decide +kernel
theorem dX11_isDoubted_58 : decode cX11_isDoubted 58 = .ok (.goto 4, 3) := by decide +kernel
theorem dX11_isDoubted_61 : decode cX11_isDoubted 61 = .ok (.lconst 0, 1) := by decide +kernel
theorem dX11_isDoubted_62 : decode cX11_isDoubted 62 = .ok (.ladd, 1) := by decide +kernel
theorem dX11_isDoubted_63 : decode cX11_isDoubted 63 = .ok (.lstore 7, 2) := by decide +kernel
theorem dX11_isDoubted_65 : decode cX11_isDoubted 65 = .ok (.iinc 9 1, 3) := by decide +kernel
theorem dX11_isDoubted_68 : decode cX11_isDoubted 68 = .ok (.goto (-59), 3) := by decide +kernel
theorem dX11_isDoubted_71 : decode cX11_isDoubted 71 = .ok (.aload_n 0, 1) := by decide +kernel
theorem dX11_isDoubted_72 : decode cX11_isDoubted 72 = .ok (.getfield 113, 3) := by decide +kernel
theorem dX11_isDoubted_75 : decode cX11_isDoubted 75 = .ok (.bipush 61, 2) := by decide +kernel
theorem dX11_isDoubted_77 : decode cX11_isDoubted 77 = .ok (.iload_n 1, 1) := by decide +kernel
theorem dX11_isDoubted_78 : decode cX11_isDoubted 78 = .ok (.imul, 1) := by decide +kernel
theorem dX11_isDoubted_79 : decode cX11_isDoubted 79 = .ok (.iload_n 2, 1) := by decide +kernel
theorem dX11_isDoubted_80 : decode cX11_isDoubted 80 = .ok (.iadd, 1) := by decide +kernel
theorem dX11_isDoubted_81 : decode cX11_isDoubted 81 = .ok (.laload, 1) := by decide +kernel
theorem dX11_isDoubted_82 : decode cX11_isDoubted 82 = .ok (.lstore 9, 2) := by decide +kernel
theorem dX11_isDoubted_84 : decode cX11_isDoubted 84 = .ok (.ldc2_w 272, 3) := by decide +kernel
theorem dX11_isDoubted_87 : decode cX11_isDoubted 87 = .ok (.lload 5, 2) := by decide +kernel
theorem dX11_isDoubted_89 : decode cX11_isDoubted 89 = .ok (.lmul, 1) := by decide +kernel
theorem dX11_isDoubted_90 : decode cX11_isDoubted 90 = .ok (.lload 9, 2) := by decide +kernel
theorem dX11_isDoubted_92 : decode cX11_isDoubted 92 = .ok (.lcmp, 1) := by decide +kernel
theorem dX11_isDoubted_93 : decode cX11_isDoubted 93 = .ok (.ifCond .lt 15, 3) := by decide +kernel
theorem dX11_isDoubted_96 : decode cX11_isDoubted 96 = .ok (.ldc2_w 272, 3) := by decide +kernel
theorem dX11_isDoubted_99 : decode cX11_isDoubted 99 = .ok (.lload 7, 2) := by decide +kernel
theorem dX11_isDoubted_101 : decode cX11_isDoubted 101 = .ok (.lmul, 1) := by decide +kernel
theorem dX11_isDoubted_102 : decode cX11_isDoubted 102 = .ok (.lload 9, 2) := by decide +kernel
theorem dX11_isDoubted_104 : decode cX11_isDoubted 104 = .ok (.lcmp, 1) := by decide +kernel
theorem dX11_isDoubted_105 : decode cX11_isDoubted 105 = .ok (.ifCond .ge 7, 3) := by decide +kernel
theorem dX11_isDoubted_108 : decode cX11_isDoubted 108 = .ok (.iconst 1, 1) := by decide +kernel
theorem dX11_isDoubted_109 : decode cX11_isDoubted 109 = .ok (.goto 4, 3) := by decide +kernel
theorem dX11_isDoubted_112 : decode cX11_isDoubted 112 = .ok (.iconst 0, 1) := by decide +kernel
theorem dX11_isDoubted_113 : decode cX11_isDoubted 113 = .ok (.ireturn, 1) := by decide +kernel
set_option maxRecDepth 20000 in
theorem ggX11_doubted_X11_areBags : GoodIn wsX11_doubted wsX11_areBags := goodIn_r _ [4, 5, 6, 7, 3, 8] rfl (by decide +kernel)
set_option maxRecDepth 20000 in
theorem gX11_doubted_X11_areBags : GoodIn wsX11_doubted (va_wsS RX11 274 yX11_areBags wsX11_areBags) := goodIn_app (goodIn_of _ (by decide +kernel)) ggX11_doubted_X11_areBags
set_option maxRecDepth 20000 in
theorem ggX11_doubted_X11_in : GoodIn wsX11_doubted wsX11_in := goodIn_r _ [8] rfl (by decide +kernel)
set_option maxRecDepth 20000 in
theorem gX11_doubted_X11_in : GoodIn wsX11_doubted (va_wsS RX11 127 yX11_in wsX11_in) := goodIn_app (goodIn_of _ (by decide +kernel)) ggX11_doubted_X11_in
set_option maxRecDepth 20000 in
theorem ggX11_doubted_X11_isDoubted : GoodIn wsX11_doubted wsX11_isDoubted := goodIn_r _ [12, 13, 14, 15, 16, 17, 3, 18, 19, 20, 21, 22, 23, 24, 25, 26, 27, 28, 29, 30, 31, 32, 33, 34, 35, 36, 37, 38, 39, 40, 41, 42, 43, 44, 45, 46, 47, 48, 49, 50, 51, 52, 53, 54, 55, 56, 57, 58, 59, 60, 61, 62, 63] rfl (by decide +kernel)
set_option maxRecDepth 20000 in
theorem gX11_doubted_X11_isDoubted : GoodIn wsX11_doubted (wsV RX11 277 RX11 yX11_isDoubted wsX11_isDoubted) := goodIn_app (goodIn_of _ (by decide +kernel)) ggX11_doubted_X11_isDoubted
theorem dX11_doubted_0 : decode cX11_doubted 0 = .ok (.iload_n 1, 1) := by decide +kernel
theorem dX11_doubted_1 : decode cX11_doubted 1 = .ok (.iload_n 2, 1) := by decide +kernel
theorem dX11_doubted_2 : decode cX11_doubted 2 = .ok (.iload_n 3, 1) := by decide +kernel
theorem dX11_doubted_3 : decode cX11_doubted 3 = .ok (.invokestatic 274, 3) := by decide +kernel
theorem dX11_doubted_6 : decode cX11_doubted 6 = .ok (.ifCond .eq 40, 3) := by decide +kernel
theorem dX11_doubted_9 : decode cX11_doubted 9 = .ok (.iload 4, 2) := by decide +kernel
theorem dX11_doubted_11 : decode cX11_doubted 11 = .ok (.i2l, 1) := by decide +kernel
theorem dX11_doubted_12 : decode cX11_doubted 12 = .ok (.iload_n 3, 1) := by decide +kernel
theorem dX11_doubted_13 : decode cX11_doubted 13 = .ok (.i2l, 1) := by decide +kernel
theorem dX11_doubted_14 : decode cX11_doubted 14 = .ok (.iload_n 1, 1) := by decide +kernel
theorem dX11_doubted_15 : decode cX11_doubted 15 = .ok (.iload_n 2, 1) := by decide +kernel
theorem dX11_doubted_16 : decode cX11_doubted 16 = .ok (.isub, 1) := by decide +kernel
theorem dX11_doubted_17 : decode cX11_doubted 17 = .ok (.iload_n 3, 1) := by decide +kernel
theorem dX11_doubted_18 : decode cX11_doubted 18 = .ok (.iadd, 1) := by decide +kernel
theorem dX11_doubted_19 : decode cX11_doubted 19 = .ok (.i2l, 1) := by decide +kernel
theorem dX11_doubted_20 : decode cX11_doubted 20 = .ok (.invokestatic 127, 3) := by decide +kernel
theorem dX11_doubted_23 : decode cX11_doubted 23 = .ok (.ifCond .eq 23, 3) := by decide +kernel
theorem dX11_doubted_26 : decode cX11_doubted 26 = .ok (.aload_n 0, 1) := by decide +kernel
theorem dX11_doubted_27 : decode cX11_doubted 27 = .ok (.iload_n 1, 1) := by decide +kernel
theorem dX11_doubted_28 : decode cX11_doubted 28 = .ok (.iload_n 2, 1) := by decide +kernel
theorem dX11_doubted_29 : decode cX11_doubted 29 = .ok (.iload_n 3, 1) := by decide +kernel
theorem dX11_doubted_30 : decode cX11_doubted 30 = .ok (.iload 4, 2) := by decide +kernel
theorem dX11_doubted_32 : decode cX11_doubted 32 = .ok (.invokevirtual 277, 3) := by decide +kernel
theorem dX11_doubted_35 : decode cX11_doubted 35 = .ok (.ifCond .eq 7, 3) := by decide +kernel
theorem dX11_doubted_38 : decode cX11_doubted 38 = .ok (.iconst 1, 1) := by decide +kernel
theorem dX11_doubted_39 : decode cX11_doubted 39 = .ok (.goto 9, 3) := by decide +kernel
theorem dX11_doubted_42 : decode cX11_doubted 42 = .ok (.iconst 0, 1) := by decide +kernel
theorem dX11_doubted_43 : decode cX11_doubted 43 = .ok (.goto 5, 3) := by decide +kernel
theorem dX11_doubted_46 : decode cX11_doubted 46 = .ok (.bipush (-2), 2) := by decide +kernel
theorem dX11_doubted_48 : decode cX11_doubted 48 = .ok (.ireturn, 1) := by decide +kernel
set_option maxRecDepth 20000 in
theorem ggX11_bound_X11_areBags : GoodIn wsX11_bound wsX11_areBags := goodIn_r _ [4, 5, 6, 7, 3, 8] rfl (by decide +kernel)
set_option maxRecDepth 20000 in
theorem gX11_bound_X11_areBags : GoodIn wsX11_bound (va_wsS RX11 274 yX11_areBags wsX11_areBags) := goodIn_app (goodIn_of _ (by decide +kernel)) ggX11_bound_X11_areBags
set_option maxRecDepth 20000 in
theorem ggX11_bound_X11_isDoubted : GoodIn wsX11_bound wsX11_isDoubted := goodIn_r _ [12, 13, 14, 15, 16, 17, 3, 18, 19, 20, 21, 22, 23, 24, 25, 26, 27, 28, 29, 30, 31, 32, 33, 34, 35, 36, 37, 38, 39, 40, 41, 42, 43, 44, 45, 46, 47, 48, 49, 50, 51, 52, 53, 54, 55, 56, 57, 58, 59, 60, 61, 62, 63] rfl (by decide +kernel)
set_option maxRecDepth 20000 in
theorem gX11_bound_X11_isDoubted : GoodIn wsX11_bound (wsV RX11 277 RX11 yX11_isDoubted wsX11_isDoubted) := goodIn_app (goodIn_of _ (by decide +kernel)) ggX11_bound_X11_isDoubted
theorem dX11_bound_0 : decode cX11_bound 0 = .ok (.iload_n 1, 1) := by decide +kernel
theorem dX11_bound_1 : decode cX11_bound 1 = .ok (.iload_n 2, 1) := by decide +kernel
theorem dX11_bound_2 : decode cX11_bound 2 = .ok (.iload_n 3, 1) := by decide +kernel
theorem dX11_bound_3 : decode cX11_bound 3 = .ok (.invokestatic 274, 3) := by decide +kernel
theorem dX11_bound_6 : decode cX11_bound 6 = .ok (.ifCond .ne 6, 3) := by decide +kernel
theorem dX11_bound_9 : decode cX11_bound 9 = .ok (.bipush (-2), 2) := by decide +kernel
theorem dX11_bound_11 : decode cX11_bound 11 = .ok (.ireturn, 1) := by decide +kernel
theorem dX11_bound_12 : decode cX11_bound 12 = .ok (.bipush (-9), 2) := by decide +kernel
theorem dX11_bound_14 : decode cX11_bound 14 = .ok (.istore 5, 2) := by decide +kernel
theorem dX11_bound_16 : decode cX11_bound 16 = .ok (.iload_n 3, 1) := by decide +kernel
theorem dX11_bound_17 : decode cX11_bound 17 = .ok (.istore 6, 2) := by decide +kernel
theorem dX11_bound_19 : decode cX11_bound 19 = .ok (.iload 6, 2) := by decide +kernel
theorem dX11_bound_21 : decode cX11_bound 21 = .ok (.iload_n 1, 1) := by decide +kernel
theorem dX11_bound_22 : decode cX11_bound 22 = .ok (.iload_n 2, 1) := by decide +kernel
theorem dX11_bound_23 : decode cX11_bound 23 = .ok (.isub, 1) := by decide +kernel
theorem dX11_bound_24 : decode cX11_bound 24 = .ok (.iload_n 3, 1) := by decide +kernel
theorem dX11_bound_25 : decode cX11_bound 25 = .ok (.iadd, 1) := by decide +kernel
theorem dX11_bound_26 : decode cX11_bound 26 = .ok (.if_icmp .gt 54, 3) := by decide +kernel
theorem dX11_bound_29 : decode cX11_bound 29 = .ok (.aload_n 0, 1) := by decide +kernel
theorem dX11_bound_30 : decode cX11_bound 30 = .ok (.iload_n 1, 1) := by decide +kernel
theorem dX11_bound_31 : decode cX11_bound 31 = .ok (.iload_n 2, 1) := by decide +kernel
theorem dX11_bound_32 : decode cX11_bound 32 = .ok (.iload_n 3, 1) := by decide +kernel
theorem dX11_bound_33 : decode cX11_bound 33 = .ok (.iload 6, 2) := by decide +kernel
theorem dX11_bound_35 : decode cX11_bound 35 = .ok (.invokevirtual 277, 3) := by decide +kernel
theorem dX11_bound_38 : decode cX11_bound 38 = .ok (.ifCond .ne 19, 3) := by decide +kernel
theorem dX11_bound_41 : decode cX11_bound 41 = .ok (.iload 4, 2) := by decide +kernel
theorem dX11_bound_43 : decode cX11_bound 43 = .ok (.ifCond .ne 10, 3) := by decide +kernel
theorem dX11_bound_46 : decode cX11_bound 46 = .ok (.iload 5, 2) := by decide +kernel
theorem dX11_bound_48 : decode cX11_bound 48 = .ok (.bipush (-9), 2) := by decide +kernel
theorem dX11_bound_50 : decode cX11_bound 50 = .ok (.if_icmp .ne 7, 3) := by decide +kernel
theorem dX11_bound_53 : decode cX11_bound 53 = .ok (.iconst 1, 1) := by decide +kernel
theorem dX11_bound_54 : decode cX11_bound 54 = .ok (.goto 4, 3) := by decide +kernel
theorem dX11_bound_57 : decode cX11_bound 57 = .ok (.iconst 0, 1) := by decide +kernel
theorem dX11_bound_58 : decode cX11_bound 58 = .ok (.istore 7, 2) := by decide +kernel
theorem dX11_bound_60 : decode cX11_bound 60 = .ok (.iload 7, 2) := by decide +kernel
theorem dX11_bound_62 : decode cX11_bound 62 = .ok (.ifCond .eq 8, 3) := by decide +kernel
theorem dX11_bound_65 : decode cX11_bound 65 = .ok (.iload 6, 2) := by decide +kernel
theorem dX11_bound_67 : decode cX11_bound 67 = .ok (.goto 5, 3) := by decide +kernel
theorem dX11_bound_70 : decode cX11_bound 70 = .ok (.iload 5, 2) := by decide +kernel
theorem dX11_bound_72 : decode cX11_bound 72 = .ok (.istore 5, 2) := by decide +kernel
theorem dX11_bound_74 : decode cX11_bound 74 = .ok (.iinc 6 1, 3) := by decide +kernel
theorem dX11_bound_77 : decode cX11_bound 77 = .ok (.goto (-58), 3) := by decide +kernel
theorem dX11_bound_80 : decode cX11_bound 80 = .ok (.iload 5, 2) := by decide +kernel
theorem dX11_bound_82 : decode cX11_bound 82 = .ok (.ireturn, 1) := by decide +kernel
set_option maxRecDepth 20000 in
theorem ggX11_broke_X11_in : GoodIn wsX11_broke wsX11_in := goodIn_r _ [11] rfl (by decide +kernel)
set_option maxRecDepth 20000 in
theorem gX11_broke_X11_in : GoodIn wsX11_broke (va_wsS RX11 127 yX11_in wsX11_in) := goodIn_app (goodIn_of _ (by decide +kernel)) ggX11_broke_X11_in
theorem dX11_broke_0 : decode cX11_broke 0 = .ok (.iload_n 1, 1) := by decide +kernel
theorem dX11_broke_1 : decode cX11_broke 1 = .ok (.i2l, 1) := by decide +kernel
theorem dX11_broke_2 : decode cX11_broke 2 = .ok (.lconst 0, 1) := by decide +kernel
theorem dX11_broke_3 : decode cX11_broke 3 = .ok (.ldc2_w 147, 3) := by decide +kernel
theorem dX11_broke_6 : decode cX11_broke 6 = .ok (.invokestatic 127, 3) := by decide +kernel
theorem dX11_broke_9 : decode cX11_broke 9 = .ok (.ifCond .eq 27, 3) := by decide +kernel
theorem dX11_broke_12 : decode cX11_broke 12 = .ok (.iload_n 2, 1) := by decide +kernel
theorem dX11_broke_13 : decode cX11_broke 13 = .ok (.i2l, 1) := by decide +kernel
theorem dX11_broke_14 : decode cX11_broke 14 = .ok (.lconst 0, 1) := by decide +kernel
theorem dX11_broke_15 : decode cX11_broke 15 = .ok (.ldc2_w 174, 3) := by decide +kernel
theorem dX11_broke_18 : decode cX11_broke 18 = .ok (.invokestatic 127, 3) := by decide +kernel
theorem dX11_broke_21 : decode cX11_broke 21 = .ok (.ifCond .eq 15, 3) := by decide +kernel
theorem dX11_broke_24 : decode cX11_broke 24 = .ok (.iload_n 3, 1) := by decide +kernel
theorem dX11_broke_25 : decode cX11_broke 25 = .ok (.i2l, 1) := by decide +kernel
theorem dX11_broke_26 : decode cX11_broke 26 = .ok (.lconst 1, 1) := by decide +kernel
theorem dX11_broke_27 : decode cX11_broke 27 = .ok (.ldc2_w 180, 3) := by decide +kernel
theorem dX11_broke_30 : decode cX11_broke 30 = .ok (.invokestatic 127, 3) := by decide +kernel
theorem dX11_broke_33 : decode cX11_broke 33 = .ok (.ifCond .ne 6, 3) := by decide +kernel
theorem dX11_broke_36 : decode cX11_broke 36 = .ok (.bipush (-2), 2) := by decide +kernel
theorem dX11_broke_38 : decode cX11_broke 38 = .ok (.ireturn, 1) := by decide +kernel
theorem dX11_broke_39 : decode cX11_broke 39 = .ok (.aload_n 0, 1) := by decide +kernel
theorem dX11_broke_40 : decode cX11_broke 40 = .ok (.getfield 281, 3) := by decide +kernel
theorem dX11_broke_43 : decode cX11_broke 43 = .ok (.bipush 60, 2) := by decide +kernel
theorem dX11_broke_45 : decode cX11_broke 45 = .ok (.if_icmp .ne 6, 3) := by decide +kernel
theorem dX11_broke_48 : decode cX11_broke 48 = .ok (.bipush (-4), 2) := by decide +kernel
theorem dX11_broke_50 : decode cX11_broke 50 = .ok (.ireturn, 1) := by decide +kernel
theorem dX11_broke_51 : decode cX11_broke 51 = .ok (.aload_n 0, 1) := by decide +kernel
theorem dX11_broke_52 : decode cX11_broke 52 = .ok (.getfield 116, 3) := by decide +kernel
theorem dX11_broke_55 : decode cX11_broke 55 = .ok (.aload_n 0, 1) := by decide +kernel
theorem dX11_broke_56 : decode cX11_broke 56 = .ok (.getfield 281, 3) := by decide +kernel
theorem dX11_broke_59 : decode cX11_broke 59 = .ok (.iload_n 1, 1) := by decide +kernel
theorem dX11_broke_60 : decode cX11_broke 60 = .ok (.iastore, 1) := by decide +kernel
theorem dX11_broke_61 : decode cX11_broke 61 = .ok (.aload_n 0, 1) := by decide +kernel
theorem dX11_broke_62 : decode cX11_broke 62 = .ok (.getfield 119, 3) := by decide +kernel
theorem dX11_broke_65 : decode cX11_broke 65 = .ok (.aload_n 0, 1) := by decide +kernel
theorem dX11_broke_66 : decode cX11_broke 66 = .ok (.getfield 281, 3) := by decide +kernel
theorem dX11_broke_69 : decode cX11_broke 69 = .ok (.iload_n 2, 1) := by decide +kernel
theorem dX11_broke_70 : decode cX11_broke 70 = .ok (.iastore, 1) := by decide +kernel
theorem dX11_broke_71 : decode cX11_broke 71 = .ok (.aload_n 0, 1) := by decide +kernel
theorem dX11_broke_72 : decode cX11_broke 72 = .ok (.getfield 122, 3) := by decide +kernel
theorem dX11_broke_75 : decode cX11_broke 75 = .ok (.aload_n 0, 1) := by decide +kernel
theorem dX11_broke_76 : decode cX11_broke 76 = .ok (.getfield 281, 3) := by decide +kernel
theorem dX11_broke_79 : decode cX11_broke 79 = .ok (.iload_n 3, 1) := by decide +kernel
theorem dX11_broke_80 : decode cX11_broke 80 = .ok (.iastore, 1) := by decide +kernel
theorem dX11_broke_81 : decode cX11_broke 81 = .ok (.aload_n 0, 1) := by decide +kernel
theorem dX11_broke_82 : decode cX11_broke 82 = .ok (.dup, 1) := by decide +kernel
theorem dX11_broke_83 : decode cX11_broke 83 = .ok (.getfield 281, 3) := by decide +kernel
theorem dX11_broke_86 : decode cX11_broke 86 = .ok (.iconst 1, 1) := by decide +kernel
theorem dX11_broke_87 : decode cX11_broke 87 = .ok (.iadd, 1) := by decide +kernel
theorem dX11_broke_88 : decode cX11_broke 88 = .ok (.putfield 281, 3) := by decide +kernel
theorem dX11_broke_91 : decode cX11_broke 91 = .ok (.aload_n 0, 1) := by decide +kernel
theorem dX11_broke_92 : decode cX11_broke 92 = .ok (.getfield 281, 3) := by decide +kernel
theorem dX11_broke_95 : decode cX11_broke 95 = .ok (.ireturn, 1) := by decide +kernel
set_option maxRecDepth 20000 in
theorem ggX11_told_X11_in : GoodIn wsX11_told wsX11_in := goodIn_r _ [10] rfl (by decide +kernel)
set_option maxRecDepth 20000 in
theorem gX11_told_X11_in : GoodIn wsX11_told (va_wsS RX11 127 yX11_in wsX11_in) := goodIn_app (goodIn_of _ (by decide +kernel)) ggX11_told_X11_in
theorem dX11_told_0 : decode cX11_told 0 = .ok (.iload_n 1, 1) := by decide +kernel
theorem dX11_told_1 : decode cX11_told 1 = .ok (.i2l, 1) := by decide +kernel
theorem dX11_told_2 : decode cX11_told 2 = .ok (.lconst 0, 1) := by decide +kernel
theorem dX11_told_3 : decode cX11_told 3 = .ok (.ldc2_w 174, 3) := by decide +kernel
theorem dX11_told_6 : decode cX11_told 6 = .ok (.invokestatic 127, 3) := by decide +kernel
theorem dX11_told_9 : decode cX11_told 9 = .ok (.ifCond .eq 28, 3) := by decide +kernel
theorem dX11_told_12 : decode cX11_told 12 = .ok (.iload_n 2, 1) := by decide +kernel
theorem dX11_told_13 : decode cX11_told 13 = .ok (.i2l, 1) := by decide +kernel
theorem dX11_told_14 : decode cX11_told 14 = .ok (.lconst 0, 1) := by decide +kernel
theorem dX11_told_15 : decode cX11_told 15 = .ok (.ldc2_w 147, 3) := by decide +kernel
theorem dX11_told_18 : decode cX11_told 18 = .ok (.invokestatic 127, 3) := by decide +kernel
theorem dX11_told_21 : decode cX11_told 21 = .ok (.ifCond .eq 16, 3) := by decide +kernel
theorem dX11_told_24 : decode cX11_told 24 = .ok (.iload_n 3, 1) := by decide +kernel
theorem dX11_told_25 : decode cX11_told 25 = .ok (.i2l, 1) := by decide +kernel
theorem dX11_told_26 : decode cX11_told 26 = .ok (.iload_n 2, 1) := by decide +kernel
theorem dX11_told_27 : decode cX11_told 27 = .ok (.i2l, 1) := by decide +kernel
theorem dX11_told_28 : decode cX11_told 28 = .ok (.ldc2_w 147, 3) := by decide +kernel
theorem dX11_told_31 : decode cX11_told 31 = .ok (.invokestatic 127, 3) := by decide +kernel
theorem dX11_told_34 : decode cX11_told 34 = .ok (.ifCond .ne 6, 3) := by decide +kernel
theorem dX11_told_37 : decode cX11_told 37 = .ok (.bipush (-2), 2) := by decide +kernel
theorem dX11_told_39 : decode cX11_told 39 = .ok (.ireturn, 1) := by decide +kernel
theorem dX11_told_40 : decode cX11_told 40 = .ok (.iconst 0, 1) := by decide +kernel
theorem dX11_told_41 : decode cX11_told 41 = .ok (.istore 4, 2) := by decide +kernel
theorem dX11_told_43 : decode cX11_told 43 = .ok (.iconst 0, 1) := by decide +kernel
theorem dX11_told_44 : decode cX11_told 44 = .ok (.istore 5, 2) := by decide +kernel
theorem dX11_told_46 : decode cX11_told 46 = .ok (.iconst 0, 1) := by decide +kernel
theorem dX11_told_47 : decode cX11_told 47 = .ok (.istore 6, 2) := by decide +kernel
theorem dX11_told_49 : decode cX11_told 49 = .ok (.iload 6, 2) := by decide +kernel
theorem dX11_told_51 : decode cX11_told 51 = .ok (.aload_n 0, 1) := by decide +kernel
theorem dX11_told_52 : decode cX11_told 52 = .ok (.getfield 281, 3) := by decide +kernel
theorem dX11_told_55 : decode cX11_told 55 = .ok (.if_icmp .ge 124, 3) := by decide +kernel
theorem dX11_told_58 : decode cX11_told 58 = .ok (.aload_n 0, 1) := by decide +kernel
theorem dX11_told_59 : decode cX11_told 59 = .ok (.getfield 119, 3) := by decide +kernel
theorem dX11_told_62 : decode cX11_told 62 = .ok (.iload 6, 2) := by decide +kernel
theorem dX11_told_64 : decode cX11_told 64 = .ok (.iaload, 1) := by decide +kernel
theorem dX11_told_65 : decode cX11_told 65 = .ok (.iload_n 1, 1) := by decide +kernel
theorem dX11_told_66 : decode cX11_told 66 = .ok (.if_icmp .ne 107, 3) := by decide +kernel
theorem dX11_told_69 : decode cX11_told 69 = .ok (.aload_n 0, 1) := by decide +kernel
theorem dX11_told_70 : decode cX11_told 70 = .ok (.getfield 116, 3) := by decide +kernel
theorem dX11_told_73 : decode cX11_told 73 = .ok (.iload 6, 2) := by decide +kernel
theorem dX11_told_75 : decode cX11_told 75 = .ok (.iaload, 1) := by decide +kernel
theorem dX11_told_76 : decode cX11_told 76 = .ok (.i2l, 1) := by decide +kernel
theorem dX11_told_77 : decode cX11_told 77 = .ok (.iload_n 2, 1) := by decide +kernel
theorem dX11_told_78 : decode cX11_told 78 = .ok (.i2l, 1) := by decide +kernel
theorem dX11_told_79 : decode cX11_told 79 = .ok (.iload_n 3, 1) := by decide +kernel
theorem dX11_told_80 : decode cX11_told 80 = .ok (.i2l, 1) := by decide +kernel
theorem dX11_told_81 : decode cX11_told 81 = .ok (.invokestatic 127, 3) := by decide +kernel
theorem dX11_told_84 : decode cX11_told 84 = .ok (.ifCond .eq 89, 3) := by decide +kernel
theorem dX11_told_87 : decode cX11_told 87 = .ok (.iconst 1, 1) := by decide +kernel
theorem dX11_told_88 : decode cX11_told 88 = .ok (.istore 7, 2) := by decide +kernel
theorem dX11_told_90 : decode cX11_told 90 = .ok (.iconst 0, 1) := by decide +kernel
theorem dX11_told_91 : decode cX11_told 91 = .ok (.istore 8, 2) := by decide +kernel
theorem dX11_told_93 : decode cX11_told 93 = .ok (.iload 8, 2) := by decide +kernel
theorem dX11_told_95 : decode cX11_told 95 = .ok (.iload 6, 2) := by decide +kernel
theorem dX11_told_97 : decode cX11_told 97 = .ok (.if_icmp .ge 49, 3) := by decide +kernel
theorem dX11_told_100 : decode cX11_told 100 = .ok (.iload 7, 2) := by decide +kernel
theorem dX11_told_102 : decode cX11_told 102 = .ok (.ifCond .eq 35, 3) := by decide +kernel
theorem dX11_told_105 : decode cX11_told 105 = .ok (.aload_n 0, 1) := by decide +kernel
theorem dX11_told_106 : decode cX11_told 106 = .ok (.getfield 119, 3) := by decide +kernel
theorem dX11_told_109 : decode cX11_told 109 = .ok (.iload 8, 2) := by decide +kernel
theorem dX11_told_111 : decode cX11_told 111 = .ok (.iaload, 1) := by decide +kernel
theorem dX11_told_112 : decode cX11_told 112 = .ok (.iload_n 1, 1) := by decide +kernel
theorem dX11_told_113 : decode cX11_told 113 = .ok (.if_icmp .ne 20, 3) := by decide +kernel
theorem dX11_told_116 : decode cX11_told 116 = .ok (.aload_n 0, 1) := by decide +kernel
theorem dX11_told_117 : decode cX11_told 117 = .ok (.getfield 116, 3) := by decide +kernel
theorem dX11_told_120 : decode cX11_told 120 = .ok (.iload 8, 2) := by decide +kernel
theorem dX11_told_122 : decode cX11_told 122 = .ok (.iaload, 1) := by decide +kernel
theorem dX11_told_123 : decode cX11_told 123 = .ok (.aload_n 0, 1) := by decide +kernel
theorem dX11_told_124 : decode cX11_told 124 = .ok (.getfield 116, 3) := by decide +kernel
theorem dX11_told_127 : decode cX11_told 127 = .ok (.iload 6, 2) := by decide +kernel
theorem dX11_told_129 : decode cX11_told 129 = .ok (.iaload, 1) := by decide +kernel
theorem dX11_told_130 : decode cX11_told 130 = .ok (.if_icmp .eq 7, 3) := by decide +kernel
theorem dX11_told_133 : decode cX11_told 133 = .ok (.iconst 1, 1) := by decide +kernel
theorem dX11_told_134 : decode cX11_told 134 = .ok (.goto 4, 3) := by decide +kernel
theorem dX11_told_137 : decode cX11_told 137 = .ok (.iconst 0, 1) := by decide +kernel
theorem dX11_told_138 : decode cX11_told 138 = .ok (.istore 7, 2) := by decide +kernel
theorem dX11_told_140 : decode cX11_told 140 = .ok (.iinc 8 1, 3) := by decide +kernel
theorem dX11_told_143 : decode cX11_told 143 = .ok (.goto (-50), 3) := by decide +kernel
theorem dX11_told_146 : decode cX11_told 146 = .ok (.iload 4, 2) := by decide +kernel
theorem dX11_told_148 : decode cX11_told 148 = .ok (.iload 7, 2) := by decide +kernel
theorem dX11_told_150 : decode cX11_told 150 = .ok (.ifCond .eq 7, 3) := by decide +kernel
theorem dX11_told_153 : decode cX11_told 153 = .ok (.iconst 1, 1) := by decide +kernel
theorem dX11_told_154 : decode cX11_told 154 = .ok (.goto 4, 3) := by decide +kernel
theorem dX11_told_157 : decode cX11_told 157 = .ok (.iconst 0, 1) := by decide +kernel
theorem dX11_told_158 : decode cX11_told 158 = .ok (.iadd, 1) := by decide +kernel
theorem dX11_told_159 : decode cX11_told 159 = .ok (.istore 4, 2) := by decide +kernel
theorem dX11_told_161 : decode cX11_told 161 = .ok (.iload 5, 2) := by decide +kernel
theorem dX11_told_163 : decode cX11_told 163 = .ok (.aload_n 0, 1) := by decide +kernel
theorem dX11_told_164 : decode cX11_told 164 = .ok (.getfield 122, 3) := by decide +kernel
theorem dX11_told_167 : decode cX11_told 167 = .ok (.iload 6, 2) := by decide +kernel
theorem dX11_told_169 : decode cX11_told 169 = .ok (.iaload, 1) := by decide +kernel
theorem dX11_told_170 : decode cX11_told 170 = .ok (.iadd, 1) := by decide +kernel
theorem dX11_told_171 : decode cX11_told 171 = .ok (.istore 5, 2) := by decide +kernel
theorem dX11_told_173 : decode cX11_told 173 = .ok (.iinc 6 1, 3) := by decide +kernel
theorem dX11_told_176 : decode cX11_told 176 = .ok (.goto (-127), 3) := by decide +kernel
theorem dX11_told_179 : decode cX11_told 179 = .ok (.iload 4, 2) := by decide +kernel
theorem dX11_told_181 : decode cX11_told 181 = .ok (.iconst 3, 1) := by decide +kernel
theorem dX11_told_182 : decode cX11_told 182 = .ok (.if_icmp .ge 8, 3) := by decide +kernel
theorem dX11_told_185 : decode cX11_told 185 = .ok (.bipush (-9), 2) := by decide +kernel
theorem dX11_told_187 : decode cX11_told 187 = .ok (.goto 5, 3) := by decide +kernel
theorem dX11_told_190 : decode cX11_told 190 = .ok (.iload 5, 2) := by decide +kernel
theorem dX11_told_192 : decode cX11_told 192 = .ok (.ireturn, 1) := by decide +kernel
theorem dX11_count_0 : decode cX11_count 0 = .ok (.iconst 0, 1) := by decide +kernel
theorem dX11_count_1 : decode cX11_count 1 = .ok (.istore_n 2, 1) := by decide +kernel
theorem dX11_count_2 : decode cX11_count 2 = .ok (.iload_n 1, 1) := by decide +kernel
theorem dX11_count_3 : decode cX11_count 3 = .ok (.tableswitch 160 0 6 #[41, 46, 81, 116, 123, 130, 135], 41) := by decide +kernel
theorem dX11_count_44 : decode cX11_count 44 = .ok (.aload_n 0, 1) := by decide +kernel
theorem dX11_count_45 : decode cX11_count 45 = .ok (.getfield 131, 3) := by decide +kernel
theorem dX11_count_48 : decode cX11_count 48 = .ok (.ireturn, 1) := by decide +kernel
theorem dX11_count_49 : decode cX11_count 49 = .ok (.iconst 0, 1) := by decide +kernel
theorem dX11_count_50 : decode cX11_count 50 = .ok (.istore_n 3, 1) := by decide +kernel
theorem dX11_count_51 : decode cX11_count 51 = .ok (.iload_n 3, 1) := by decide +kernel
theorem dX11_count_52 : decode cX11_count 52 = .ok (.aload_n 0, 1) := by decide +kernel
theorem dX11_count_53 : decode cX11_count 53 = .ok (.getfield 153, 3) := by decide +kernel
theorem dX11_count_56 : decode cX11_count 56 = .ok (.if_icmp .ge 26, 3) := by decide +kernel
theorem dX11_count_59 : decode cX11_count 59 = .ok (.iload_n 2, 1) := by decide +kernel
theorem dX11_count_60 : decode cX11_count 60 = .ok (.aload_n 0, 1) := by decide +kernel
theorem dX11_count_61 : decode cX11_count 61 = .ok (.getfield 34, 3) := by decide +kernel
theorem dX11_count_64 : decode cX11_count 64 = .ok (.iload_n 3, 1) := by decide +kernel
theorem dX11_count_65 : decode cX11_count 65 = .ok (.baload, 1) := by decide +kernel
theorem dX11_count_66 : decode cX11_count 66 = .ok (.ifCond .eq 7, 3) := by decide +kernel
theorem dX11_count_69 : decode cX11_count 69 = .ok (.iconst 0, 1) := by decide +kernel
theorem dX11_count_70 : decode cX11_count 70 = .ok (.goto 4, 3) := by decide +kernel
theorem dX11_count_73 : decode cX11_count 73 = .ok (.iconst 1, 1) := by decide +kernel
theorem dX11_count_74 : decode cX11_count 74 = .ok (.iadd, 1) := by decide +kernel
theorem dX11_count_75 : decode cX11_count 75 = .ok (.istore_n 2, 1) := by decide +kernel
theorem dX11_count_76 : decode cX11_count 76 = .ok (.iinc 3 1, 3) := by decide +kernel
theorem dX11_count_79 : decode cX11_count 79 = .ok (.goto (-28), 3) := by decide +kernel
theorem dX11_count_82 : decode cX11_count 82 = .ok (.iload_n 2, 1) := by decide +kernel
theorem dX11_count_83 : decode cX11_count 83 = .ok (.ireturn, 1) := by decide +kernel
theorem dX11_count_84 : decode cX11_count 84 = .ok (.iconst 0, 1) := by decide +kernel
theorem dX11_count_85 : decode cX11_count 85 = .ok (.istore_n 3, 1) := by decide +kernel
theorem dX11_count_86 : decode cX11_count 86 = .ok (.iload_n 3, 1) := by decide +kernel
theorem dX11_count_87 : decode cX11_count 87 = .ok (.aload_n 0, 1) := by decide +kernel
theorem dX11_count_88 : decode cX11_count 88 = .ok (.getfield 182, 3) := by decide +kernel
theorem dX11_count_91 : decode cX11_count 91 = .ok (.if_icmp .ge 26, 3) := by decide +kernel
theorem dX11_count_94 : decode cX11_count 94 = .ok (.iload_n 2, 1) := by decide +kernel
theorem dX11_count_95 : decode cX11_count 95 = .ok (.aload_n 0, 1) := by decide +kernel
theorem dX11_count_96 : decode cX11_count 96 = .ok (.getfield 53, 3) := by decide +kernel
theorem dX11_count_99 : decode cX11_count 99 = .ok (.iload_n 3, 1) := by decide +kernel
theorem dX11_count_100 : decode cX11_count 100 = .ok (.baload, 1) := by decide +kernel
theorem dX11_count_101 : decode cX11_count 101 = .ok (.ifCond .eq 7, 3) := by decide +kernel
theorem dX11_count_104 : decode cX11_count 104 = .ok (.iconst 0, 1) := by decide +kernel
theorem dX11_count_105 : decode cX11_count 105 = .ok (.goto 4, 3) := by decide +kernel
theorem dX11_count_108 : decode cX11_count 108 = .ok (.iconst 1, 1) := by decide +kernel
theorem dX11_count_109 : decode cX11_count 109 = .ok (.iadd, 1) := by decide +kernel
theorem dX11_count_110 : decode cX11_count 110 = .ok (.istore_n 2, 1) := by decide +kernel
theorem dX11_count_111 : decode cX11_count 111 = .ok (.iinc 3 1, 3) := by decide +kernel
theorem dX11_count_114 : decode cX11_count 114 = .ok (.goto (-28), 3) := by decide +kernel
theorem dX11_count_117 : decode cX11_count 117 = .ok (.iload_n 2, 1) := by decide +kernel
theorem dX11_count_118 : decode cX11_count 118 = .ok (.ireturn, 1) := by decide +kernel
theorem dX11_count_119 : decode cX11_count 119 = .ok (.aload_n 0, 1) := by decide +kernel
theorem dX11_count_120 : decode cX11_count 120 = .ok (.getfield 101, 3) := by decide +kernel
theorem dX11_count_123 : decode cX11_count 123 = .ok (.iconst 0, 1) := by decide +kernel
theorem dX11_count_124 : decode cX11_count 124 = .ok (.iaload, 1) := by decide +kernel
theorem dX11_count_125 : decode cX11_count 125 = .ok (.ireturn, 1) := by decide +kernel
theorem dX11_count_126 : decode cX11_count 126 = .ok (.aload_n 0, 1) := by decide +kernel
theorem dX11_count_127 : decode cX11_count 127 = .ok (.getfield 101, 3) := by decide +kernel
theorem dX11_count_130 : decode cX11_count 130 = .ok (.iconst 1, 1) := by decide +kernel
theorem dX11_count_131 : decode cX11_count 131 = .ok (.iaload, 1) := by decide +kernel
theorem dX11_count_132 : decode cX11_count 132 = .ok (.ireturn, 1) := by decide +kernel
theorem dX11_count_133 : decode cX11_count 133 = .ok (.aload_n 0, 1) := by decide +kernel
theorem dX11_count_134 : decode cX11_count 134 = .ok (.getfield 281, 3) := by decide +kernel
theorem dX11_count_137 : decode cX11_count 137 = .ok (.ireturn, 1) := by decide +kernel
theorem dX11_count_138 : decode cX11_count 138 = .ok (.iconst 0, 1) := by decide +kernel
theorem dX11_count_139 : decode cX11_count 139 = .ok (.istore_n 3, 1) := by decide +kernel
theorem dX11_count_140 : decode cX11_count 140 = .ok (.iload_n 3, 1) := by decide +kernel
theorem dX11_count_141 : decode cX11_count 141 = .ok (.bipush 30, 2) := by decide +kernel
theorem dX11_count_143 : decode cX11_count 143 = .ok (.if_icmp .ge 18, 3) := by decide +kernel
theorem dX11_count_146 : decode cX11_count 146 = .ok (.iload_n 2, 1) := by decide +kernel
theorem dX11_count_147 : decode cX11_count 147 = .ok (.aload_n 0, 1) := by decide +kernel
theorem dX11_count_148 : decode cX11_count 148 = .ok (.getfield 16, 3) := by decide +kernel
theorem dX11_count_151 : decode cX11_count 151 = .ok (.iload_n 3, 1) := by decide +kernel
theorem dX11_count_152 : decode cX11_count 152 = .ok (.iaload, 1) := by decide +kernel
theorem dX11_count_153 : decode cX11_count 153 = .ok (.iadd, 1) := by decide +kernel
theorem dX11_count_154 : decode cX11_count 154 = .ok (.istore_n 2, 1) := by decide +kernel
theorem dX11_count_155 : decode cX11_count 155 = .ok (.iinc 3 1, 3) := by decide +kernel
theorem dX11_count_158 : decode cX11_count 158 = .ok (.goto (-18), 3) := by decide +kernel
theorem dX11_count_161 : decode cX11_count 161 = .ok (.iload_n 2, 1) := by decide +kernel
theorem dX11_count_162 : decode cX11_count 162 = .ok (.ireturn, 1) := by decide +kernel
theorem dX11_count_163 : decode cX11_count 163 = .ok (.bipush (-2), 2) := by decide +kernel
theorem dX11_count_165 : decode cX11_count 165 = .ok (.ireturn, 1) := by decide +kernel
